theorem dX11_packets_1 : decode cX11_packets 1 = .ok (.getfield 21, 3) := by decide +kernel
theorem dX11_packets_4 : decode cX11_packets 4 = .ok (.getfield 154, 3) := by decide +kernel
theorem dX11_packets_7 : decode cX11_packets 7 = .ok (.ireturn, 1) := by decide +kernel
theorem dX11_steps_0 : decode cX11_steps 0 = .ok (.aload_n 0, 1) := by decide +kernel
theorem dX11_steps_1 : decode cX11_steps 1 = .ok (.getfield 21, 3) := by decide +kernel
theorem dX11_steps_4 : decode cX11_steps 4 = .ok (.getfield 157, 3) := by decide +kernel
theorem dX11_steps_7 : decode cX11_steps 7 = .ok (.ireturn, 1) := by decide +kernel
theorem dX11_gone_0 : decode cX11_gone 0 = .ok (.aload_n 0, 1) := by decide +kernel
theorem dX11_gone_1 : decode cX11_gone 1 = .ok (.getfield 21, 3) := by decide +kernel
theorem dX11_gone_4 : decode cX11_gone 4 = .ok (.invokevirtual 160, 3) := by decide +kernel
theorem dX11_gone_7 : decode cX11_gone 7 = .ok (.ireturn, 1) := by decide +kernel
theorem dX11_frames_0 : decode cX11_frames 0 = .ok (.aload_n 0, 1) := by decide +kernel
theorem dX11_frames_1 : decode cX11_frames 1 = .ok (.getfield 21, 3) := by decide +kernel
theorem dX11_frames_4 : decode cX11_frames 4 = .ok (.getfield 131, 3) := by decide +kernel
theorem dX11_frames_7 : decode cX11_frames 7 = .ok (.getfield 135, 3) := by decide +kernel
theorem dX11_frames_10 : decode cX11_frames 10 = .ok (.ireturn, 1) := by decide +kernel
theorem dX11_frame_0 : decode cX11_frame 0 = .ok (.aload_n 0, 1) := by decide +kernel
theorem dX11_frame_1 : decode cX11_frame 1 = .ok (.getfield 21, 3) := by decide +kernel
theorem dX11_frame_4 : decode cX11_frame 4 = .ok (.getfield 131, 3) := by decide +kernel
theorem dX11_frame_7 : decode cX11_frame 7 = .ok (.iload_n 1, 1) := by decide +kernel
theorem dX11_frame_8 : decode cX11_frame 8 = .ok (.invokevirtual 163, 3) := by decide +kernel
theorem dX11_frame_11 : decode cX11_frame 11 = .ok (.astore_n 3, 1) := by decide +kernel
theorem dX11_frame_12 : decode cX11_frame 12 = .ok (.aload_n 3, 1) := by decide +kernel
theorem dX11_frame_13 : decode cX11_frame 13 = .ok (.ifnonnull 13, 3) := by decide +kernel
theorem dX11_frame_16 : decode cX11_frame 16 = .ok (.new 167, 3) := by decide +kernel
theorem dX11_frame_19 : decode cX11_frame 19 = .ok (.dup, 1) := by decide +kernel
theorem dX11_frame_20 : decode cX11_frame 20 = .ok (.ldc 169, 2) := by decide +kernel
theorem dX11_frame_22 : decode cX11_frame 22 = .ok (.invokespecial 171, 3) := by decide +kernel
theorem dX11_frame_25 : decode cX11_frame 25 = .ok (.athrow, 1) := by decide +kernel
theorem dX11_frame_26 : decode cX11_frame 26 = .ok (.iload_n 2, 1) := by decide +kernel
theorem dX11_frame_27 : decode cX11_frame 27 = .ok (.bipush 8, 2) := by decide +kernel
theorem dX11_frame_29 : decode cX11_frame 29 = .ok (.invokestatic 172, 3) := by decide +kernel
theorem dX11_frame_32 : decode cX11_frame 32 = .ok (.aload_n 3, 1) := by decide +kernel
theorem dX11_frame_33 : decode cX11_frame 33 = .ok (.iload_n 2, 1) := by decide +kernel
theorem dX11_frame_34 : decode cX11_frame 34 = .ok (.invokevirtual 176, 3) := by decide +kernel
theorem dX11_frame_37 : decode cX11_frame 37 = .ok (.ireturn, 1) := by decide +kernel
theorem dX11_knows_0 : decode cX11_knows 0 = .ok (.aload_n 0, 1) := by decide +kernel
theorem dX11_knows_1 : decode cX11_knows 1 = .ok (.iload_n 1, 1) := by decide +kernel
theorem dX11_knows_2 : decode cX11_knows 2 = .ok (.invokevirtual 60, 3) := by decide +kernel
theorem dX11_knows_5 : decode cX11_knows 5 = .ok (.astore_n 3, 1) := by decide +kernel
theorem dX11_knows_6 : decode cX11_knows 6 = .ok (.iload_n 2, 1) := by decide +kernel
theorem dX11_knows_7 : decode cX11_knows 7 = .ok (.invokestatic 70, 3) := by decide +kernel
theorem dX11_knows_10 : decode cX11_knows 10 = .ok (.aload_n 3, 1) := by decide +kernel
theorem dX11_knows_11 : decode cX11_knows 11 = .ok (.iload_n 2, 1) := by decide +kernel
theorem dX11_knows_12 : decode cX11_knows 12 = .ok (.invokevirtual 181, 3) := by decide +kernel
theorem dX11_knows_15 : decode cX11_knows 15 = .ok (.ireturn, 1) := by decide +kernel
theorem dX11_waiting_0 : decode cX11_waiting 0 = .ok (.aload_n 0, 1) := by decide +kernel
theorem dX11_waiting_1 : decode cX11_waiting 1 = .ok (.iload_n 1, 1) := by decide +kernel
theorem dX11_waiting_2 : decode cX11_waiting 2 = .ok (.invokevirtual 60, 3) := by decide +kernel
theorem dX11_waiting_5 : decode cX11_waiting 5 = .ok (.getfield 184, 3) := by decide +kernel
theorem dX11_waiting_8 : decode cX11_waiting 8 = .ok (.ireturn, 1) := by decide +kernel
theorem dX11_heaps_0 : decode cX11_heaps 0 = .ok (.aload_n 0, 1) := by decide +kernel
theorem dX11_heaps_1 : decode cX11_heaps 1 = .ok (.iload_n 1, 1) := by decide +kernel
theorem dX11_heaps_2 : decode cX11_heaps 2 = .ok (.invokevirtual 60, 3) := by decide +kernel
theorem dX11_heaps_5 : decode cX11_heaps 5 = .ok (.getfield 187, 3) := by decide +kernel
theorem dX11_heaps_8 : decode cX11_heaps 8 = .ok (.ireturn, 1) := by decide +kernel
theorem dX11_noted_0 : decode cX11_noted 0 = .ok (.aload_n 0, 1) := by decide +kernel
theorem dX11_noted_1 : decode cX11_noted 1 = .ok (.iload_n 1, 1) := by decide +kernel
theorem dX11_noted_2 : decode cX11_noted 2 = .ok (.invokevirtual 60, 3) := by decide +kernel
theorem dX11_noted_5 : decode cX11_noted 5 = .ok (.getfield 190, 3) := by decide +kernel
theorem dX11_noted_8 : decode cX11_noted 8 = .ok (.ireturn, 1) := by decide +kernel
theorem dX11_note_0 : decode cX11_note 0 = .ok (.aload_n 0, 1) := by decide +kernel
theorem dX11_note_1 : decode cX11_note 1 = .ok (.iload_n 1, 1) := by decide +kernel
theorem dX11_note_2 : decode cX11_note 2 = .ok (.invokevirtual 60, 3) := by decide +kernel
theorem dX11_note_5 : decode cX11_note 5 = .ok (.astore 4, 2) := by decide +kernel
theorem dX11_note_7 : decode cX11_note 7 = .ok (.aload 4, 2) := by decide +kernel
theorem dX11_note_9 : decode cX11_note 9 = .ok (.iload_n 2, 1) := by decide +kernel
theorem dX11_note_10 : decode cX11_note 10 = .ok (.invokevirtual 193, 3) := by decide +kernel
theorem dX11_note_13 : decode cX11_note 13 = .ok (.ifCond .ne 13, 3) := by decide +kernel
theorem dX11_note_16 : decode cX11_note 16 = .ok (.new 167, 3) := by decide +kernel
theorem dX11_note_19 : decode cX11_note 19 = .ok (.dup, 1) := by decide +kernel
theorem dX11_note_20 : decode cX11_note 20 = .ok (.ldc 196, 2) := by decide +kernel
theorem dX11_note_22 : decode cX11_note 22 = .ok (.invokespecial 171, 3) := by decide +kernel
theorem dX11_note_25 : decode cX11_note 25 = .ok (.athrow, 1) := by decide +kernel
theorem dX11_note_26 : decode cX11_note 26 = .ok (.iload_n 3, 1) := by decide +kernel
theorem dX11_note_27 : decode cX11_note 27 = .ok (.bipush 6, 2) := by decide +kernel
theorem dX11_note_29 : decode cX11_note 29 = .ok (.invokestatic 172, 3) := by decide +kernel
theorem dX11_note_32 : decode cX11_note 32 = .ok (.aload 4, 2) := by decide +kernel
theorem dX11_note_34 : decode cX11_note 34 = .ok (.iload_n 2, 1) := by decide +kernel
theorem dX11_note_35 : decode cX11_note 35 = .ok (.iload_n 3, 1) := by decide +kernel
theorem dX11_note_36 : decode cX11_note 36 = .ok (.invokevirtual 198, 3) := by decide +kernel
theorem dX11_note_39 : decode cX11_note 39 = .ok (.ireturn, 1) := by decide +kernel
theorem dX11_way_0 : decode cX11_way 0 = .ok (.aload_n 0, 1) := by decide +kernel
theorem dX11_way_1 : decode cX11_way 1 = .ok (.iload_n 1, 1) := by decide +kernel
theorem dX11_way_2 : decode cX11_way 2 = .ok (.invokevirtual 60, 3) := by decide +kernel
theorem dX11_way_5 : decode cX11_way 5 = .ok (.getfield 64, 3) := by decide +kernel
theorem dX11_way_8 : decode cX11_way 8 = .ok (.astore 4, 2) := by decide +kernel
theorem dX11_way_10 : decode cX11_way 10 = .ok (.iload_n 2, 1) := by decide +kernel
theorem dX11_way_11 : decode cX11_way 11 = .ok (.invokestatic 70, 3) := by decide +kernel
theorem dX11_way_14 : decode cX11_way 14 = .ok (.iload_n 3, 1) := by decide +kernel
theorem dX11_way_15 : decode cX11_way 15 = .ok (.iconst 3, 1) := by decide +kernel
theorem dX11_way_16 : decode cX11_way 16 = .ok (.invokestatic 172, 3) := by decide +kernel
theorem dX11_way_19 : decode cX11_way 19 = .ok (.iload_n 3, 1) := by decide +kernel
theorem dX11_way_20 : decode cX11_way 20 = .ok (.ifCond .ne 10, 3) := by decide +kernel
theorem dX11_way_23 : decode cX11_way 23 = .ok (.aload 4, 2) := by decide +kernel
theorem dX11_way_25 : decode cX11_way 25 = .ok (.iload_n 2, 1) := by decide +kernel
theorem dX11_way_26 : decode cX11_way 26 = .ok (.invokevirtual 201, 3) := by decide +kernel
theorem dX11_way_29 : decode cX11_way 29 = .ok (.ireturn, 1) := by decide +kernel
theorem dX11_way_30 : decode cX11_way 30 = .ok (.iload_n 3, 1) := by decide +kernel
theorem dX11_way_31 : decode cX11_way 31 = .ok (.iconst 1, 1) := by decide +kernel
theorem dX11_way_32 : decode cX11_way 32 = .ok (.if_icmp .ne 12, 3) := by decide +kernel
theorem dX11_way_35 : decode cX11_way 35 = .ok (.aload 4, 2) := by decide +kernel
theorem dX11_way_37 : decode cX11_way 37 = .ok (.iload_n 2, 1) := by decide +kernel
theorem dX11_way_38 : decode cX11_way 38 = .ok (.invokevirtual 204, 3) := by decide +kernel
theorem dX11_way_41 : decode cX11_way 41 = .ok (.goto 9, 3) := by decide +kernel
theorem dX11_way_44 : decode cX11_way 44 = .ok (.aload 4, 2) := by decide +kernel
theorem dX11_way_46 : decode cX11_way 46 = .ok (.iload_n 2, 1) := by decide +kernel
theorem dX11_way_47 : decode cX11_way 47 = .ok (.invokevirtual 207, 3) := by decide +kernel
theorem dX11_way_50 : decode cX11_way 50 = .ok (.ireturn, 1) := by decide +kernel
theorem dX11_carried_0 : decode cX11_carried 0 = .ok (.aload_n 0, 1) := by decide +kernel
theorem dX11_carried_1 : decode cX11_carried 1 = .ok (.iload_n 1, 1) := by decide +kernel
theorem dX11_carried_2 : decode cX11_carried 2 = .ok (.invokevirtual 47, 3) := by decide +kernel
theorem dX11_carried_5 : decode cX11_carried 5 = .ok (.aload_n 0, 1) := by decide +kernel
theorem dX11_carried_6 : decode cX11_carried 6 = .ok (.getfield 21, 3) := by decide +kernel
theorem dX11_carried_9 : decode cX11_carried 9 = .ok (.iload_n 1, 1) := by decide +kernel
theorem dX11_carried_10 : decode cX11_carried 10 = .ok (.invokevirtual 210, 3) := by decide +kernel
theorem dX11_carried_13 : decode cX11_carried 13 = .ok (.ireturn, 1) := by decide +kernel
theorem dX11_use_0 : decode cX11_use 0 = .ok (.aload_n 0, 1) := by decide +kernel
theorem dX11_use_1 : decode cX11_use 1 = .ok (.getfield 21, 3) := by decide +kernel
theorem dX11_use_4 : decode cX11_use 4 = .ok (.getfield 157, 3) := by decide +kernel
theorem dX11_use_7 : decode cX11_use 7 = .ok (.ifCond .ne 5, 3) := by decide +kernel
theorem dX11_use_10 : decode cX11_use 10 = .ok (.dconst 0, 1) := by decide +kernel
theorem dX11_use_11 : decode cX11_use 11 = .ok (.dreturn, 1) := by decide +kernel
theorem dX11_use_12 : decode cX11_use 12 = .ok (.aload_n 0, 1) := by decide +kernel
theorem dX11_use_13 : decode cX11_use 13 = .ok (.getfield 21, 3) := by decide +kernel
theorem dX11_use_16 : decode cX11_use 16 = .ok (.getfield 213, 3) := by decide +kernel
theorem dX11_use_19 : decode cX11_use 19 = .ok (.i2d, 1) := by decide +kernel
theorem dX11_use_20 : decode cX11_use 20 = .ok (.aload_n 0, 1) := by decide +kernel
theorem dX11_use_21 : decode cX11_use 21 = .ok (.getfield 21, 3) := by decide +kernel
theorem dX11_use_24 : decode cX11_use 24 = .ok (.getfield 157, 3) := by decide +kernel
theorem dX11_use_27 : decode cX11_use 27 = .ok (.i2d, 1) := by decide +kernel
theorem dX11_use_28 : decode cX11_use 28 = .ok (.ddiv, 1) := by decide +kernel
theorem dX11_use_29 : decode cX11_use 29 = .ok (.dreturn, 1) := by decide +kernel
theorem dX11_whoTells_0 : decode cX11_whoTells 0 = .ok (.aload_n 0, 1) := by decide +kernel
theorem dX11_whoTells_1 : decode cX11_whoTells 1 = .ok (.iload_n 1, 1) := by decide +kernel
theorem dX11_whoTells_2 : decode cX11_whoTells 2 = .ok (.invokevirtual 60, 3) := by decide +kernel
theorem dX11_whoTells_5 : decode cX11_whoTells 5 = .ok (.pop, 1) := by decide +kernel
theorem dX11_whoTells_6 : decode cX11_whoTells 6 = .ok (.iload_n 2, 1) := by decide +kernel
theorem dX11_whoTells_7 : decode cX11_whoTells 7 = .ok (.invokestatic 70, 3) := by decide +kernel
theorem dX11_whoTells_10 : decode cX11_whoTells 10 = .ok (.iload_n 3, 1) := by decide +kernel
theorem dX11_whoTells_11 : decode cX11_whoTells 11 = .ok (.invokestatic 122, 3) := by decide +kernel
theorem dX11_whoTells_14 : decode cX11_whoTells 14 = .ok (.aload_n 0, 1) := by decide +kernel
theorem dX11_whoTells_15 : decode cX11_whoTells 15 = .ok (.getfield 28, 3) := by decide +kernel
theorem dX11_whoTells_18 : decode cX11_whoTells 18 = .ok (.aload_n 0, 1) := by decide +kernel
theorem dX11_whoTells_19 : decode cX11_whoTells 19 = .ok (.getfield 21, 3) := by decide +kernel
theorem dX11_whoTells_22 : decode cX11_whoTells 22 = .ok (.invokevirtual 216, 3) := by decide +kernel
theorem dX11_whoTells_25 : decode cX11_whoTells 25 = .ok (.aload_n 0, 1) := by decide +kernel
theorem dX11_whoTells_26 : decode cX11_whoTells 26 = .ok (.getfield 28, 3) := by decide +kernel
theorem dX11_whoTells_29 : decode cX11_whoTells 29 = .ok (.iload_n 1, 1) := by decide +kernel
theorem dX11_whoTells_30 : decode cX11_whoTells 30 = .ok (.iload_n 2, 1) := by decide +kernel
theorem dX11_whoTells_31 : decode cX11_whoTells 31 = .ok (.bipush 8, 2) := by decide +kernel
theorem dX11_whoTells_33 : decode cX11_whoTells 33 = .ok (.iload_n 3, 1) := by decide +kernel
theorem dX11_whoTells_34 : decode cX11_whoTells 34 = .ok (.iconst 0, 1) := by decide +kernel
theorem dX11_whoTells_35 : decode cX11_whoTells 35 = .ok (.invokevirtual 220, 3) := by decide +kernel
theorem dX11_whoTells_38 : decode cX11_whoTells 38 = .ok (.aload_n 0, 1) := by decide +kernel
theorem dX11_whoTells_39 : decode cX11_whoTells 39 = .ok (.getfield 28, 3) := by decide +kernel
theorem dX11_whoTells_42 : decode cX11_whoTells 42 = .ok (.getfield 224, 3) := by decide +kernel
theorem dX11_whoTells_45 : decode cX11_whoTells 45 = .ok (.ireturn, 1) := by decide +kernel
theorem dX11_hops_0 : decode cX11_hops 0 = .ok (.aload_n 0, 1) := by decide +kernel
theorem dX11_hops_1 : decode cX11_hops 1 = .ok (.iload_n 1, 1) := by decide +kernel
theorem dX11_hops_2 : decode cX11_hops 2 = .ok (.invokevirtual 60, 3) := by decide +kernel
theorem dX11_hops_5 : decode cX11_hops 5 = .ok (.pop, 1) := by decide +kernel
theorem dX11_hops_6 : decode cX11_hops 6 = .ok (.iload_n 2, 1) := by decide +kernel
theorem dX11_hops_7 : decode cX11_hops 7 = .ok (.invokestatic 70, 3) := by decide +kernel
theorem dX11_hops_10 : decode cX11_hops 10 = .ok (.iconst 1, 1) := by decide +kernel
theorem dX11_hops_11 : decode cX11_hops 11 = .ok (.istore_n 3, 1) := by decide +kernel
theorem dX11_hops_12 : decode cX11_hops 12 = .ok (.iload_n 3, 1) := by decide +kernel
theorem dX11_hops_13 : decode cX11_hops 13 = .ok (.bipush 12, 2) := by decide +kernel
theorem dX11_hops_15 : decode cX11_hops 15 = .ok (.if_icmp .gt 45, 3) := by decide +kernel
theorem dX11_hops_18 : decode cX11_hops 18 = .ok (.aload_n 0, 1) := by decide +kernel
theorem dX11_hops_19 : decode cX11_hops 19 = .ok (.getfield 28, 3) := by decide +kernel
theorem dX11_hops_22 : decode cX11_hops 22 = .ok (.aload_n 0, 1) := by decide +kernel
theorem dX11_hops_23 : decode cX11_hops 23 = .ok (.getfield 21, 3) := by decide +kernel
theorem dX11_hops_26 : decode cX11_hops 26 = .ok (.invokevirtual 216, 3) := by decide +kernel
theorem dX11_hops_29 : decode cX11_hops 29 = .ok (.aload_n 0, 1) := by decide +kernel
theorem dX11_hops_30 : decode cX11_hops 30 = .ok (.getfield 28, 3) := by decide +kernel
theorem dX11_hops_33 : decode cX11_hops 33 = .ok (.iload_n 1, 1) := by decide +kernel
theorem dX11_hops_34 : decode cX11_hops 34 = .ok (.iload_n 2, 1) := by decide +kernel
theorem dX11_hops_35 : decode cX11_hops 35 = .ok (.bipush 8, 2) := by decide +kernel
theorem dX11_hops_37 : decode cX11_hops 37 = .ok (.iload_n 3, 1) := by decide +kernel
theorem dX11_hops_38 : decode cX11_hops 38 = .ok (.iconst 0, 1) := by decide +kernel
theorem dX11_hops_39 : decode cX11_hops 39 = .ok (.invokevirtual 220, 3) := by decide +kernel
theorem dX11_hops_42 : decode cX11_hops 42 = .ok (.aload_n 0, 1) := by decide +kernel
theorem dX11_hops_43 : decode cX11_hops 43 = .ok (.getfield 28, 3) := by decide +kernel
theorem dX11_hops_46 : decode cX11_hops 46 = .ok (.getfield 227, 3) := by decide +kernel
theorem dX11_hops_49 : decode cX11_hops 49 = .ok (.ifCond .eq 5, 3) := by decide +kernel
theorem dX11_hops_52 : decode cX11_hops 52 = .ok (.iload_n 3, 1) := by decide +kernel
theorem dX11_hops_53 : decode cX11_hops 53 = .ok (.ireturn, 1) := by decide +kernel
theorem dX11_hops_54 : decode cX11_hops 54 = .ok (.iinc 3 1, 3) := by decide +kernel
theorem dX11_hops_57 : decode cX11_hops 57 = .ok (.goto (-45), 3) := by decide +kernel
theorem dX11_hops_60 : decode cX11_hops 60 = .ok (.iconst (-1), 1) := by decide +kernel
theorem dX11_hops_61 : decode cX11_hops 61 = .ok (.ireturn, 1) := by decide +kernel
theorem dX11_widest_0 : decode cX11_widest 0 = .ok (.aload_n 0, 1) := by decide +kernel
theorem dX11_widest_1 : decode cX11_widest 1 = .ok (.iload_n 1, 1) := by decide +kernel
theorem dX11_widest_2 : decode cX11_widest 2 = .ok (.invokevirtual 60, 3) := by decide +kernel
theorem dX11_widest_5 : decode cX11_widest 5 = .ok (.pop, 1) := by decide +kernel
theorem dX11_widest_6 : decode cX11_widest 6 = .ok (.iload_n 2, 1) := by decide +kernel
theorem dX11_widest_7 : decode cX11_widest 7 = .ok (.invokestatic 70, 3) := by decide +kernel
theorem dX11_widest_10 : decode cX11_widest 10 = .ok (.aload_n 0, 1) := by decide +kernel
theorem dX11_widest_11 : decode cX11_widest 11 = .ok (.getfield 28, 3) := by decide +kernel
theorem dX11_widest_14 : decode cX11_widest 14 = .ok (.aload_n 0, 1) := by decide +kernel
theorem dX11_widest_15 : decode cX11_widest 15 = .ok (.getfield 21, 3) := by decide +kernel
theorem dX11_widest_18 : decode cX11_widest 18 = .ok (.invokevirtual 216, 3) := by decide +kernel
theorem dX11_widest_21 : decode cX11_widest 21 = .ok (.sipush 196, 3) := by decide +kernel
theorem dX11_widest_24 : decode cX11_widest 24 = .ok (.istore_n 3, 1) := by decide +kernel
theorem dX11_widest_25 : decode cX11_widest 25 = .ok (.iconst 0, 1) := by decide +kernel
theorem dX11_widest_26 : decode cX11_widest 26 = .ok (.istore 4, 2) := by decide +kernel
theorem dX11_widest_28 : decode cX11_widest 28 = .ok (.iload 4, 2) := by decide +kernel
theorem dX11_widest_30 : decode cX11_widest 30 = .ok (.bipush 6, 2) := by decide +kernel
theorem dX11_widest_32 : decode cX11_widest 32 = .ok (.if_icmp .ge 58, 3) := by decide +kernel
theorem dX11_widest_35 : decode cX11_widest 35 = .ok (.aload_n 0, 1) := by decide +kernel
theorem dX11_widest_36 : decode cX11_widest 36 = .ok (.getfield 28, 3) := by decide +kernel
theorem dX11_widest_39 : decode cX11_widest 39 = .ok (.iload_n 1, 1) := by decide +kernel
theorem dX11_widest_40 : decode cX11_widest 40 = .ok (.iload_n 2, 1) := by decide +kernel
theorem dX11_widest_41 : decode cX11_widest 41 = .ok (.iload_n 3, 1) := by decide +kernel
theorem dX11_widest_42 : decode cX11_widest 42 = .ok (.bipush 32, 2) := by decide +kernel
theorem dX11_widest_44 : decode cX11_widest 44 = .ok (.iconst 1, 1) := by decide +kernel
theorem dX11_widest_45 : decode cX11_widest 45 = .ok (.invokevirtual 220, 3) := by decide +kernel
theorem dX11_widest_48 : decode cX11_widest 48 = .ok (.aload_n 0, 1) := by decide +kernel
theorem dX11_widest_49 : decode cX11_widest 49 = .ok (.getfield 28, 3) := by decide +kernel
theorem dX11_widest_52 : decode cX11_widest 52 = .ok (.getfield 230, 3) := by decide +kernel
theorem dX11_widest_55 : decode cX11_widest 55 = .ok (.iconst 2, 1) := by decide +kernel
theorem dX11_widest_56 : decode cX11_widest 56 = .ok (.if_icmp .ne 5, 3) := by decide +kernel
theorem dX11_widest_59 : decode cX11_widest 59 = .ok (.iload_n 3, 1) := by decide +kernel
theorem dX11_widest_60 : decode cX11_widest 60 = .ok (.ireturn, 1) := by decide +kernel
theorem dX11_widest_61 : decode cX11_widest 61 = .ok (.aload_n 0, 1) := by decide +kernel
theorem dX11_widest_62 : decode cX11_widest 62 = .ok (.getfield 28, 3) := by decide +kernel
theorem dX11_widest_65 : decode cX11_widest 65 = .ok (.getfield 230, 3) := by decide +kernel
theorem dX11_widest_68 : decode cX11_widest 68 = .ok (.iconst 5, 1) := by decide +kernel
theorem dX11_widest_69 : decode cX11_widest 69 = .ok (.if_icmp .eq 5, 3) := by decide +kernel
theorem dX11_widest_72 : decode cX11_widest 72 = .ok (.iconst (-1), 1) := by decide +kernel
theorem dX11_widest_73 : decode cX11_widest 73 = .ok (.ireturn, 1) := by decide +kernel
theorem dX11_widest_74 : decode cX11_widest 74 = .ok (.aload_n 0, 1) := by decide +kernel
theorem dX11_widest_75 : decode cX11_widest 75 = .ok (.getfield 28, 3) := by decide +kernel
theorem dX11_widest_78 : decode cX11_widest 78 = .ok (.getfield 233, 3) := by decide +kernel
theorem dX11_widest_81 : decode cX11_widest 81 = .ok (.iconst 4, 1) := by decide +kernel
theorem dX11_widest_82 : decode cX11_widest 82 = .ok (.isub, 1) := by decide +kernel
theorem dX11_widest_83 : decode cX11_widest 83 = .ok (.istore_n 3, 1) := by decide +kernel
theorem dX11_widest_84 : decode cX11_widest 84 = .ok (.iinc 4 1, 3) := by decide +kernel
theorem dX11_widest_87 : decode cX11_widest 87 = .ok (.goto (-59), 3) := by decide +kernel
theorem dX11_widest_90 : decode cX11_widest 90 = .ok (.iconst (-1), 1) := by decide +kernel
theorem dX11_widest_91 : decode cX11_widest 91 = .ok (.ireturn, 1) := by decide +kernel
theorem dX11_digest_0 : decode cX11_digest 0 = .ok (.ldc2_w 236, 3) := by decide +kernel
theorem dX11_digest_3 : decode cX11_digest 3 = .ok (.lstore_n 1, 1) := by decide +kernel
theorem dX11_digest_4 : decode cX11_digest 4 = .ok (.lload_n 1, 1) := by decide +kernel
theorem dX11_digest_5 : decode cX11_digest 5 = .ok (.ldc2_w 238, 3) := by decide +kernel
theorem dX11_digest_8 : decode cX11_digest 8 = .ok (.lmul, 1) := by decide +kernel
theorem dX11_digest_9 : decode cX11_digest 9 = .ok (.aload_n 0, 1) := by decide +kernel
theorem dX11_digest_10 : decode cX11_digest 10 = .ok (.getfield 10, 3) := by decide +kernel
theorem dX11_digest_13 : decode cX11_digest 13 = .ok (.getfield 151, 3) := by decide +kernel
theorem dX11_digest_16 : decode cX11_digest 16 = .ok (.i2l, 1) := by decide +kernel
theorem dX11_digest_17 : decode cX11_digest 17 = .ok (.ladd, 1) := by decide +kernel
theorem dX11_digest_18 : decode cX11_digest 18 = .ok (.lstore_n 1, 1) := by decide +kernel
theorem dX11_digest_19 : decode cX11_digest 19 = .ok (.lload_n 1, 1) := by decide +kernel
theorem dX11_digest_20 : decode cX11_digest 20 = .ok (.ldc2_w 238, 3) := by decide +kernel
theorem dX11_digest_23 : decode cX11_digest 23 = .ok (.lmul, 1) := by decide +kernel
theorem dX11_digest_24 : decode cX11_digest 24 = .ok (.aload_n 0, 1) := by decide +kernel
theorem dX11_digest_25 : decode cX11_digest 25 = .ok (.getfield 21, 3) := by decide +kernel
theorem dX11_digest_28 : decode cX11_digest 28 = .ok (.getfield 154, 3) := by decide +kernel
theorem dX11_digest_31 : decode cX11_digest 31 = .ok (.i2l, 1) := by decide +kernel
theorem dX11_digest_32 : decode cX11_digest 32 = .ok (.ladd, 1) := by decide +kernel
theorem dX11_digest_33 : decode cX11_digest 33 = .ok (.lstore_n 1, 1) := by decide +kernel
theorem dX11_digest_34 : decode cX11_digest 34 = .ok (.lload_n 1, 1) := by decide +kernel
theorem dX11_digest_35 : decode cX11_digest 35 = .ok (.ldc2_w 238, 3) := by decide +kernel
theorem dX11_digest_38 : decode cX11_digest 38 = .ok (.lmul, 1) := by decide +kernel
theorem dX11_digest_39 : decode cX11_digest 39 = .ok (.aload_n 0, 1) := by decide +kernel
theorem dX11_digest_40 : decode cX11_digest 40 = .ok (.getfield 21, 3) := by decide +kernel
theorem dX11_digest_43 : decode cX11_digest 43 = .ok (.getfield 157, 3) := by decide +kernel
theorem dX11_digest_46 : decode cX11_digest 46 = .ok (.i2l, 1) := by decide +kernel
theorem dX11_digest_47 : decode cX11_digest 47 = .ok (.ladd, 1) := by decide +kernel
theorem dX11_digest_48 : decode cX11_digest 48 = .ok (.lstore_n 1, 1) := by decide +kernel
theorem dX11_digest_49 : decode cX11_digest 49 = .ok (.lload_n 1, 1) := by decide +kernel
theorem dX11_digest_50 : decode cX11_digest 50 = .ok (.ldc2_w 238, 3) := by decide +kernel
theorem dX11_digest_53 : decode cX11_digest 53 = .ok (.lmul, 1) := by decide +kernel
theorem dX11_digest_54 : decode cX11_digest 54 = .ok (.aload_n 0, 1) := by decide +kernel
theorem dX11_digest_55 : decode cX11_digest 55 = .ok (.getfield 21, 3) := by decide +kernel
theorem dX11_digest_58 : decode cX11_digest 58 = .ok (.invokevirtual 160, 3) := by decide +kernel
theorem dX11_digest_61 : decode cX11_digest 61 = .ok (.i2l, 1) := by decide +kernel
theorem dX11_digest_62 : decode cX11_digest 62 = .ok (.ladd, 1) := by decide +kernel
theorem dX11_digest_63 : decode cX11_digest 63 = .ok (.lstore_n 1, 1) := by decide +kernel
theorem dX11_digest_64 : decode cX11_digest 64 = .ok (.lload_n 1, 1) := by decide +kernel
theorem dX11_digest_65 : decode cX11_digest 65 = .ok (.ldc2_w 238, 3) := by decide +kernel
theorem dX11_digest_68 : decode cX11_digest 68 = .ok (.lmul, 1) := by decide +kernel
theorem dX11_digest_69 : decode cX11_digest 69 = .ok (.aload_n 0, 1) := by decide +kernel
theorem dX11_digest_70 : decode cX11_digest 70 = .ok (.getfield 21, 3) := by decide +kernel
theorem dX11_digest_73 : decode cX11_digest 73 = .ok (.getfield 131, 3) := by decide +kernel
theorem dX11_digest_76 : decode cX11_digest 76 = .ok (.getfield 135, 3) := by decide +kernel
theorem dX11_digest_79 : decode cX11_digest 79 = .ok (.i2l, 1) := by decide +kernel
theorem dX11_digest_80 : decode cX11_digest 80 = .ok (.ladd, 1) := by decide +kernel
theorem dX11_digest_81 : decode cX11_digest 81 = .ok (.lstore_n 1, 1) := by decide +kernel
theorem dX11_digest_82 : decode cX11_digest 82 = .ok (.aload_n 0, 1) := by decide +kernel
theorem dX11_digest_83 : decode cX11_digest 83 = .ok (.getfield 21, 3) := by decide +kernel
theorem dX11_digest_86 : decode cX11_digest 86 = .ok (.getfield 131, 3) := by decide +kernel
theorem dX11_digest_89 : decode cX11_digest 89 = .ok (.getfield 240, 3) := by decide +kernel
theorem dX11_digest_92 : decode cX11_digest 92 = .ok (.astore_n 3, 1) := by decide +kernel
theorem dX11_digest_93 : decode cX11_digest 93 = .ok (.aload_n 3, 1) := by decide +kernel
theorem dX11_digest_94 : decode cX11_digest 94 = .ok (.ifnull 41, 3) := by decide +kernel
theorem dX11_digest_97 : decode cX11_digest 97 = .ok (.iconst 0, 1) := by decide +kernel
theorem dX11_digest_98 : decode cX11_digest 98 = .ok (.istore 4, 2) := by decide +kernel
theorem dX11_digest_100 : decode cX11_digest 100 = .ok (.iload 4, 2) := by decide +kernel
theorem dX11_digest_102 : decode cX11_digest 102 = .ok (.bipush 8, 2) := by decide +kernel
theorem dX11_digest_104 : decode cX11_digest 104 = .ok (.if_icmp .ge 23, 3) := by decide +kernel
theorem dX11_digest_107 : decode cX11_digest 107 = .ok (.lload_n 1, 1) := by decide +kernel
theorem dX11_digest_108 : decode cX11_digest 108 = .ok (.ldc2_w 238, 3) := by decide +kernel
theorem dX11_digest_111 : decode cX11_digest 111 = .ok (.lmul, 1) := by decide +kernel
theorem dX11_digest_112 : decode cX11_digest 112 = .ok (.aload_n 3, 1) := by decide +kernel
theorem dX11_digest_113 : decode cX11_digest 113 = .ok (.iload 4, 2) := by decide +kernel
theorem dX11_digest_115 : decode cX11_digest 115 = .ok (.invokevirtual 176, 3) := by decide +kernel
theorem dX11_digest_118 : decode cX11_digest 118 = .ok (.i2l, 1) := by decide +kernel
theorem dX11_digest_119 : decode cX11_digest 119 = .ok (.ladd, 1) := by decide +kernel
theorem dX11_digest_120 : decode cX11_digest 120 = .ok (.lstore_n 1, 1) := by decide +kernel
theorem dX11_digest_121 : decode cX11_digest 121 = .ok (.iinc 4 1, 3) := by decide +kernel
theorem dX11_digest_124 : decode cX11_digest 124 = .ok (.goto (-24), 3) := by decide +kernel
theorem dX11_digest_127 : decode cX11_digest 127 = .ok (.aload_n 3, 1) := by decide +kernel
theorem dX11_digest_128 : decode cX11_digest 128 = .ok (.getfield 244, 3) := by decide +kernel
theorem dX11_digest_131 : decode cX11_digest 131 = .ok (.astore_n 3, 1) := by decide +kernel
theorem dX11_digest_132 : decode cX11_digest 132 = .ok (.goto (-39), 3) := by decide +kernel
theorem dX11_digest_135 : decode cX11_digest 135 = .ok (.iconst 0, 1) := by decide +kernel
theorem dX11_digest_136 : decode cX11_digest 136 = .ok (.istore_n 3, 1) := by decide +kernel
theorem dX11_digest_137 : decode cX11_digest 137 = .ok (.iload_n 3, 1) := by decide +kernel
theorem dX11_digest_138 : decode cX11_digest 138 = .ok (.aload_n 0, 1) := by decide +kernel
theorem dX11_digest_139 : decode cX11_digest 139 = .ok (.getfield 10, 3) := by decide +kernel
theorem dX11_digest_142 : decode cX11_digest 142 = .ok (.getfield 247, 3) := by decide +kernel
theorem dX11_digest_145 : decode cX11_digest 145 = .ok (.if_icmp .ge 25, 3) := by decide +kernel
theorem dX11_digest_148 : decode cX11_digest 148 = .ok (.lload_n 1, 1) := by decide +kernel
theorem dX11_digest_149 : decode cX11_digest 149 = .ok (.ldc2_w 238, 3) := by decide +kernel
theorem dX11_digest_152 : decode cX11_digest 152 = .ok (.lmul, 1) := by decide +kernel
theorem dX11_digest_153 : decode cX11_digest 153 = .ok (.aload_n 0, 1) := by decide +kernel
theorem dX11_digest_154 : decode cX11_digest 154 = .ok (.getfield 21, 3) := by decide +kernel
theorem dX11_digest_157 : decode cX11_digest 157 = .ok (.iload_n 3, 1) := by decide +kernel
theorem dX11_digest_158 : decode cX11_digest 158 = .ok (.invokevirtual 210, 3) := by decide +kernel
theorem dX11_digest_161 : decode cX11_digest 161 = .ok (.i2l, 1) := by decide +kernel
theorem dX11_digest_162 : decode cX11_digest 162 = .ok (.ladd, 1) := by decide +kernel
theorem dX11_digest_163 : decode cX11_digest 163 = .ok (.lstore_n 1, 1) := by decide +kernel
theorem dX11_digest_164 : decode cX11_digest 164 = .ok (.iinc 3 1, 3) := by decide +kernel
theorem dX11_digest_167 : decode cX11_digest 167 = .ok (.goto (-30), 3) := by decide +kernel
theorem dX11_digest_170 : decode cX11_digest 170 = .ok (.iconst 0, 1) := by decide +kernel
theorem dX11_digest_171 : decode cX11_digest 171 = .ok (.istore_n 3, 1) := by decide +kernel
theorem dX11_digest_172 : decode cX11_digest 172 = .ok (.iload_n 3, 1) := by decide +kernel
theorem dX11_digest_173 : decode cX11_digest 173 = .ok (.aload_n 0, 1) := by decide +kernel
theorem dX11_digest_174 : decode cX11_digest 174 = .ok (.getfield 10, 3) := by decide +kernel
theorem dX11_digest_177 : decode cX11_digest 177 = .ok (.getfield 151, 3) := by decide +kernel
theorem dX11_digest_180 : decode cX11_digest 180 = .ok (.if_icmp .ge 20, 3) := by decide +kernel
theorem dX11_digest_183 : decode cX11_digest 183 = .ok (.aload_n 0, 1) := by decide +kernel
theorem dX11_digest_184 : decode cX11_digest 184 = .ok (.lload_n 1, 1) := by decide +kernel
theorem dX11_digest_185 : decode cX11_digest 185 = .ok (.aload_n 0, 1) := by decide +kernel
theorem dX11_digest_186 : decode cX11_digest 186 = .ok (.iload_n 3, 1) := by decide +kernel
theorem dX11_digest_187 : decode cX11_digest 187 = .ok (.invokevirtual 60, 3) := by decide +kernel
theorem dX11_digest_190 : decode cX11_digest 190 = .ok (.invokevirtual 250, 3) := by decide +kernel
theorem dX11_digest_193 : decode cX11_digest 193 = .ok (.lstore_n 1, 1) := by decide +kernel
theorem dX11_digest_194 : decode cX11_digest 194 = .ok (.iinc 3 1, 3) := by decide +kernel
theorem dX11_digest_197 : decode cX11_digest 197 = .ok (.goto (-25), 3) := by decide +kernel
theorem dX11_digest_200 : decode cX11_digest 200 = .ok (.lload_n 1, 1) := by decide +kernel
theorem dX11_digest_201 : decode cX11_digest 201 = .ok (.lreturn, 1) := by decide +kernel
theorem dX11_digestHost_0 : decode cX11_digestHost 0 = .ok (.lload_n 1, 1) := by decide +kernel
theorem dX11_digestHost_1 : decode cX11_digestHost 1 = .ok (.lstore 4, 2) := by decide +kernel
theorem dX11_digestHost_3 : decode cX11_digestHost 3 = .ok (.lload 4, 2) := by decide +kernel
theorem dX11_digestHost_5 : decode cX11_digestHost 5 = .ok (.ldc2_w 238, 3) := by decide +kernel
theorem dX11_digestHost_8 : decode cX11_digestHost 8 = .ok (.lmul, 1) := by decide +kernel
theorem dX11_digestHost_9 : decode cX11_digestHost 9 = .ok (.aload_n 3, 1) := by decide +kernel
theorem dX11_digestHost_10 : decode cX11_digestHost 10 = .ok (.getfield 184, 3) := by decide +kernel
theorem dX11_digestHost_13 : decode cX11_digestHost 13 = .ok (.i2l, 1) := by decide +kernel
theorem dX11_digestHost_14 : decode cX11_digestHost 14 = .ok (.ladd, 1) := by decide +kernel
theorem dX11_digestHost_15 : decode cX11_digestHost 15 = .ok (.lstore 4, 2) := by decide +kernel
theorem dX11_digestHost_17 : decode cX11_digestHost 17 = .ok (.lload 4, 2) := by decide +kernel
theorem dX11_digestHost_19 : decode cX11_digestHost 19 = .ok (.ldc2_w 238, 3) := by decide +kernel
theorem dX11_digestHost_22 : decode cX11_digestHost 22 = .ok (.lmul, 1) := by decide +kernel
theorem dX11_digestHost_23 : decode cX11_digestHost 23 = .ok (.aload_n 3, 1) := by decide +kernel
theorem dX11_digestHost_24 : decode cX11_digestHost 24 = .ok (.getfield 187, 3) := by decide +kernel
theorem dX11_digestHost_27 : decode cX11_digestHost 27 = .ok (.i2l, 1) := by decide +kernel
theorem dX11_digestHost_28 : decode cX11_digestHost 28 = .ok (.ladd, 1) := by decide +kernel
theorem dX11_digestHost_29 : decode cX11_digestHost 29 = .ok (.lstore 4, 2) := by decide +kernel
theorem dX11_digestHost_31 : decode cX11_digestHost 31 = .ok (.lload 4, 2) := by decide +kernel
theorem dX11_digestHost_33 : decode cX11_digestHost 33 = .ok (.ldc2_w 238, 3) := by decide +kernel
theorem dX11_digestHost_36 : decode cX11_digestHost 36 = .ok (.lmul, 1) := by decide +kernel
theorem dX11_digestHost_37 : decode cX11_digestHost 37 = .ok (.aload_n 3, 1) := by decide +kernel
theorem dX11_digestHost_38 : decode cX11_digestHost 38 = .ok (.getfield 190, 3) := by decide +kernel
theorem dX11_digestHost_41 : decode cX11_digestHost 41 = .ok (.i2l, 1) := by decide +kernel
theorem dX11_digestHost_42 : decode cX11_digestHost 42 = .ok (.ladd, 1) := by decide +kernel
theorem dX11_digestHost_43 : decode cX11_digestHost 43 = .ok (.lstore 4, 2) := by decide +kernel
theorem dX11_digestHost_45 : decode cX11_digestHost 45 = .ok (.iconst 0, 1) := by decide +kernel
theorem dX11_digestHost_46 : decode cX11_digestHost 46 = .ok (.istore 6, 2) := by decide +kernel
theorem dX11_digestHost_48 : decode cX11_digestHost 48 = .ok (.iload 6, 2) := by decide +kernel
theorem dX11_digestHost_50 : decode cX11_digestHost 50 = .ok (.iconst 3, 1) := by decide +kernel
theorem dX11_digestHost_51 : decode cX11_digestHost 51 = .ok (.if_icmp .ge 52, 3) := by decide +kernel
theorem dX11_digestHost_54 : decode cX11_digestHost 54 = .ok (.aload_n 3, 1) := by decide +kernel
theorem dX11_digestHost_55 : decode cX11_digestHost 55 = .ok (.iload 6, 2) := by decide +kernel
theorem dX11_digestHost_57 : decode cX11_digestHost 57 = .ok (.invokevirtual 193, 3) := by decide +kernel
theorem dX11_digestHost_60 : decode cX11_digestHost 60 = .ok (.ifCond .eq 43, 3) := by decide +kernel
theorem dX11_digestHost_63 : decode cX11_digestHost 63 = .ok (.iconst 0, 1) := by decide +kernel
theorem dX11_digestHost_64 : decode cX11_digestHost 64 = .ok (.istore 7, 2) := by decide +kernel
theorem dX11_digestHost_66 : decode cX11_digestHost 66 = .ok (.iload 7, 2) := by decide +kernel
theorem dX11_digestHost_68 : decode cX11_digestHost 68 = .ok (.bipush 6, 2) := by decide +kernel
theorem dX11_digestHost_70 : decode cX11_digestHost 70 = .ok (.if_icmp .ge 27, 3) := by decide +kernel
theorem dX11_digestHost_73 : decode cX11_digestHost 73 = .ok (.lload 4, 2) := by decide +kernel
theorem dX11_digestHost_75 : decode cX11_digestHost 75 = .ok (.ldc2_w 238, 3) := by decide +kernel
theorem dX11_digestHost_78 : decode cX11_digestHost 78 = .ok (.lmul, 1) := by decide +kernel
theorem dX11_digestHost_79 : decode cX11_digestHost 79 = .ok (.aload_n 3, 1) := by decide +kernel
theorem dX11_digestHost_80 : decode cX11_digestHost 80 = .ok (.iload 6, 2) := by decide +kernel
theorem dX11_digestHost_82 : decode cX11_digestHost 82 = .ok (.iload 7, 2) := by decide +kernel
theorem dX11_digestHost_84 : decode cX11_digestHost 84 = .ok (.invokevirtual 198, 3) := by decide +kernel
theorem dX11_digestHost_87 : decode cX11_digestHost 87 = .ok (.i2l, 1) := by decide +kernel
theorem dX11_digestHost_88 : decode cX11_digestHost 88 = .ok (.ladd, 1) := by decide +kernel
theorem dX11_digestHost_89 : decode cX11_digestHost 89 = .ok (.lstore 4, 2) := by decide +kernel
theorem dX11_digestHost_91 : decode cX11_digestHost 91 = .ok (.iinc 7 1, 3) := by decide +kernel
theorem dX11_digestHost_94 : decode cX11_digestHost 94 = .ok (.goto (-28), 3) := by decide +kernel
theorem dX11_digestHost_97 : decode cX11_digestHost 97 = .ok (.iinc 6 1, 3) := by decide +kernel
theorem dX11_digestHost_100 : decode cX11_digestHost 100 = .ok (.goto (-52), 3) := by decide +kernel
theorem dX11_digestHost_103 : decode cX11_digestHost 103 = .ok (.iconst 0, 1) := by decide +kernel
theorem dX11_digestHost_104 : decode cX11_digestHost 104 = .ok (.istore 6, 2) := by decide +kernel
theorem dX11_digestHost_106 : decode cX11_digestHost 106 = .ok (.iload 6, 2) := by decide +kernel
theorem dX11_digestHost_108 : decode cX11_digestHost 108 = .ok (.bipush 32, 2) := by decide +kernel
theorem dX11_digestHost_110 : decode cX11_digestHost 110 = .ok (.if_icmp .ge 44, 3) := by decide +kernel
theorem dX11_digestHost_113 : decode cX11_digestHost 113 = .ok (.aload_n 0, 1) := by decide +kernel
theorem dX11_digestHost_114 : decode cX11_digestHost 114 = .ok (.getfield 10, 3) := by decide +kernel
theorem dX11_digestHost_117 : decode cX11_digestHost 117 = .ok (.iload 6, 2) := by decide +kernel
theorem dX11_digestHost_119 : decode cX11_digestHost 119 = .ok (.invokevirtual 254, 3) := by decide +kernel
theorem dX11_digestHost_122 : decode cX11_digestHost 122 = .ok (.astore 7, 2) := by decide +kernel
theorem dX11_digestHost_124 : decode cX11_digestHost 124 = .ok (.aload 7, 2) := by decide +kernel
theorem dX11_digestHost_126 : decode cX11_digestHost 126 = .ok (.ifnull 22, 3) := by decide +kernel
theorem dX11_digestHost_129 : decode cX11_digestHost 129 = .ok (.lload 4, 2) := by decide +kernel
theorem dX11_digestHost_131 : decode cX11_digestHost 131 = .ok (.ldc2_w 238, 3) := by decide +kernel
theorem dX11_digestHost_134 : decode cX11_digestHost 134 = .ok (.lmul, 1) := by decide +kernel
theorem dX11_digestHost_135 : decode cX11_digestHost 135 = .ok (.aload_n 3, 1) := by decide +kernel
theorem dX11_digestHost_136 : decode cX11_digestHost 136 = .ok (.aload 7, 2) := by decide +kernel
theorem dX11_digestHost_138 : decode cX11_digestHost 138 = .ok (.getfield 258, 3) := by decide +kernel
theorem dX11_digestHost_141 : decode cX11_digestHost 141 = .ok (.invokevirtual 181, 3) := by decide +kernel
theorem dX11_digestHost_144 : decode cX11_digestHost 144 = .ok (.i2l, 1) := by decide +kernel
theorem dX11_digestHost_145 : decode cX11_digestHost 145 = .ok (.ladd, 1) := by decide +kernel
theorem dX11_digestHost_146 : decode cX11_digestHost 146 = .ok (.lstore 4, 2) := by decide +kernel
theorem dX11_digestHost_148 : decode cX11_digestHost 148 = .ok (.iinc 6 1, 3) := by decide +kernel
theorem dX11_digestHost_151 : decode cX11_digestHost 151 = .ok (.goto (-45), 3) := by decide +kernel
theorem dX11_digestHost_154 : decode cX11_digestHost 154 = .ok (.lload 4, 2) := by decide +kernel
theorem dX11_digestHost_156 : decode cX11_digestHost 156 = .ok (.lreturn, 1) := by decide +kernel
theorem dX11_hostOf_0 : decode cX11_hostOf 0 = .ok (.iload_n 1, 1) := by decide +kernel
theorem dX11_hostOf_1 : decode cX11_hostOf 1 = .ok (.aload_n 0, 1) := by decide +kernel
theorem dX11_hostOf_2 : decode cX11_hostOf 2 = .ok (.getfield 10, 3) := by decide +kernel
theorem dX11_hostOf_5 : decode cX11_hostOf 5 = .ok (.getfield 151, 3) := by decide +kernel
theorem dX11_hostOf_8 : decode cX11_hostOf 8 = .ok (.if_icmp .ge 14, 3) := by decide +kernel
theorem dX11_hostOf_11 : decode cX11_hostOf 11 = .ok (.aload_n 0, 1) := by decide +kernel
theorem dX11_hostOf_12 : decode cX11_hostOf 12 = .ok (.getfield 21, 3) := by decide +kernel
theorem dX11_hostOf_15 : decode cX11_hostOf 15 = .ok (.iload_n 1, 1) := by decide +kernel
theorem dX11_hostOf_16 : decode cX11_hostOf 16 = .ok (.invokevirtual 261, 3) := by decide +kernel
theorem dX11_hostOf_19 : decode cX11_hostOf 19 = .ok (.goto 4, 3) := by decide +kernel
theorem dX11_hostOf_22 : decode cX11_hostOf 22 = .ok (.aconst_null, 1) := by decide +kernel
theorem dX11_hostOf_23 : decode cX11_hostOf 23 = .ok (.astore_n 2, 1) := by decide +kernel
theorem dX11_hostOf_24 : decode cX11_hostOf 24 = .ok (.aload_n 2, 1) := by decide +kernel
theorem dX11_hostOf_25 : decode cX11_hostOf 25 = .ok (.ifnonnull 14, 3) := by decide +kernel
theorem dX11_hostOf_28 : decode cX11_hostOf 28 = .ok (.new 167, 3) := by decide +kernel
theorem dX11_hostOf_31 : decode cX11_hostOf 31 = .ok (.dup, 1) := by decide +kernel
theorem dX11_hostOf_32 : decode cX11_hostOf 32 = .ok (.ldc_w 264, 3) := by decide +kernel
theorem dX11_hostOf_35 : decode cX11_hostOf 35 = .ok (.invokespecial 171, 3) := by decide +kernel
theorem dX11_hostOf_38 : decode cX11_hostOf 38 = .ok (.athrow, 1) := by decide +kernel
theorem dX11_hostOf_39 : decode cX11_hostOf 39 = .ok (.aload_n 2, 1) := by decide +kernel
theorem dX11_hostOf_40 : decode cX11_hostOf 40 = .ok (.areturn, 1) := by decide +kernel
theorem dX11_needCable_0 : decode cX11_needCable 0 = .ok (.iload_n 1, 1) := by decide +kernel
theorem dX11_needCable_1 : decode cX11_needCable 1 = .ok (.ifCond .lt 14, 3) := by decide +kernel
theorem dX11_needCable_4 : decode cX11_needCable 4 = .ok (.iload_n 1, 1) := by decide +kernel
theorem dX11_needCable_5 : decode cX11_needCable 5 = .ok (.aload_n 0, 1) := by decide +kernel
theorem dX11_needCable_6 : decode cX11_needCable 6 = .ok (.getfield 10, 3) := by decide +kernel
theorem dX11_needCable_9 : decode cX11_needCable 9 = .ok (.getfield 247, 3) := by decide +kernel
theorem dX11_needCable_12 : decode cX11_needCable 12 = .ok (.if_icmp .lt 14, 3) := by decide +kernel
theorem dX11_needCable_15 : decode cX11_needCable 15 = .ok (.new 167, 3) := by decide +kernel
theorem dX11_needCable_18 : decode cX11_needCable 18 = .ok (.dup, 1) := by decide +kernel
theorem dX11_needCable_19 : decode cX11_needCable 19 = .ok (.ldc_w 266, 3) := by decide +kernel
theorem dX11_needCable_22 : decode cX11_needCable 22 = .ok (.invokespecial 171, 3) := by decide +kernel
theorem dX11_needCable_25 : decode cX11_needCable 25 = .ok (.athrow, 1) := by decide +kernel
theorem dX11_needCable_26 : decode cX11_needCable 26 = .ok (.return_, 1) := by decide +kernel
theorem dX11_needWidth_0 : decode cX11_needWidth 0 = .ok (.iload_n 0, 1) := by decide +kernel
theorem dX11_needWidth_1 : decode cX11_needWidth 1 = .ok (.bipush 12, 2) := by decide +kernel
theorem dX11_needWidth_3 : decode cX11_needWidth 3 = .ok (.if_icmp .lt 10, 3) := by decide +kernel
theorem dX11_needWidth_6 : decode cX11_needWidth 6 = .ok (.iload_n 0, 1) := by decide +kernel
theorem dX11_needWidth_7 : decode cX11_needWidth 7 = .ok (.sipush 200, 3) := by decide +kernel
theorem dX11_needWidth_10 : decode cX11_needWidth 10 = .ok (.if_icmp .le 14, 3) := by decide +kernel
theorem dX11_needWidth_13 : decode cX11_needWidth 13 = .ok (.new 99, 3) := by decide +kernel
theorem dX11_needWidth_16 : decode cX11_needWidth 16 = .ok (.dup, 1) := by decide +kernel
theorem dX11_needWidth_17 : decode cX11_needWidth 17 = .ok (.ldc_w 268, 3) := by decide +kernel
theorem dX11_needWidth_20 : decode cX11_needWidth 20 = .ok (.invokespecial 103, 3) := by decide +kernel
theorem dX11_needWidth_23 : decode cX11_needWidth 23 = .ok (.athrow, 1) := by decide +kernel
theorem dX11_needWidth_24 : decode cX11_needWidth 24 = .ok (.return_, 1) := by decide +kernel
theorem dX11_needAddress_0 : decode cX11_needAddress 0 = .ok (.iload_n 0, 1) := by decide +kernel
theorem dX11_needAddress_1 : decode cX11_needAddress 1 = .ok (.ifCond .lt 10, 3) := by decide +kernel
theorem dX11_needAddress_4 : decode cX11_needAddress 4 = .ok (.iload_n 0, 1) := by decide +kernel
theorem dX11_needAddress_5 : decode cX11_needAddress 5 = .ok (.sipush 256, 3) := by decide +kernel
theorem dX11_needAddress_8 : decode cX11_needAddress 8 = .ok (.if_icmp .lt 14, 3) := by decide +kernel
theorem dX11_needAddress_11 : decode cX11_needAddress 11 = .ok (.new 99, 3) := by decide +kernel
theorem dX11_needAddress_14 : decode cX11_needAddress 14 = .ok (.dup, 1) := by decide +kernel
theorem dX11_needAddress_15 : decode cX11_needAddress 15 = .ok (.ldc_w 270, 3) := by decide +kernel
theorem dX11_needAddress_18 : decode cX11_needAddress 18 = .ok (.invokespecial 103, 3) := by decide +kernel
theorem dX11_needAddress_21 : decode cX11_needAddress 21 = .ok (.athrow, 1) := by decide +kernel
theorem dX11_needAddress_22 : decode cX11_needAddress 22 = .ok (.return_, 1) := by decide +kernel
theorem dX11_needLength_0 : decode cX11_needLength 0 = .ok (.iload_n 0, 1) := by decide +kernel
theorem dX11_needLength_1 : decode cX11_needLength 1 = .ok (.ifCond .lt 9, 3) := by decide +kernel
theorem dX11_needLength_4 : decode cX11_needLength 4 = .ok (.iload_n 0, 1) := by decide +kernel
theorem dX11_needLength_5 : decode cX11_needLength 5 = .ok (.bipush 8, 2) := by decide +kernel
theorem dX11_needLength_7 : decode cX11_needLength 7 = .ok (.if_icmp .le 14, 3) := by decide +kernel
theorem dX11_needLength_10 : decode cX11_needLength 10 = .ok (.new 99, 3) := by decide +kernel
theorem dX11_needLength_13 : decode cX11_needLength 13 = .ok (.dup, 1) := by decide +kernel
theorem dX11_needLength_14 : decode cX11_needLength 14 = .ok (.ldc_w 272, 3) := by decide +kernel
theorem dX11_needLength_17 : decode cX11_needLength 17 = .ok (.invokespecial 103, 3) := by decide +kernel
theorem dX11_needLength_20 : decode cX11_needLength 20 = .ok (.athrow, 1) := by decide +kernel
theorem dX11_needLength_21 : decode cX11_needLength 21 = .ok (.return_, 1) := by decide +kernel
theorem dX11_needTtl_0 : decode cX11_needTtl 0 = .ok (.iload_n 0, 1) := by decide +kernel
theorem dX11_needTtl_1 : decode cX11_needTtl 1 = .ok (.iconst 1, 1) := by decide +kernel
theorem dX11_needTtl_2 : decode cX11_needTtl 2 = .ok (.if_icmp .lt 9, 3) := by decide +kernel
theorem dX11_needTtl_5 : decode cX11_needTtl 5 = .ok (.iload_n 0, 1) := by decide +kernel
theorem dX11_needTtl_6 : decode cX11_needTtl 6 = .ok (.bipush 40, 2) := by decide +kernel
theorem dX11_needTtl_8 : decode cX11_needTtl 8 = .ok (.if_icmp .le 14, 3) := by decide +kernel
theorem dX11_needTtl_11 : decode cX11_needTtl 11 = .ok (.new 99, 3) := by decide +kernel
theorem dX11_needTtl_14 : decode cX11_needTtl 14 = .ok (.dup, 1) := by decide +kernel
theorem dX11_needTtl_15 : decode cX11_needTtl 15 = .ok (.ldc_w 274, 3) := by decide +kernel
theorem dX11_needTtl_18 : decode cX11_needTtl 18 = .ok (.invokespecial 103, 3) := by decide +kernel
theorem dX11_needTtl_21 : decode cX11_needTtl 21 = .ok (.athrow, 1) := by decide +kernel
theorem dX11_needTtl_22 : decode cX11_needTtl 22 = .ok (.return_, 1) := by decide +kernel
theorem dX11_needPart_0 : decode cX11_needPart 0 = .ok (.iload_n 0, 1) := by decide +kernel
theorem dX11_needPart_1 : decode cX11_needPart 1 = .ok (.ifCond .lt 8, 3) := by decide +kernel
theorem dX11_needPart_4 : decode cX11_needPart 4 = .ok (.iload_n 0, 1) := by decide +kernel
theorem dX11_needPart_5 : decode cX11_needPart 5 = .ok (.iload_n 1, 1) := by decide +kernel
theorem dX11_needPart_6 : decode cX11_needPart 6 = .ok (.if_icmp .lt 14, 3) := by decide +kernel
theorem dX11_needPart_9 : decode cX11_needPart 9 = .ok (.new 99, 3) := by decide +kernel
theorem dX11_needPart_12 : decode cX11_needPart 12 = .ok (.dup, 1) := by decide +kernel
theorem dX11_needPart_13 : decode cX11_needPart 13 = .ok (.ldc_w 276, 3) := by decide +kernel
theorem dX11_needPart_16 : decode cX11_needPart 16 = .ok (.invokespecial 103, 3) := by decide +kernel
theorem dX11_needPart_19 : decode cX11_needPart 19 = .ok (.athrow, 1) := by decide +kernel
theorem dX11_needPart_20 : decode cX11_needPart 20 = .ok (.return_, 1) := by decide +kernel
theorem dJ7_fill_53178_0 : decode cJ7_fill_53178 0 = .ok (.iconst 0, 1) := by decide +kernel
theorem dJ7_fill_53178_1 : decode cJ7_fill_53178 1 = .ok (.istore_n 2, 1) := by decide +kernel
theorem dJ7_fill_53178_2 : decode cJ7_fill_53178 2 = .ok (.aload_n 0, 1) := by decide +kernel
theorem dJ7_fill_53178_3 : decode cJ7_fill_53178 3 = .ok (.arraylength, 1) := by decide +kernel
theorem dJ7_fill_53178_4 : decode cJ7_fill_53178 4 = .ok (.istore_n 3, 1) := by decide +kernel
theorem dJ7_fill_53178_5 : decode cJ7_fill_53178 5 = .ok (.iload_n 2, 1) := by decide +kernel
theorem dJ7_fill_53178_6 : decode cJ7_fill_53178 6 = .ok (.iload_n 3, 1) := by decide +kernel
theorem dJ7_fill_53178_7 : decode cJ7_fill_53178 7 = .ok (.if_icmp .ge 13, 3) := by decide +kernel
theorem dJ7_fill_53178_10 : decode cJ7_fill_53178 10 = .ok (.aload_n 0, 1) := by decide +kernel
theorem dJ7_fill_53178_11 : decode cJ7_fill_53178 11 = .ok (.iload_n 2, 1) := by decide +kernel
theorem dJ7_fill_53178_12 : decode cJ7_fill_53178 12 = .ok (.iload_n 1, 1) := by decide +kernel
theorem dJ7_fill_53178_13 : decode cJ7_fill_53178 13 = .ok (.iastore, 1) := by decide +kernel
theorem dJ7_fill_53178_14 : decode cJ7_fill_53178 14 = .ok (.iinc 2 1, 3) := by decide +kernel
theorem dJ7_fill_53178_17 : decode cJ7_fill_53178 17 = .ok (.goto (-12), 3) := by decide +kernel
theorem dJ7_fill_53178_20 : decode cJ7_fill_53178 20 = .ok (.return_, 1) := by decide +kernel
theorem dL_below_0 : decode cL_below 0 = .ok (.iload_n 0, 1) := by decide +kernel
theorem dL_below_1 : decode cL_below 1 = .ok (.ldc 7, 2) := by decide +kernel
theorem dL_below_3 : decode cL_below 3 = .ok (.iand, 1) := by decide +kernel
theorem dL_below_4 : decode cL_below 4 = .ok (.iload_n 1, 1) := by decide +kernel
theorem dL_below_5 : decode cL_below 5 = .ok (.irem, 1) := by decide +kernel
theorem dL_below_6 : decode cL_below 6 = .ok (.ireturn, 1) := by decide +kernel
theorem dL_cell_0 : decode cL_cell 0 = .ok (.iload_n 1, 1) := by decide +kernel
theorem dL_cell_1 : decode cL_cell 1 = .ok (.aload_n 0, 1) := by decide +kernel
theorem dL_cell_2 : decode cL_cell 2 = .ok (.arraylength, 1) := by decide +kernel
theorem dL_cell_3 : decode cL_cell 3 = .ok (.if_icmp .ge 9, 3) := by decide +kernel
theorem dL_cell_6 : decode cL_cell 6 = .ok (.aload_n 0, 1) := by decide +kernel
theorem dL_cell_7 : decode cL_cell 7 = .ok (.iload_n 1, 1) := by decide +kernel
theorem dL_cell_8 : decode cL_cell 8 = .ok (.iaload, 1) := by decide +kernel
theorem dL_cell_9 : decode cL_cell 9 = .ok (.goto 9, 3) := by decide +kernel
theorem dL_cell_12 : decode cL_cell 12 = .ok (.ldc 8, 2) := by decide +kernel
theorem dL_cell_14 : decode cL_cell 14 = .ok (.iload_n 1, 1) := by decide +kernel
theorem dL_cell_15 : decode cL_cell 15 = .ok (.iconst 3, 1) := by decide +kernel
theorem dL_cell_16 : decode cL_cell 16 = .ok (.iadd, 1) := by decide +kernel
theorem dL_cell_17 : decode cL_cell 17 = .ok (.imul, 1) := by decide +kernel
theorem dL_cell_18 : decode cL_cell 18 = .ok (.ireturn, 1) := by decide +kernel
theorem dL_law_0 : decode cL_law 0 = .ok (.new 9, 3) := by decide +kernel
theorem dL_law_3 : decode cL_law 3 = .ok (.dup, 1) := by decide +kernel
theorem dL_law_4 : decode cL_law 4 = .ok (.invokespecial 11, 3) := by decide +kernel
theorem dL_law_7 : decode cL_law 7 = .ok (.astore_n 1, 1) := by decide +kernel
theorem dL_law_8 : decode cL_law 8 = .ok (.bipush 32, 2) := by decide +kernel
theorem dL_law_10 : decode cL_law 10 = .ok (.iconst 2, 1) := by decide +kernel
theorem dL_law_11 : decode cL_law 11 = .ok (.multianewarray 12 2, 4) := by decide +kernel
theorem dL_law_15 : decode cL_law 15 = .ok (.astore_n 2, 1) := by decide +kernel
theorem dL_law_16 : decode cL_law 16 = .ok (.iconst 0, 1) := by decide +kernel
theorem dL_law_17 : decode cL_law 17 = .ok (.istore_n 3, 1) := by decide +kernel
theorem dL_law_18 : decode cL_law 18 = .ok (.iload_n 3, 1) := by decide +kernel
theorem dL_law_19 : decode cL_law 19 = .ok (.bipush 32, 2) := by decide +kernel
theorem dL_law_21 : decode cL_law 21 = .ok (.if_icmp .ge 15, 3) := by decide +kernel
theorem dL_law_24 : decode cL_law 24 = .ok (.aload_n 2, 1) := by decide +kernel
theorem dL_law_25 : decode cL_law 25 = .ok (.iload_n 3, 1) := by decide +kernel
theorem dL_law_26 : decode cL_law 26 = .ok (.aaload, 1) := by decide +kernel
theorem dL_law_27 : decode cL_law 27 = .ok (.iconst 1, 1) := by decide +kernel
theorem dL_law_28 : decode cL_law 28 = .ok (.iconst (-1), 1) := by decide +kernel
theorem dL_law_29 : decode cL_law 29 = .ok (.iastore, 1) := by decide +kernel
theorem dL_law_30 : decode cL_law 30 = .ok (.iinc 3 1, 3) := by decide +kernel
theorem dL_law_33 : decode cL_law 33 = .ok (.goto (-15), 3) := by decide +kernel
theorem dL_law_36 : decode cL_law 36 = .ok (.aload_n 1, 1) := by decide +kernel
theorem dL_law_37 : decode cL_law 37 = .ok (.bipush 12, 2) := by decide +kernel
theorem dL_law_39 : decode cL_law 39 = .ok (.aload_n 0, 1) := by decide +kernel
theorem dL_law_40 : decode cL_law 40 = .ok (.iconst 0, 1) := by decide +kernel
theorem dL_law_41 : decode cL_law 41 = .ok (.invokestatic 14, 3) := by decide +kernel
theorem dL_law_44 : decode cL_law 44 = .ok (.bipush 40, 2) := by decide +kernel
theorem dL_law_46 : decode cL_law 46 = .ok (.invokestatic 20, 3) := by decide +kernel
theorem dL_law_49 : decode cL_law 49 = .ok (.iadd, 1) := by decide +kernel
theorem dL_law_50 : decode cL_law 50 = .ok (.invokevirtual 24, 3) := by decide +kernel
theorem dL_law_53 : decode cL_law 53 = .ok (.pop, 1) := by decide +kernel
theorem dL_law_54 : decode cL_law 54 = .ok (.aload_n 1, 1) := by decide +kernel
theorem dL_law_55 : decode cL_law 55 = .ok (.bipush 12, 2) := by decide +kernel
theorem dL_law_57 : decode cL_law 57 = .ok (.aload_n 0, 1) := by decide +kernel
theorem dL_law_58 : decode cL_law 58 = .ok (.iconst 1, 1) := by decide +kernel
theorem dL_law_59 : decode cL_law 59 = .ok (.invokestatic 14, 3) := by decide +kernel
theorem dL_law_62 : decode cL_law 62 = .ok (.bipush 90, 2) := by decide +kernel
theorem dL_law_64 : decode cL_law 64 = .ok (.invokestatic 20, 3) := by decide +kernel
theorem dL_law_67 : decode cL_law 67 = .ok (.iadd, 1) := by decide +kernel
theorem dL_law_68 : decode cL_law 68 = .ok (.invokevirtual 24, 3) := by decide +kernel
theorem dL_law_71 : decode cL_law 71 = .ok (.pop, 1) := by decide +kernel
theorem dL_law_72 : decode cL_law 72 = .ok (.iconst 0, 1) := by decide +kernel
theorem dL_law_73 : decode cL_law 73 = .ok (.istore_n 3, 1) := by decide +kernel
theorem dL_law_74 : decode cL_law 74 = .ok (.iload_n 3, 1) := by decide +kernel
theorem dL_law_75 : decode cL_law 75 = .ok (.iconst 3, 1) := by decide +kernel
theorem dL_law_76 : decode cL_law 76 = .ok (.if_icmp .ge 33, 3) := by decide +kernel
theorem dL_law_79 : decode cL_law 79 = .ok (.aload_n 1, 1) := by decide +kernel
theorem dL_law_80 : decode cL_law 80 = .ok (.aload_n 0, 1) := by decide +kernel
theorem dL_law_81 : decode cL_law 81 = .ok (.iconst 2, 1) := by decide +kernel
theorem dL_law_82 : decode cL_law 82 = .ok (.invokestatic 14, 3) := by decide +kernel
theorem dL_law_85 : decode cL_law 85 = .ok (.iload_n 3, 1) := by decide +kernel
theorem dL_law_86 : decode cL_law 86 = .ok (.ishr, 1) := by decide +kernel
theorem dL_law_87 : decode cL_law 87 = .ok (.iconst 4, 1) := by decide +kernel
theorem dL_law_88 : decode cL_law 88 = .ok (.invokestatic 20, 3) := by decide +kernel
theorem dL_law_91 : decode cL_law 91 = .ok (.ifCond .le 7, 3) := by decide +kernel
theorem dL_law_94 : decode cL_law 94 = .ok (.iconst 1, 1) := by decide +kernel
theorem dL_law_95 : decode cL_law 95 = .ok (.goto 4, 3) := by decide +kernel
theorem dL_law_98 : decode cL_law 98 = .ok (.iconst 0, 1) := by decide +kernel
theorem dL_law_99 : decode cL_law 99 = .ok (.invokevirtual 28, 3) := by decide +kernel
theorem dL_law_102 : decode cL_law 102 = .ok (.pop, 1) := by decide +kernel
theorem dL_law_103 : decode cL_law 103 = .ok (.iinc 3 1, 3) := by decide +kernel
theorem dL_law_106 : decode cL_law 106 = .ok (.goto (-32), 3) := by decide +kernel
theorem dL_law_109 : decode cL_law 109 = .ok (.iconst 0, 1) := by decide +kernel
theorem dL_law_110 : decode cL_law 110 = .ok (.istore_n 3, 1) := by decide +kernel
theorem dL_law_111 : decode cL_law 111 = .ok (.iload_n 3, 1) := by decide +kernel
theorem dL_law_112 : decode cL_law 112 = .ok (.bipush 44, 2) := by decide +kernel
theorem dL_law_114 : decode cL_law 114 = .ok (.if_icmp .ge 99, 3) := by decide +kernel
theorem dL_law_117 : decode cL_law 117 = .ok (.aload_n 1, 1) := by decide +kernel
theorem dL_law_118 : decode cL_law 118 = .ok (.aload_n 0, 1) := by decide +kernel
theorem dL_law_119 : decode cL_law 119 = .ok (.iconst 3, 1) := by decide +kernel
theorem dL_law_120 : decode cL_law 120 = .ok (.iload_n 3, 1) := by decide +kernel
theorem dL_law_121 : decode cL_law 121 = .ok (.bipush 29, 2) := by decide +kernel
theorem dL_law_123 : decode cL_law 123 = .ok (.irem, 1) := by decide +kernel
theorem dL_law_124 : decode cL_law 124 = .ok (.iadd, 1) := by decide +kernel
theorem dL_law_125 : decode cL_law 125 = .ok (.invokestatic 14, 3) := by decide +kernel
theorem dL_law_128 : decode cL_law 128 = .ok (.iload_n 3, 1) := by decide +kernel
theorem dL_law_129 : decode cL_law 129 = .ok (.bipush 29, 2) := by decide +kernel
theorem dL_law_131 : decode cL_law 131 = .ok (.idiv, 1) := by decide +kernel
theorem dL_law_132 : decode cL_law 132 = .ok (.bipush 9, 2) := by decide +kernel
theorem dL_law_134 : decode cL_law 134 = .ok (.imul, 1) := by decide +kernel
theorem dL_law_135 : decode cL_law 135 = .ok (.ishr, 1) := by decide +kernel
theorem dL_law_136 : decode cL_law 136 = .ok (.aload_n 2, 1) := by decide +kernel
theorem dL_law_137 : decode cL_law 137 = .ok (.invokestatic 32, 3) := by decide +kernel
theorem dL_law_140 : decode cL_law 140 = .ok (.ifCond .ne 5, 3) := by decide +kernel
theorem dL_law_143 : decode cL_law 143 = .ok (.iconst 0, 1) := by decide +kernel
theorem dL_law_144 : decode cL_law 144 = .ok (.ireturn, 1) := by decide +kernel
theorem dL_law_145 : decode cL_law 145 = .ok (.iload_n 3, 1) := by decide +kernel
theorem dL_law_146 : decode cL_law 146 = .ok (.bipush 11, 2) := by decide +kernel
theorem dL_law_148 : decode cL_law 148 = .ok (.irem, 1) := by decide +kernel
theorem dL_law_149 : decode cL_law 149 = .ok (.bipush 10, 2) := by decide +kernel
theorem dL_law_151 : decode cL_law 151 = .ok (.if_icmp .eq 6, 3) := by decide +kernel
theorem dL_law_154 : decode cL_law 154 = .ok (.goto 53, 3) := by decide +kernel
theorem dL_law_157 : decode cL_law 157 = .ok (.aload_n 1, 1) := by decide +kernel
theorem dL_law_158 : decode cL_law 158 = .ok (.invokevirtual 36, 3) := by decide +kernel
theorem dL_law_161 : decode cL_law 161 = .ok (.lstore 4, 2) := by decide +kernel
theorem dL_law_163 : decode cL_law 163 = .ok (.aload_n 1, 1) := by decide +kernel
theorem dL_law_164 : decode cL_law 164 = .ok (.aload_n 2, 1) := by decide +kernel
theorem dL_law_165 : decode cL_law 165 = .ok (.invokestatic 40, 3) := by decide +kernel
theorem dL_law_168 : decode cL_law 168 = .ok (.ifCond .eq 37, 3) := by decide +kernel
theorem dL_law_171 : decode cL_law 171 = .ok (.aload_n 1, 1) := by decide +kernel
theorem dL_law_172 : decode cL_law 172 = .ok (.aload_n 2, 1) := by decide +kernel
theorem dL_law_173 : decode cL_law 173 = .ok (.invokestatic 44, 3) := by decide +kernel
theorem dL_law_176 : decode cL_law 176 = .ok (.ifCond .eq 29, 3) := by decide +kernel
theorem dL_law_179 : decode cL_law 179 = .ok (.aload_n 1, 1) := by decide +kernel
theorem dL_law_180 : decode cL_law 180 = .ok (.aload_n 0, 1) := by decide +kernel
theorem dL_law_181 : decode cL_law 181 = .ok (.iload_n 3, 1) := by decide +kernel
theorem dL_law_182 : decode cL_law 182 = .ok (.bipush 29, 2) := by decide +kernel
theorem dL_law_184 : decode cL_law 184 = .ok (.irem, 1) := by decide +kernel
theorem dL_law_185 : decode cL_law 185 = .ok (.invokestatic 14, 3) := by decide +kernel
theorem dL_law_188 : decode cL_law 188 = .ok (.aload_n 2, 1) := by decide +kernel
theorem dL_law_189 : decode cL_law 189 = .ok (.invokestatic 47, 3) := by decide +kernel
theorem dL_law_192 : decode cL_law 192 = .ok (.ifCond .eq 13, 3) := by decide +kernel
theorem dL_law_195 : decode cL_law 195 = .ok (.aload_n 1, 1) := by decide +kernel
theorem dL_law_196 : decode cL_law 196 = .ok (.invokevirtual 36, 3) := by decide +kernel
theorem dL_law_199 : decode cL_law 199 = .ok (.lload 4, 2) := by decide +kernel
theorem dL_law_201 : decode cL_law 201 = .ok (.lcmp, 1) := by decide +kernel
theorem dL_law_202 : decode cL_law 202 = .ok (.ifCond .eq 5, 3) := by decide +kernel
theorem dL_law_205 : decode cL_law 205 = .ok (.iconst 0, 1) := by decide +kernel
theorem dL_law_206 : decode cL_law 206 = .ok (.ireturn, 1) := by decide +kernel
theorem dL_law_207 : decode cL_law 207 = .ok (.iinc 3 1, 3) := by decide +kernel
theorem dL_law_210 : decode cL_law 210 = .ok (.goto (-99), 3) := by decide +kernel
theorem dL_law_213 : decode cL_law 213 = .ok (.iconst 1, 1) := by decide +kernel
theorem dL_law_214 : decode cL_law 214 = .ok (.ireturn, 1) := by decide +kernel
theorem dL_addressOf_0 : decode cL_addressOf 0 = .ok (.iconst 0, 1) := by decide +kernel
theorem dL_addressOf_1 : decode cL_addressOf 1 = .ok (.istore_n 2, 1) := by decide +kernel
theorem dL_addressOf_2 : decode cL_addressOf 2 = .ok (.iload_n 2, 1) := by decide +kernel
theorem dL_addressOf_3 : decode cL_addressOf 3 = .ok (.bipush 32, 2) := by decide +kernel
theorem dL_addressOf_5 : decode cL_addressOf 5 = .ok (.if_icmp .ge 43, 3) := by decide +kernel
theorem dL_addressOf_8 : decode cL_addressOf 8 = .ok (.aload_n 0, 1) := by decide +kernel
theorem dL_addressOf_9 : decode cL_addressOf 9 = .ok (.iload_n 1, 1) := by decide +kernel
theorem dL_addressOf_10 : decode cL_addressOf 10 = .ok (.bipush 32, 2) := by decide +kernel
theorem dL_addressOf_12 : decode cL_addressOf 12 = .ok (.invokestatic 20, 3) := by decide +kernel
theorem dL_addressOf_15 : decode cL_addressOf 15 = .ok (.iload_n 2, 1) := by decide +kernel
theorem dL_addressOf_16 : decode cL_addressOf 16 = .ok (.iadd, 1) := by decide +kernel
theorem dL_addressOf_17 : decode cL_addressOf 17 = .ok (.bipush 32, 2) := by decide +kernel
theorem dL_addressOf_19 : decode cL_addressOf 19 = .ok (.irem, 1) := by decide +kernel
theorem dL_addressOf_20 : decode cL_addressOf 20 = .ok (.aaload, 1) := by decide +kernel
theorem dL_addressOf_21 : decode cL_addressOf 21 = .ok (.iconst 1, 1) := by decide +kernel
theorem dL_addressOf_22 : decode cL_addressOf 22 = .ok (.iaload, 1) := by decide +kernel
theorem dL_addressOf_23 : decode cL_addressOf 23 = .ok (.ifCond .lt 19, 3) := by decide +kernel
theorem dL_addressOf_26 : decode cL_addressOf 26 = .ok (.aload_n 0, 1) := by decide +kernel
theorem dL_addressOf_27 : decode cL_addressOf 27 = .ok (.iload_n 1, 1) := by decide +kernel
theorem dL_addressOf_28 : decode cL_addressOf 28 = .ok (.bipush 32, 2) := by decide +kernel
theorem dL_addressOf_30 : decode cL_addressOf 30 = .ok (.invokestatic 20, 3) := by decide +kernel
theorem dL_addressOf_33 : decode cL_addressOf 33 = .ok (.iload_n 2, 1) := by decide +kernel
theorem dL_addressOf_34 : decode cL_addressOf 34 = .ok (.iadd, 1) := by decide +kernel
theorem dL_addressOf_35 : decode cL_addressOf 35 = .ok (.bipush 32, 2) := by decide +kernel
theorem dL_addressOf_37 : decode cL_addressOf 37 = .ok (.irem, 1) := by decide +kernel
theorem dL_addressOf_38 : decode cL_addressOf 38 = .ok (.aaload, 1) := by decide +kernel
theorem dL_addressOf_39 : decode cL_addressOf 39 = .ok (.iconst 1, 1) := by decide +kernel
theorem dL_addressOf_40 : decode cL_addressOf 40 = .ok (.iaload, 1) := by decide +kernel
theorem dL_addressOf_41 : decode cL_addressOf 41 = .ok (.ireturn, 1) := by decide +kernel
theorem dL_addressOf_42 : decode cL_addressOf 42 = .ok (.iinc 2 1, 3) := by decide +kernel
theorem dL_addressOf_45 : decode cL_addressOf 45 = .ok (.goto (-43), 3) := by decide +kernel
theorem dL_addressOf_48 : decode cL_addressOf 48 = .ok (.iload_n 1, 1) := by decide +kernel
theorem dL_addressOf_49 : decode cL_addressOf 49 = .ok (.sipush 256, 3) := by decide +kernel
theorem dL_addressOf_52 : decode cL_addressOf 52 = .ok (.invokestatic 20, 3) := by decide +kernel
theorem dL_addressOf_55 : decode cL_addressOf 55 = .ok (.ireturn, 1) := by decide +kernel
theorem dL_act_0 : decode cL_act 0 = .ok (.iload_n 1, 1) := by decide +kernel
theorem dL_act_1 : decode cL_act 1 = .ok (.iconst 4, 1) := by decide +kernel
theorem dL_act_2 : decode cL_act 2 = .ok (.ishr, 1) := by decide +kernel
theorem dL_act_3 : decode cL_act 3 = .ok (.aload_n 0, 1) := by decide +kernel
theorem dL_act_4 : decode cL_act 4 = .ok (.invokevirtual 50, 3) := by decide +kernel
theorem dL_act_7 : decode cL_act 7 = .ok (.invokestatic 20, 3) := by decide +kernel
theorem dL_act_10 : decode cL_act 10 = .ok (.istore_n 3, 1) := by decide +kernel
theorem dL_act_11 : decode cL_act 11 = .ok (.aload_n 0, 1) := by decide +kernel
theorem dL_act_12 : decode cL_act 12 = .ok (.invokevirtual 54, 3) := by decide +kernel
theorem dL_act_15 : decode cL_act 15 = .ok (.istore 4, 2) := by decide +kernel
theorem dL_act_17 : decode cL_act 17 = .ok (.aload_n 0, 1) := by decide +kernel
theorem dL_act_18 : decode cL_act 18 = .ok (.invokevirtual 57, 3) := by decide +kernel
theorem dL_act_21 : decode cL_act 21 = .ok (.istore 5, 2) := by decide +kernel
theorem dL_act_23 : decode cL_act 23 = .ok (.aload_n 0, 1) := by decide +kernel
theorem dL_act_24 : decode cL_act 24 = .ok (.invokevirtual 60, 3) := by decide +kernel
theorem dL_act_27 : decode cL_act 27 = .ok (.i2l, 1) := by decide +kernel
theorem dL_act_28 : decode cL_act 28 = .ok (.lstore 6, 2) := by decide +kernel
theorem dL_act_30 : decode cL_act 30 = .ok (.iload_n 1, 1) := by decide +kernel
theorem dL_act_31 : decode cL_act 31 = .ok (.bipush 12, 2) := by decide +kernel
theorem dL_act_33 : decode cL_act 33 = .ok (.invokestatic 20, 3) := by decide +kernel
theorem dL_act_36 : decode cL_act 36 = .ok (.tableswitch 542 0 10 #[60, 60, 138, 180, 225, 225, 225, 373, 373, 373, 458], 60) := by decide +kernel
theorem dL_act_96 : decode cL_act 96 = .ok (.iload_n 1, 1) := by decide +kernel
theorem dL_act_97 : decode cL_act 97 = .ok (.bipush 6, 2) := by decide +kernel
theorem dL_act_99 : decode cL_act 99 = .ok (.ishr, 1) := by decide +kernel
theorem dL_act_100 : decode cL_act 100 = .ok (.iconst 2, 1) := by decide +kernel
theorem dL_act_101 : decode cL_act 101 = .ok (.invokestatic 20, 3) := by decide +kernel
theorem dL_act_104 : decode cL_act 104 = .ok (.istore 8, 2) := by decide +kernel
theorem dL_act_106 : decode cL_act 106 = .ok (.bipush 16, 2) := by decide +kernel
theorem dL_act_108 : decode cL_act 108 = .ok (.iconst 1, 1) := by decide +kernel
theorem dL_act_109 : decode cL_act 109 = .ok (.iload 8, 2) := by decide +kernel
theorem dL_act_111 : decode cL_act 111 = .ok (.iadd, 1) := by decide +kernel
theorem dL_act_112 : decode cL_act 112 = .ok (.imul, 1) := by decide +kernel
theorem dL_act_113 : decode cL_act 113 = .ok (.iload_n 1, 1) := by decide +kernel
theorem dL_act_114 : decode cL_act 114 = .ok (.bipush 8, 2) := by decide +kernel
theorem dL_act_116 : decode cL_act 116 = .ok (.ishr, 1) := by decide +kernel
theorem dL_act_117 : decode cL_act 117 = .ok (.bipush 12, 2) := by decide +kernel
theorem dL_act_119 : decode cL_act 119 = .ok (.invokestatic 20, 3) := by decide +kernel
theorem dL_act_122 : decode cL_act 122 = .ok (.iadd, 1) := by decide +kernel
theorem dL_act_123 : decode cL_act 123 = .ok (.istore 9, 2) := by decide +kernel
theorem dL_act_125 : decode cL_act 125 = .ok (.aload_n 0, 1) := by decide +kernel
theorem dL_act_126 : decode cL_act 126 = .ok (.iload_n 3, 1) := by decide +kernel
theorem dL_act_127 : decode cL_act 127 = .ok (.iload 8, 2) := by decide +kernel
theorem dL_act_129 : decode cL_act 129 = .ok (.iload 9, 2) := by decide +kernel
theorem dL_act_131 : decode cL_act 131 = .ok (.iconst 4, 1) := by decide +kernel
theorem dL_act_132 : decode cL_act 132 = .ok (.invokevirtual 63, 3) := by decide +kernel
theorem dL_act_135 : decode cL_act 135 = .ok (.istore 10, 2) := by decide +kernel
theorem dL_act_137 : decode cL_act 137 = .ok (.aload_n 2, 1) := by decide +kernel
theorem dL_act_138 : decode cL_act 138 = .ok (.iload 10, 2) := by decide +kernel
theorem dL_act_140 : decode cL_act 140 = .ok (.aaload, 1) := by decide +kernel
theorem dL_act_141 : decode cL_act 141 = .ok (.iconst 1, 1) := by decide +kernel
theorem dL_act_142 : decode cL_act 142 = .ok (.iaload, 1) := by decide +kernel
theorem dL_act_143 : decode cL_act 143 = .ok (.ifCond .ge 11, 3) := by decide +kernel
theorem dL_act_146 : decode cL_act 146 = .ok (.iload 10, 2) := by decide +kernel
theorem dL_act_148 : decode cL_act 148 = .ok (.iconst 4, 1) := by decide +kernel
theorem dL_act_149 : decode cL_act 149 = .ok (.idiv, 1) := by decide +kernel
theorem dL_act_150 : decode cL_act 150 = .ok (.iload_n 3, 1) := by decide +kernel
theorem dL_act_151 : decode cL_act 151 = .ok (.if_icmp .eq 5, 3) := by decide +kernel
theorem dL_act_154 : decode cL_act 154 = .ok (.iconst 0, 1) := by decide +kernel
theorem dL_act_155 : decode cL_act 155 = .ok (.ireturn, 1) := by decide +kernel
theorem dL_act_156 : decode cL_act 156 = .ok (.aload_n 2, 1) := by decide +kernel
theorem dL_act_157 : decode cL_act 157 = .ok (.iload 10, 2) := by decide +kernel
theorem dL_act_159 : decode cL_act 159 = .ok (.aaload, 1) := by decide +kernel
theorem dL_act_160 : decode cL_act 160 = .ok (.iconst 0, 1) := by decide +kernel
theorem dL_act_161 : decode cL_act 161 = .ok (.iload 8, 2) := by decide +kernel
theorem dL_act_163 : decode cL_act 163 = .ok (.iastore, 1) := by decide +kernel
theorem dL_act_164 : decode cL_act 164 = .ok (.aload_n 2, 1) := by decide +kernel
theorem dL_act_165 : decode cL_act 165 = .ok (.iload 10, 2) := by decide +kernel
theorem dL_act_167 : decode cL_act 167 = .ok (.aaload, 1) := by decide +kernel
theorem dL_act_168 : decode cL_act 168 = .ok (.iconst 1, 1) := by decide +kernel
theorem dL_act_169 : decode cL_act 169 = .ok (.iload 9, 2) := by decide +kernel
theorem dL_act_171 : decode cL_act 171 = .ok (.iastore, 1) := by decide +kernel
theorem dL_act_172 : decode cL_act 172 = .ok (.iconst 1, 1) := by decide +kernel
theorem dL_act_173 : decode cL_act 173 = .ok (.ireturn, 1) := by decide +kernel
theorem dL_act_174 : decode cL_act 174 = .ok (.aload_n 0, 1) := by decide +kernel
theorem dL_act_175 : decode cL_act 175 = .ok (.iload_n 3, 1) := by decide +kernel
theorem dL_act_176 : decode cL_act 176 = .ok (.bipush 16, 2) := by decide +kernel
theorem dL_act_178 : decode cL_act 178 = .ok (.iload_n 1, 1) := by decide +kernel
theorem dL_act_179 : decode cL_act 179 = .ok (.iconst 5, 1) := by decide +kernel
theorem dL_act_180 : decode cL_act 180 = .ok (.ishr, 1) := by decide +kernel
theorem dL_act_181 : decode cL_act 181 = .ok (.iconst 4, 1) := by decide +kernel
theorem dL_act_182 : decode cL_act 182 = .ok (.invokestatic 20, 3) := by decide +kernel
theorem dL_act_185 : decode cL_act 185 = .ok (.imul, 1) := by decide +kernel
theorem dL_act_186 : decode cL_act 186 = .ok (.iload_n 1, 1) := by decide +kernel
theorem dL_act_187 : decode cL_act 187 = .ok (.bipush 7, 2) := by decide +kernel
theorem dL_act_189 : decode cL_act 189 = .ok (.ishr, 1) := by decide +kernel
theorem dL_act_190 : decode cL_act 190 = .ok (.iconst 5, 1) := by decide +kernel
theorem dL_act_191 : decode cL_act 191 = .ok (.invokestatic 20, 3) := by decide +kernel
theorem dL_act_194 : decode cL_act 194 = .ok (.aload_n 2, 1) := by decide +kernel
theorem dL_act_195 : decode cL_act 195 = .ok (.iload_n 1, 1) := by decide +kernel
theorem dL_act_196 : decode cL_act 196 = .ok (.bipush 6, 2) := by decide +kernel
theorem dL_act_198 : decode cL_act 198 = .ok (.ishr, 1) := by decide +kernel
theorem dL_act_199 : decode cL_act 199 = .ok (.invokestatic 67, 3) := by decide +kernel
theorem dL_act_202 : decode cL_act 202 = .ok (.invokevirtual 71, 3) := by decide +kernel
theorem dL_act_205 : decode cL_act 205 = .ok (.bipush 6, 2) := by decide +kernel
theorem dL_act_207 : decode cL_act 207 = .ok (.if_icmp .ge 7, 3) := by decide +kernel
theorem dL_act_210 : decode cL_act 210 = .ok (.iconst 1, 1) := by decide +kernel
theorem dL_act_211 : decode cL_act 211 = .ok (.goto 4, 3) := by decide +kernel
theorem dL_act_214 : decode cL_act 214 = .ok (.iconst 0, 1) := by decide +kernel
theorem dL_act_215 : decode cL_act 215 = .ok (.ireturn, 1) := by decide +kernel
theorem dL_act_216 : decode cL_act 216 = .ok (.aload_n 0, 1) := by decide +kernel
theorem dL_act_217 : decode cL_act 217 = .ok (.iload_n 3, 1) := by decide +kernel
theorem dL_act_218 : decode cL_act 218 = .ok (.aload_n 2, 1) := by decide +kernel
theorem dL_act_219 : decode cL_act 219 = .ok (.iload_n 1, 1) := by decide +kernel
theorem dL_act_220 : decode cL_act 220 = .ok (.bipush 6, 2) := by decide +kernel
theorem dL_act_222 : decode cL_act 222 = .ok (.ishr, 1) := by decide +kernel
theorem dL_act_223 : decode cL_act 223 = .ok (.invokestatic 67, 3) := by decide +kernel
theorem dL_act_226 : decode cL_act 226 = .ok (.invokevirtual 74, 3) := by decide +kernel
theorem dL_act_229 : decode cL_act 229 = .ok (.iconst 2, 1) := by decide +kernel
theorem dL_act_230 : decode cL_act 230 = .ok (.if_icmp .ge 29, 3) := by decide +kernel
theorem dL_act_233 : decode cL_act 233 = .ok (.aload_n 0, 1) := by decide +kernel
theorem dL_act_234 : decode cL_act 234 = .ok (.iload_n 3, 1) := by decide +kernel
theorem dL_act_235 : decode cL_act 235 = .ok (.bipush 16, 2) := by decide +kernel
theorem dL_act_237 : decode cL_act 237 = .ok (.iload_n 1, 1) := by decide +kernel
theorem dL_act_238 : decode cL_act 238 = .ok (.iconst 5, 1) := by decide +kernel
theorem dL_act_239 : decode cL_act 239 = .ok (.ishr, 1) := by decide +kernel
theorem dL_act_240 : decode cL_act 240 = .ok (.iconst 4, 1) := by decide +kernel
theorem dL_act_241 : decode cL_act 241 = .ok (.invokestatic 20, 3) := by decide +kernel
theorem dL_act_244 : decode cL_act 244 = .ok (.imul, 1) := by decide +kernel
theorem dL_act_245 : decode cL_act 245 = .ok (.iconst 4, 1) := by decide +kernel
theorem dL_act_246 : decode cL_act 246 = .ok (.iconst (-1), 1) := by decide +kernel
theorem dL_act_247 : decode cL_act 247 = .ok (.invokevirtual 71, 3) := by decide +kernel
theorem dL_act_250 : decode cL_act 250 = .ok (.bipush 6, 2) := by decide +kernel
theorem dL_act_252 : decode cL_act 252 = .ok (.if_icmp .ge 7, 3) := by decide +kernel
theorem dL_act_255 : decode cL_act 255 = .ok (.iconst 1, 1) := by decide +kernel
theorem dL_act_256 : decode cL_act 256 = .ok (.goto 4, 3) := by decide +kernel
theorem dL_act_259 : decode cL_act 259 = .ok (.iconst 0, 1) := by decide +kernel
theorem dL_act_260 : decode cL_act 260 = .ok (.ireturn, 1) := by decide +kernel
theorem dL_act_261 : decode cL_act 261 = .ok (.iload_n 1, 1) := by decide +kernel
theorem dL_act_262 : decode cL_act 262 = .ok (.bipush 9, 2) := by decide +kernel
theorem dL_act_264 : decode cL_act 264 = .ok (.ishr, 1) := by decide +kernel
theorem dL_act_265 : decode cL_act 265 = .ok (.bipush 6, 2) := by decide +kernel
theorem dL_act_267 : decode cL_act 267 = .ok (.invokestatic 20, 3) := by decide +kernel
theorem dL_act_270 : decode cL_act 270 = .ok (.ifCond .ne 15, 3) := by decide +kernel
theorem dL_act_273 : decode cL_act 273 = .ok (.iload_n 1, 1) := by decide +kernel
theorem dL_act_274 : decode cL_act 274 = .ok (.iconst 5, 1) := by decide +kernel
theorem dL_act_275 : decode cL_act 275 = .ok (.ishr, 1) := by decide +kernel
theorem dL_act_276 : decode cL_act 276 = .ok (.sipush 256, 3) := by decide +kernel
theorem dL_act_279 : decode cL_act 279 = .ok (.invokestatic 20, 3) := by decide +kernel
theorem dL_act_282 : decode cL_act 282 = .ok (.goto 11, 3) := by decide +kernel
theorem dL_act_285 : decode cL_act 285 = .ok (.aload_n 2, 1) := by decide +kernel
theorem dL_act_286 : decode cL_act 286 = .ok (.iload_n 1, 1) := by decide +kernel
theorem dL_act_287 : decode cL_act 287 = .ok (.bipush 6, 2) := by decide +kernel
theorem dL_act_289 : decode cL_act 289 = .ok (.ishr, 1) := by decide +kernel
theorem dL_act_290 : decode cL_act 290 = .ok (.invokestatic 67, 3) := by decide +kernel
theorem dL_act_293 : decode cL_act 293 = .ok (.istore 11, 2) := by decide +kernel
theorem dL_act_295 : decode cL_act 295 = .ok (.aload_n 0, 1) := by decide +kernel
theorem dL_act_296 : decode cL_act 296 = .ok (.iload_n 3, 1) := by decide +kernel
theorem dL_act_297 : decode cL_act 297 = .ok (.iload 11, 2) := by decide +kernel
theorem dL_act_299 : decode cL_act 299 = .ok (.iload_n 1, 1) := by decide +kernel
theorem dL_act_300 : decode cL_act 300 = .ok (.bipush 7, 2) := by decide +kernel
theorem dL_act_302 : decode cL_act 302 = .ok (.ishr, 1) := by decide +kernel
theorem dL_act_303 : decode cL_act 303 = .ok (.iconst 2, 1) := by decide +kernel
theorem dL_act_304 : decode cL_act 304 = .ok (.invokestatic 20, 3) := by decide +kernel
theorem dL_act_307 : decode cL_act 307 = .ok (.ifCond .ne 7, 3) := by decide +kernel
theorem dL_act_310 : decode cL_act 310 = .ok (.iconst 1, 1) := by decide +kernel
theorem dL_act_311 : decode cL_act 311 = .ok (.goto 4, 3) := by decide +kernel
theorem dL_act_314 : decode cL_act 314 = .ok (.iconst 0, 1) := by decide +kernel
theorem dL_act_315 : decode cL_act 315 = .ok (.iload_n 1, 1) := by decide +kernel
theorem dL_act_316 : decode cL_act 316 = .ok (.bipush 8, 2) := by decide +kernel
theorem dL_act_318 : decode cL_act 318 = .ok (.ishr, 1) := by decide +kernel
theorem dL_act_319 : decode cL_act 319 = .ok (.bipush 60, 2) := by decide +kernel
theorem dL_act_321 : decode cL_act 321 = .ok (.invokestatic 20, 3) := by decide +kernel
theorem dL_act_324 : decode cL_act 324 = .ok (.iconst 1, 1) := by decide +kernel
theorem dL_act_325 : decode cL_act 325 = .ok (.iload_n 1, 1) := by decide +kernel
theorem dL_act_326 : decode cL_act 326 = .ok (.iconst 5, 1) := by decide +kernel
theorem dL_act_327 : decode cL_act 327 = .ok (.ishr, 1) := by decide +kernel
theorem dL_act_328 : decode cL_act 328 = .ok (.bipush 6, 2) := by decide +kernel
theorem dL_act_330 : decode cL_act 330 = .ok (.invokestatic 20, 3) := by decide +kernel
theorem dL_act_333 : decode cL_act 333 = .ok (.iadd, 1) := by decide +kernel
theorem dL_act_334 : decode cL_act 334 = .ok (.iload_n 1, 1) := by decide +kernel
theorem dL_act_335 : decode cL_act 335 = .ok (.bipush 6, 2) := by decide +kernel
theorem dL_act_337 : decode cL_act 337 = .ok (.ishr, 1) := by decide +kernel
theorem dL_act_338 : decode cL_act 338 = .ok (.iconst 3, 1) := by decide +kernel
theorem dL_act_339 : decode cL_act 339 = .ok (.invokestatic 20, 3) := by decide +kernel
theorem dL_act_342 : decode cL_act 342 = .ok (.ifCond .ne 7, 3) := by decide +kernel
theorem dL_act_345 : decode cL_act 345 = .ok (.iconst 1, 1) := by decide +kernel
theorem dL_act_346 : decode cL_act 346 = .ok (.goto 4, 3) := by decide +kernel
theorem dL_act_349 : decode cL_act 349 = .ok (.iconst 0, 1) := by decide +kernel
theorem dL_act_350 : decode cL_act 350 = .ok (.invokevirtual 77, 3) := by decide +kernel
theorem dL_act_353 : decode cL_act 353 = .ok (.istore 12, 2) := by decide +kernel
theorem dL_act_355 : decode cL_act 355 = .ok (.iload 12, 2) := by decide +kernel
theorem dL_act_357 : decode cL_act 357 = .ok (.iconst (-1), 1) := by decide +kernel
