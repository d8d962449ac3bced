theorem dX6_init_0 : decode cX6_init 0 = .ok (.aload_n 0, 1) := by decide +kernel
theorem dX6_init_1 : decode cX6_init 1 = .ok (.invokespecial 1, 3) := by decide +kernel
theorem dX6_init_4 : decode cX6_init 4 = .ok (.aload_n 0, 1) := by decide +kernel
theorem dX6_init_5 : decode cX6_init 5 = .ok (.new 7, 3) := by decide +kernel
theorem dX6_init_8 : decode cX6_init 8 = .ok (.dup, 1) := by decide +kernel
theorem dX6_init_9 : decode cX6_init 9 = .ok (.invokespecial 9, 3) := by decide +kernel
theorem dX6_init_12 : decode cX6_init 12 = .ok (.putfield 10, 3) := by decide +kernel
theorem dX6_init_15 : decode cX6_init 15 = .ok (.aload_n 0, 1) := by decide +kernel
theorem dX6_init_16 : decode cX6_init 16 = .ok (.new 16, 3) := by decide +kernel
theorem dX6_init_19 : decode cX6_init 19 = .ok (.dup, 1) := by decide +kernel
theorem dX6_init_20 : decode cX6_init 20 = .ok (.invokespecial 18, 3) := by decide +kernel
theorem dX6_init_23 : decode cX6_init 23 = .ok (.putfield 19, 3) := by decide +kernel
theorem dX6_init_26 : decode cX6_init 26 = .ok (.aload_n 0, 1) := by decide +kernel
theorem dX6_init_27 : decode cX6_init 27 = .ok (.new 7, 3) := by decide +kernel
theorem dX6_init_30 : decode cX6_init 30 = .ok (.dup, 1) := by decide +kernel
theorem dX6_init_31 : decode cX6_init 31 = .ok (.invokespecial 9, 3) := by decide +kernel
theorem dX6_init_34 : decode cX6_init 34 = .ok (.putfield 23, 3) := by decide +kernel
theorem dX6_init_37 : decode cX6_init 37 = .ok (.aload_n 0, 1) := by decide +kernel
theorem dX6_init_38 : decode cX6_init 38 = .ok (.new 26, 3) := by decide +kernel
theorem dX6_init_41 : decode cX6_init 41 = .ok (.dup, 1) := by decide +kernel
theorem dX6_init_42 : decode cX6_init 42 = .ok (.invokespecial 28, 3) := by decide +kernel
theorem dX6_init_45 : decode cX6_init 45 = .ok (.putfield 29, 3) := by decide +kernel
theorem dX6_init_48 : decode cX6_init 48 = .ok (.aload_n 0, 1) := by decide +kernel
theorem dX6_init_49 : decode cX6_init 49 = .ok (.new 33, 3) := by decide +kernel
theorem dX6_init_52 : decode cX6_init 52 = .ok (.dup, 1) := by decide +kernel
theorem dX6_init_53 : decode cX6_init 53 = .ok (.invokespecial 35, 3) := by decide +kernel
theorem dX6_init_56 : decode cX6_init 56 = .ok (.putfield 36, 3) := by decide +kernel
theorem dX6_init_59 : decode cX6_init 59 = .ok (.aload_n 0, 1) := by decide +kernel
theorem dX6_init_60 : decode cX6_init 60 = .ok (.bipush 8, 2) := by decide +kernel
theorem dX6_init_62 : decode cX6_init 62 = .ok (.newarray .int, 2) := by decide +kernel
theorem dX6_init_64 : decode cX6_init 64 = .ok (.putfield 40, 3) := by decide +kernel
theorem dX6_init_67 : decode cX6_init 67 = .ok (.return_, 1) := by decide +kernel
theorem dX6_addMotor_0 : decode cX6_addMotor 0 = .ok (.iload_n 1, 1) := by decide +kernel
theorem dX6_addMotor_1 : decode cX6_addMotor 1 = .ok (.iconst 1, 1) := by decide +kernel
theorem dX6_addMotor_2 : decode cX6_addMotor 2 = .ok (.bipush 100, 2) := by decide +kernel
theorem dX6_addMotor_4 : decode cX6_addMotor 4 = .ok (.invokestatic 44, 3) := by decide +kernel
theorem dX6_addMotor_7 : decode cX6_addMotor 7 = .ok (.ifCond .ne 35, 3) := by decide +kernel
theorem dX6_addMotor_10 : decode cX6_addMotor 10 = .ok (.iload_n 2, 1) := by decide +kernel
theorem dX6_addMotor_11 : decode cX6_addMotor 11 = .ok (.iconst 2, 1) := by decide +kernel
theorem dX6_addMotor_12 : decode cX6_addMotor 12 = .ok (.bipush 30, 2) := by decide +kernel
theorem dX6_addMotor_14 : decode cX6_addMotor 14 = .ok (.invokestatic 44, 3) := by decide +kernel
theorem dX6_addMotor_17 : decode cX6_addMotor 17 = .ok (.ifCond .ne 25, 3) := by decide +kernel
theorem dX6_addMotor_20 : decode cX6_addMotor 20 = .ok (.iload_n 3, 1) := by decide +kernel
theorem dX6_addMotor_21 : decode cX6_addMotor 21 = .ok (.iconst 2, 1) := by decide +kernel
theorem dX6_addMotor_22 : decode cX6_addMotor 22 = .ok (.bipush 6, 2) := by decide +kernel
theorem dX6_addMotor_24 : decode cX6_addMotor 24 = .ok (.invokestatic 44, 3) := by decide +kernel
theorem dX6_addMotor_27 : decode cX6_addMotor 27 = .ok (.ifCond .ne 15, 3) := by decide +kernel
theorem dX6_addMotor_30 : decode cX6_addMotor 30 = .ok (.iload 4, 2) := by decide +kernel
theorem dX6_addMotor_32 : decode cX6_addMotor 32 = .ok (.bipush 100, 2) := by decide +kernel
theorem dX6_addMotor_34 : decode cX6_addMotor 34 = .ok (.ldc 48, 2) := by decide +kernel
theorem dX6_addMotor_36 : decode cX6_addMotor 36 = .ok (.invokestatic 44, 3) := by decide +kernel
theorem dX6_addMotor_39 : decode cX6_addMotor 39 = .ok (.ifCond .eq 6, 3) := by decide +kernel
theorem dX6_addMotor_42 : decode cX6_addMotor 42 = .ok (.bipush (-2), 2) := by decide +kernel
theorem dX6_addMotor_44 : decode cX6_addMotor 44 = .ok (.ireturn, 1) := by decide +kernel
theorem dX6_addMotor_45 : decode cX6_addMotor 45 = .ok (.aload_n 0, 1) := by decide +kernel
theorem dX6_addMotor_46 : decode cX6_addMotor 46 = .ok (.getfield 10, 3) := by decide +kernel
theorem dX6_addMotor_49 : decode cX6_addMotor 49 = .ok (.getfield 49, 3) := by decide +kernel
theorem dX6_addMotor_52 : decode cX6_addMotor 52 = .ok (.bipush 8, 2) := by decide +kernel
theorem dX6_addMotor_54 : decode cX6_addMotor 54 = .ok (.if_icmp .lt 9, 3) := by decide +kernel
theorem dX6_addMotor_57 : decode cX6_addMotor 57 = .ok (.aload_n 0, 1) := by decide +kernel
theorem dX6_addMotor_58 : decode cX6_addMotor 58 = .ok (.iconst 5, 1) := by decide +kernel
theorem dX6_addMotor_59 : decode cX6_addMotor 59 = .ok (.invokevirtual 53, 3) := by decide +kernel
theorem dX6_addMotor_62 : decode cX6_addMotor 62 = .ok (.ireturn, 1) := by decide +kernel
theorem dX6_addMotor_63 : decode cX6_addMotor 63 = .ok (.aload_n 0, 1) := by decide +kernel
theorem dX6_addMotor_64 : decode cX6_addMotor 64 = .ok (.getfield 19, 3) := by decide +kernel
theorem dX6_addMotor_67 : decode cX6_addMotor 67 = .ok (.aload_n 0, 1) := by decide +kernel
theorem dX6_addMotor_68 : decode cX6_addMotor 68 = .ok (.getfield 10, 3) := by decide +kernel
theorem dX6_addMotor_71 : decode cX6_addMotor 71 = .ok (.invokevirtual 57, 3) := by decide +kernel
theorem dX6_addMotor_74 : decode cX6_addMotor 74 = .ok (.aload_n 0, 1) := by decide +kernel
theorem dX6_addMotor_75 : decode cX6_addMotor 75 = .ok (.getfield 10, 3) := by decide +kernel
theorem dX6_addMotor_78 : decode cX6_addMotor 78 = .ok (.getfield 49, 3) := by decide +kernel
theorem dX6_addMotor_81 : decode cX6_addMotor 81 = .ok (.istore 5, 2) := by decide +kernel
theorem dX6_addMotor_83 : decode cX6_addMotor 83 = .ok (.aload_n 0, 1) := by decide +kernel
theorem dX6_addMotor_84 : decode cX6_addMotor 84 = .ok (.getfield 10, 3) := by decide +kernel
theorem dX6_addMotor_87 : decode cX6_addMotor 87 = .ok (.getfield 61, 3) := by decide +kernel
theorem dX6_addMotor_90 : decode cX6_addMotor 90 = .ok (.iload 5, 2) := by decide +kernel
theorem dX6_addMotor_92 : decode cX6_addMotor 92 = .ok (.aaload, 1) := by decide +kernel
theorem dX6_addMotor_93 : decode cX6_addMotor 93 = .ok (.iload_n 1, 1) := by decide +kernel
theorem dX6_addMotor_94 : decode cX6_addMotor 94 = .ok (.iload_n 2, 1) := by decide +kernel
theorem dX6_addMotor_95 : decode cX6_addMotor 95 = .ok (.iload_n 3, 1) := by decide +kernel
theorem dX6_addMotor_96 : decode cX6_addMotor 96 = .ok (.iload 4, 2) := by decide +kernel
theorem dX6_addMotor_98 : decode cX6_addMotor 98 = .ok (.invokevirtual 65, 3) := by decide +kernel
theorem dX6_addMotor_101 : decode cX6_addMotor 101 = .ok (.aload_n 0, 1) := by decide +kernel
theorem dX6_addMotor_102 : decode cX6_addMotor 102 = .ok (.getfield 10, 3) := by decide +kernel
theorem dX6_addMotor_105 : decode cX6_addMotor 105 = .ok (.iload 5, 2) := by decide +kernel
theorem dX6_addMotor_107 : decode cX6_addMotor 107 = .ok (.iconst 1, 1) := by decide +kernel
theorem dX6_addMotor_108 : decode cX6_addMotor 108 = .ok (.iadd, 1) := by decide +kernel
theorem dX6_addMotor_109 : decode cX6_addMotor 109 = .ok (.putfield 49, 3) := by decide +kernel
theorem dX6_addMotor_112 : decode cX6_addMotor 112 = .ok (.iload 5, 2) := by decide +kernel
theorem dX6_addMotor_114 : decode cX6_addMotor 114 = .ok (.ireturn, 1) := by decide +kernel
theorem dX6_setNeed_0 : decode cX6_setNeed 0 = .ok (.aload_n 0, 1) := by decide +kernel
theorem dX6_setNeed_1 : decode cX6_setNeed 1 = .ok (.getfield 10, 3) := by decide +kernel
theorem dX6_setNeed_4 : decode cX6_setNeed 4 = .ok (.iload_n 1, 1) := by decide +kernel
theorem dX6_setNeed_5 : decode cX6_setNeed 5 = .ok (.invokevirtual 71, 3) := by decide +kernel
theorem dX6_setNeed_8 : decode cX6_setNeed 8 = .ok (.astore_n 3, 1) := by decide +kernel
theorem dX6_setNeed_9 : decode cX6_setNeed 9 = .ok (.aload_n 3, 1) := by decide +kernel
theorem dX6_setNeed_10 : decode cX6_setNeed 10 = .ok (.ifnonnull 5, 3) := by decide +kernel
theorem dX6_setNeed_13 : decode cX6_setNeed 13 = .ok (.iconst (-1), 1) := by decide +kernel
theorem dX6_setNeed_14 : decode cX6_setNeed 14 = .ok (.ireturn, 1) := by decide +kernel
theorem dX6_setNeed_15 : decode cX6_setNeed 15 = .ok (.iload_n 2, 1) := by decide +kernel
theorem dX6_setNeed_16 : decode cX6_setNeed 16 = .ok (.iconst 0, 1) := by decide +kernel
theorem dX6_setNeed_17 : decode cX6_setNeed 17 = .ok (.bipush 9, 2) := by decide +kernel
theorem dX6_setNeed_19 : decode cX6_setNeed 19 = .ok (.invokestatic 44, 3) := by decide +kernel
theorem dX6_setNeed_22 : decode cX6_setNeed 22 = .ok (.ifCond .eq 6, 3) := by decide +kernel
theorem dX6_setNeed_25 : decode cX6_setNeed 25 = .ok (.bipush (-2), 2) := by decide +kernel
theorem dX6_setNeed_27 : decode cX6_setNeed 27 = .ok (.ireturn, 1) := by decide +kernel
theorem dX6_setNeed_28 : decode cX6_setNeed 28 = .ok (.aload_n 3, 1) := by decide +kernel
theorem dX6_setNeed_29 : decode cX6_setNeed 29 = .ok (.getfield 75, 3) := by decide +kernel
theorem dX6_setNeed_32 : decode cX6_setNeed 32 = .ok (.istore 4, 2) := by decide +kernel
theorem dX6_setNeed_34 : decode cX6_setNeed 34 = .ok (.iload_n 2, 1) := by decide +kernel
theorem dX6_setNeed_35 : decode cX6_setNeed 35 = .ok (.iload 4, 2) := by decide +kernel
theorem dX6_setNeed_37 : decode cX6_setNeed 37 = .ok (.if_icmp .ne 6, 3) := by decide +kernel
theorem dX6_setNeed_40 : decode cX6_setNeed 40 = .ok (.bipush (-4), 2) := by decide +kernel
theorem dX6_setNeed_42 : decode cX6_setNeed 42 = .ok (.ireturn, 1) := by decide +kernel
theorem dX6_setNeed_43 : decode cX6_setNeed 43 = .ok (.aload_n 0, 1) := by decide +kernel
theorem dX6_setNeed_44 : decode cX6_setNeed 44 = .ok (.getfield 19, 3) := by decide +kernel
theorem dX6_setNeed_47 : decode cX6_setNeed 47 = .ok (.aload_n 0, 1) := by decide +kernel
theorem dX6_setNeed_48 : decode cX6_setNeed 48 = .ok (.getfield 10, 3) := by decide +kernel
theorem dX6_setNeed_51 : decode cX6_setNeed 51 = .ok (.invokevirtual 57, 3) := by decide +kernel
theorem dX6_setNeed_54 : decode cX6_setNeed 54 = .ok (.aload_n 3, 1) := by decide +kernel
theorem dX6_setNeed_55 : decode cX6_setNeed 55 = .ok (.iload_n 2, 1) := by decide +kernel
theorem dX6_setNeed_56 : decode cX6_setNeed 56 = .ok (.putfield 75, 3) := by decide +kernel
theorem dX6_setNeed_59 : decode cX6_setNeed 59 = .ok (.iload 4, 2) := by decide +kernel
theorem dX6_setNeed_61 : decode cX6_setNeed 61 = .ok (.ireturn, 1) := by decide +kernel
theorem dX6_setLimit_0 : decode cX6_setLimit 0 = .ok (.iload_n 1, 1) := by decide +kernel
theorem dX6_setLimit_1 : decode cX6_setLimit 1 = .ok (.bipush 10, 2) := by decide +kernel
theorem dX6_setLimit_3 : decode cX6_setLimit 3 = .ok (.sipush 2000, 3) := by decide +kernel
theorem dX6_setLimit_6 : decode cX6_setLimit 6 = .ok (.invokestatic 44, 3) := by decide +kernel
theorem dX6_setLimit_9 : decode cX6_setLimit 9 = .ok (.ifCond .eq 6, 3) := by decide +kernel
theorem dX6_setLimit_12 : decode cX6_setLimit 12 = .ok (.bipush (-2), 2) := by decide +kernel
theorem dX6_setLimit_14 : decode cX6_setLimit 14 = .ok (.ireturn, 1) := by decide +kernel
theorem dX6_setLimit_15 : decode cX6_setLimit 15 = .ok (.aload_n 0, 1) := by decide +kernel
theorem dX6_setLimit_16 : decode cX6_setLimit 16 = .ok (.getfield 10, 3) := by decide +kernel
theorem dX6_setLimit_19 : decode cX6_setLimit 19 = .ok (.getfield 78, 3) := by decide +kernel
theorem dX6_setLimit_22 : decode cX6_setLimit 22 = .ok (.istore_n 2, 1) := by decide +kernel
theorem dX6_setLimit_23 : decode cX6_setLimit 23 = .ok (.iload_n 1, 1) := by decide +kernel
theorem dX6_setLimit_24 : decode cX6_setLimit 24 = .ok (.iload_n 2, 1) := by decide +kernel
theorem dX6_setLimit_25 : decode cX6_setLimit 25 = .ok (.if_icmp .ne 6, 3) := by decide +kernel
theorem dX6_setLimit_28 : decode cX6_setLimit 28 = .ok (.bipush (-4), 2) := by decide +kernel
theorem dX6_setLimit_30 : decode cX6_setLimit 30 = .ok (.ireturn, 1) := by decide +kernel
theorem dX6_setLimit_31 : decode cX6_setLimit 31 = .ok (.aload_n 0, 1) := by decide +kernel
theorem dX6_setLimit_32 : decode cX6_setLimit 32 = .ok (.getfield 19, 3) := by decide +kernel
theorem dX6_setLimit_35 : decode cX6_setLimit 35 = .ok (.aload_n 0, 1) := by decide +kernel
theorem dX6_setLimit_36 : decode cX6_setLimit 36 = .ok (.getfield 10, 3) := by decide +kernel
theorem dX6_setLimit_39 : decode cX6_setLimit 39 = .ok (.invokevirtual 57, 3) := by decide +kernel
theorem dX6_setLimit_42 : decode cX6_setLimit 42 = .ok (.aload_n 0, 1) := by decide +kernel
theorem dX6_setLimit_43 : decode cX6_setLimit 43 = .ok (.getfield 10, 3) := by decide +kernel
theorem dX6_setLimit_46 : decode cX6_setLimit 46 = .ok (.iload_n 1, 1) := by decide +kernel
theorem dX6_setLimit_47 : decode cX6_setLimit 47 = .ok (.putfield 78, 3) := by decide +kernel
theorem dX6_setLimit_50 : decode cX6_setLimit 50 = .ok (.iload_n 2, 1) := by decide +kernel
theorem dX6_setLimit_51 : decode cX6_setLimit 51 = .ok (.ireturn, 1) := by decide +kernel
theorem dX6_setFan_0 : decode cX6_setFan 0 = .ok (.aload_n 0, 1) := by decide +kernel
theorem dX6_setFan_1 : decode cX6_setFan 1 = .ok (.iconst 4, 1) := by decide +kernel
theorem dX6_setFan_2 : decode cX6_setFan 2 = .ok (.iload_n 1, 1) := by decide +kernel
theorem dX6_setFan_3 : decode cX6_setFan 3 = .ok (.ifCond .eq 7, 3) := by decide +kernel
theorem dX6_setFan_6 : decode cX6_setFan 6 = .ok (.iconst 1, 1) := by decide +kernel
theorem dX6_setFan_7 : decode cX6_setFan 7 = .ok (.goto 4, 3) := by decide +kernel
theorem dX6_setFan_10 : decode cX6_setFan 10 = .ok (.iconst 0, 1) := by decide +kernel
theorem dX6_setFan_11 : decode cX6_setFan 11 = .ok (.bipush (-4), 2) := by decide +kernel
theorem dX6_setFan_13 : decode cX6_setFan 13 = .ok (.invokevirtual 81, 3) := by decide +kernel
theorem dX6_setFan_16 : decode cX6_setFan 16 = .ok (.ireturn, 1) := by decide +kernel
theorem dX6_request_0 : decode cX6_request 0 = .ok (.aload_n 0, 1) := by decide +kernel
theorem dX6_request_1 : decode cX6_request 1 = .ok (.iconst 0, 1) := by decide +kernel
theorem dX6_request_2 : decode cX6_request 2 = .ok (.iload_n 1, 1) := by decide +kernel
theorem dX6_request_3 : decode cX6_request 3 = .ok (.bipush (-4), 2) := by decide +kernel
theorem dX6_request_5 : decode cX6_request 5 = .ok (.invokevirtual 81, 3) := by decide +kernel
theorem dX6_request_8 : decode cX6_request 8 = .ok (.istore_n 2, 1) := by decide +kernel
theorem dX6_request_9 : decode cX6_request 9 = .ok (.iload_n 2, 1) := by decide +kernel
theorem dX6_request_10 : decode cX6_request 10 = .ok (.ifCond .ge 7, 3) := by decide +kernel
theorem dX6_request_13 : decode cX6_request 13 = .ok (.iload_n 2, 1) := by decide +kernel
theorem dX6_request_14 : decode cX6_request 14 = .ok (.goto 8, 3) := by decide +kernel
theorem dX6_request_17 : decode cX6_request 17 = .ok (.aload_n 0, 1) := by decide +kernel
theorem dX6_request_18 : decode cX6_request 18 = .ok (.iload_n 1, 1) := by decide +kernel
theorem dX6_request_19 : decode cX6_request 19 = .ok (.invokevirtual 85, 3) := by decide +kernel
theorem dX6_request_22 : decode cX6_request 22 = .ok (.ireturn, 1) := by decide +kernel
theorem dX6_stop_0 : decode cX6_stop 0 = .ok (.aload_n 0, 1) := by decide +kernel
theorem dX6_stop_1 : decode cX6_stop 1 = .ok (.iconst 1, 1) := by decide +kernel
theorem dX6_stop_2 : decode cX6_stop 2 = .ok (.iload_n 1, 1) := by decide +kernel
theorem dX6_stop_3 : decode cX6_stop 3 = .ok (.bipush (-4), 2) := by decide +kernel
theorem dX6_stop_5 : decode cX6_stop 5 = .ok (.invokevirtual 81, 3) := by decide +kernel
theorem dX6_stop_8 : decode cX6_stop 8 = .ok (.ireturn, 1) := by decide +kernel
theorem dX6_losePhases_0 : decode cX6_losePhases 0 = .ok (.aload_n 0, 1) := by decide +kernel
theorem dX6_losePhases_1 : decode cX6_losePhases 1 = .ok (.iconst 2, 1) := by decide +kernel
theorem dX6_losePhases_2 : decode cX6_losePhases 2 = .ok (.iload_n 1, 1) := by decide +kernel
theorem dX6_losePhases_3 : decode cX6_losePhases 3 = .ok (.iload_n 2, 1) := by decide +kernel
theorem dX6_losePhases_4 : decode cX6_losePhases 4 = .ok (.invokevirtual 81, 3) := by decide +kernel
theorem dX6_losePhases_7 : decode cX6_losePhases 7 = .ok (.ireturn, 1) := by decide +kernel
theorem dX6_reset_0 : decode cX6_reset 0 = .ok (.aload_n 0, 1) := by decide +kernel
theorem dX6_reset_1 : decode cX6_reset 1 = .ok (.iconst 3, 1) := by decide +kernel
theorem dX6_reset_2 : decode cX6_reset 2 = .ok (.iload_n 1, 1) := by decide +kernel
theorem dX6_reset_3 : decode cX6_reset 3 = .ok (.bipush (-4), 2) := by decide +kernel
theorem dX6_reset_5 : decode cX6_reset 5 = .ok (.invokevirtual 81, 3) := by decide +kernel
theorem dX6_reset_8 : decode cX6_reset 8 = .ok (.ireturn, 1) := by decide +kernel
theorem dX6_pass_0 : decode cX6_pass 0 = .ok (.iload_n 1, 1) := by decide +kernel
theorem dX6_pass_1 : decode cX6_pass 1 = .ok (.iconst 1, 1) := by decide +kernel
theorem dX6_pass_2 : decode cX6_pass 2 = .ok (.bipush 60, 2) := by decide +kernel
theorem dX6_pass_4 : decode cX6_pass 4 = .ok (.invokestatic 44, 3) := by decide +kernel
theorem dX6_pass_7 : decode cX6_pass 7 = .ok (.ifCond .eq 6, 3) := by decide +kernel
theorem dX6_pass_10 : decode cX6_pass 10 = .ok (.bipush (-2), 2) := by decide +kernel
theorem dX6_pass_12 : decode cX6_pass 12 = .ok (.ireturn, 1) := by decide +kernel
theorem dX6_pass_13 : decode cX6_pass 13 = .ok (.aload_n 0, 1) := by decide +kernel
theorem dX6_pass_14 : decode cX6_pass 14 = .ok (.getfield 19, 3) := by decide +kernel
theorem dX6_pass_17 : decode cX6_pass 17 = .ok (.aload_n 0, 1) := by decide +kernel
theorem dX6_pass_18 : decode cX6_pass 18 = .ok (.getfield 10, 3) := by decide +kernel
theorem dX6_pass_21 : decode cX6_pass 21 = .ok (.invokevirtual 57, 3) := by decide +kernel
theorem dX6_pass_24 : decode cX6_pass 24 = .ok (.iconst 0, 1) := by decide +kernel
theorem dX6_pass_25 : decode cX6_pass 25 = .ok (.istore_n 2, 1) := by decide +kernel
theorem dX6_pass_26 : decode cX6_pass 26 = .ok (.iconst 0, 1) := by decide +kernel
theorem dX6_pass_27 : decode cX6_pass 27 = .ok (.istore_n 3, 1) := by decide +kernel
theorem dX6_pass_28 : decode cX6_pass 28 = .ok (.iload_n 3, 1) := by decide +kernel
theorem dX6_pass_29 : decode cX6_pass 29 = .ok (.iload_n 1, 1) := by decide +kernel
theorem dX6_pass_30 : decode cX6_pass 30 = .ok (.if_icmp .ge 40, 3) := by decide +kernel
theorem dX6_pass_33 : decode cX6_pass 33 = .ok (.aload_n 0, 1) := by decide +kernel
theorem dX6_pass_34 : decode cX6_pass 34 = .ok (.invokevirtual 88, 3) := by decide +kernel
theorem dX6_pass_37 : decode cX6_pass 37 = .ok (.aload_n 0, 1) := by decide +kernel
theorem dX6_pass_38 : decode cX6_pass 38 = .ok (.invokevirtual 91, 3) := by decide +kernel
theorem dX6_pass_41 : decode cX6_pass 41 = .ok (.ifCond .eq 6, 3) := by decide +kernel
theorem dX6_pass_44 : decode cX6_pass 44 = .ok (.iinc 2 1, 3) := by decide +kernel
theorem dX6_pass_47 : decode cX6_pass 47 = .ok (.aload_n 0, 1) := by decide +kernel
theorem dX6_pass_48 : decode cX6_pass 48 = .ok (.invokevirtual 95, 3) := by decide +kernel
theorem dX6_pass_51 : decode cX6_pass 51 = .ok (.aload_n 0, 1) := by decide +kernel
theorem dX6_pass_52 : decode cX6_pass 52 = .ok (.getfield 10, 3) := by decide +kernel
theorem dX6_pass_55 : decode cX6_pass 55 = .ok (.dup, 1) := by decide +kernel
theorem dX6_pass_56 : decode cX6_pass 56 = .ok (.getfield 98, 3) := by decide +kernel
theorem dX6_pass_59 : decode cX6_pass 59 = .ok (.iconst 1, 1) := by decide +kernel
theorem dX6_pass_60 : decode cX6_pass 60 = .ok (.iadd, 1) := by decide +kernel
theorem dX6_pass_61 : decode cX6_pass 61 = .ok (.putfield 98, 3) := by decide +kernel
theorem dX6_pass_64 : decode cX6_pass 64 = .ok (.iinc 3 1, 3) := by decide +kernel
theorem dX6_pass_67 : decode cX6_pass 67 = .ok (.goto (-39), 3) := by decide +kernel
theorem dX6_pass_70 : decode cX6_pass 70 = .ok (.iload_n 2, 1) := by decide +kernel
theorem dX6_pass_71 : decode cX6_pass 71 = .ok (.ireturn, 1) := by decide +kernel
theorem dX6_readTimetable_0 : decode cX6_readTimetable 0 = .ok (.aload_n 0, 1) := by decide +kernel
theorem dX6_readTimetable_1 : decode cX6_readTimetable 1 = .ok (.getfield 29, 3) := by decide +kernel
theorem dX6_readTimetable_4 : decode cX6_readTimetable 4 = .ok (.aload_n 0, 1) := by decide +kernel
theorem dX6_readTimetable_5 : decode cX6_readTimetable 5 = .ok (.getfield 36, 3) := by decide +kernel
theorem dX6_readTimetable_8 : decode cX6_readTimetable 8 = .ok (.aload_n 0, 1) := by decide +kernel
theorem dX6_readTimetable_9 : decode cX6_readTimetable 9 = .ok (.getfield 10, 3) := by decide +kernel
theorem dX6_readTimetable_12 : decode cX6_readTimetable 12 = .ok (.getfield 98, 3) := by decide +kernel
theorem dX6_readTimetable_15 : decode cX6_readTimetable 15 = .ok (.invokevirtual 108, 3) := by decide +kernel
theorem dX6_readTimetable_18 : decode cX6_readTimetable 18 = .ok (.ifCond .ne 14, 3) := by decide +kernel
theorem dX6_readTimetable_21 : decode cX6_readTimetable 21 = .ok (.bipush (-100), 2) := by decide +kernel
theorem dX6_readTimetable_23 : decode cX6_readTimetable 23 = .ok (.aload_n 0, 1) := by decide +kernel
theorem dX6_readTimetable_24 : decode cX6_readTimetable 24 = .ok (.getfield 29, 3) := by decide +kernel
theorem dX6_readTimetable_27 : decode cX6_readTimetable 27 = .ok (.getfield 112, 3) := by decide +kernel
theorem dX6_readTimetable_30 : decode cX6_readTimetable 30 = .ok (.isub, 1) := by decide +kernel
theorem dX6_readTimetable_31 : decode cX6_readTimetable 31 = .ok (.ireturn, 1) := by decide +kernel
theorem dX6_readTimetable_32 : decode cX6_readTimetable 32 = .ok (.aload_n 0, 1) := by decide +kernel
theorem dX6_readTimetable_33 : decode cX6_readTimetable 33 = .ok (.getfield 19, 3) := by decide +kernel
theorem dX6_readTimetable_36 : decode cX6_readTimetable 36 = .ok (.aload_n 0, 1) := by decide +kernel
theorem dX6_readTimetable_37 : decode cX6_readTimetable 37 = .ok (.getfield 10, 3) := by decide +kernel
theorem dX6_readTimetable_40 : decode cX6_readTimetable 40 = .ok (.invokevirtual 57, 3) := by decide +kernel
theorem dX6_readTimetable_43 : decode cX6_readTimetable 43 = .ok (.aload_n 0, 1) := by decide +kernel
theorem dX6_readTimetable_44 : decode cX6_readTimetable 44 = .ok (.getfield 10, 3) := by decide +kernel
theorem dX6_readTimetable_47 : decode cX6_readTimetable 47 = .ok (.getfield 115, 3) := by decide +kernel
theorem dX6_readTimetable_50 : decode cX6_readTimetable 50 = .ok (.aload_n 0, 1) := by decide +kernel
theorem dX6_readTimetable_51 : decode cX6_readTimetable 51 = .ok (.getfield 36, 3) := by decide +kernel
theorem dX6_readTimetable_54 : decode cX6_readTimetable 54 = .ok (.invokevirtual 118, 3) := by decide +kernel
theorem dX6_readTimetable_57 : decode cX6_readTimetable 57 = .ok (.aload_n 0, 1) := by decide +kernel
theorem dX6_readTimetable_58 : decode cX6_readTimetable 58 = .ok (.getfield 36, 3) := by decide +kernel
theorem dX6_readTimetable_61 : decode cX6_readTimetable 61 = .ok (.invokevirtual 122, 3) := by decide +kernel
theorem dX6_readTimetable_64 : decode cX6_readTimetable 64 = .ok (.ireturn, 1) := by decide +kernel
theorem dX6_undo_0 : decode cX6_undo 0 = .ok (.aload_n 0, 1) := by decide +kernel
theorem dX6_undo_1 : decode cX6_undo 1 = .ok (.getfield 19, 3) := by decide +kernel
theorem dX6_undo_4 : decode cX6_undo 4 = .ok (.aload_n 0, 1) := by decide +kernel
theorem dX6_undo_5 : decode cX6_undo 5 = .ok (.getfield 10, 3) := by decide +kernel
theorem dX6_undo_8 : decode cX6_undo 8 = .ok (.invokevirtual 126, 3) := by decide +kernel
theorem dX6_undo_11 : decode cX6_undo 11 = .ok (.ifCond .eq 13, 3) := by decide +kernel
theorem dX6_undo_14 : decode cX6_undo 14 = .ok (.aload_n 0, 1) := by decide +kernel
theorem dX6_undo_15 : decode cX6_undo 15 = .ok (.getfield 19, 3) := by decide +kernel
theorem dX6_undo_18 : decode cX6_undo 18 = .ok (.getfield 130, 3) := by decide +kernel
theorem dX6_undo_21 : decode cX6_undo 21 = .ok (.goto 5, 3) := by decide +kernel
theorem dX6_undo_24 : decode cX6_undo 24 = .ok (.bipush (-4), 2) := by decide +kernel
theorem dX6_undo_26 : decode cX6_undo 26 = .ok (.ireturn, 1) := by decide +kernel
theorem dX6_keep_0 : decode cX6_keep 0 = .ok (.aload_n 0, 1) := by decide +kernel
theorem dX6_keep_1 : decode cX6_keep 1 = .ok (.getfield 23, 3) := by decide +kernel
theorem dX6_keep_4 : decode cX6_keep 4 = .ok (.aload_n 0, 1) := by decide +kernel
theorem dX6_keep_5 : decode cX6_keep 5 = .ok (.getfield 10, 3) := by decide +kernel
theorem dX6_keep_8 : decode cX6_keep 8 = .ok (.invokevirtual 133, 3) := by decide +kernel
theorem dX6_keep_11 : decode cX6_keep 11 = .ok (.aload_n 0, 1) := by decide +kernel
theorem dX6_keep_12 : decode cX6_keep 12 = .ok (.iconst 1, 1) := by decide +kernel
theorem dX6_keep_13 : decode cX6_keep 13 = .ok (.putfield 135, 3) := by decide +kernel
theorem dX6_keep_16 : decode cX6_keep 16 = .ok (.aload_n 0, 1) := by decide +kernel
theorem dX6_keep_17 : decode cX6_keep 17 = .ok (.getfield 10, 3) := by decide +kernel
theorem dX6_keep_20 : decode cX6_keep 20 = .ok (.getfield 98, 3) := by decide +kernel
theorem dX6_keep_23 : decode cX6_keep 23 = .ok (.ireturn, 1) := by decide +kernel
theorem dX6_restore_0 : decode cX6_restore 0 = .ok (.aload_n 0, 1) := by decide +kernel
theorem dX6_restore_1 : decode cX6_restore 1 = .ok (.getfield 135, 3) := by decide +kernel
theorem dX6_restore_4 : decode cX6_restore 4 = .ok (.ifCond .ne 6, 3) := by decide +kernel
theorem dX6_restore_7 : decode cX6_restore 7 = .ok (.bipush (-4), 2) := by decide +kernel
theorem dX6_restore_9 : decode cX6_restore 9 = .ok (.ireturn, 1) := by decide +kernel
theorem dX6_restore_10 : decode cX6_restore 10 = .ok (.aload_n 0, 1) := by decide +kernel
theorem dX6_restore_11 : decode cX6_restore 11 = .ok (.getfield 19, 3) := by decide +kernel
theorem dX6_restore_14 : decode cX6_restore 14 = .ok (.aload_n 0, 1) := by decide +kernel
theorem dX6_restore_15 : decode cX6_restore 15 = .ok (.getfield 10, 3) := by decide +kernel
theorem dX6_restore_18 : decode cX6_restore 18 = .ok (.invokevirtual 57, 3) := by decide +kernel
theorem dX6_restore_21 : decode cX6_restore 21 = .ok (.aload_n 0, 1) := by decide +kernel
theorem dX6_restore_22 : decode cX6_restore 22 = .ok (.getfield 10, 3) := by decide +kernel
theorem dX6_restore_25 : decode cX6_restore 25 = .ok (.aload_n 0, 1) := by decide +kernel
theorem dX6_restore_26 : decode cX6_restore 26 = .ok (.getfield 23, 3) := by decide +kernel
theorem dX6_restore_29 : decode cX6_restore 29 = .ok (.invokevirtual 133, 3) := by decide +kernel
theorem dX6_restore_32 : decode cX6_restore 32 = .ok (.aload_n 0, 1) := by decide +kernel
theorem dX6_restore_33 : decode cX6_restore 33 = .ok (.getfield 10, 3) := by decide +kernel
theorem dX6_restore_36 : decode cX6_restore 36 = .ok (.getfield 98, 3) := by decide +kernel
theorem dX6_restore_39 : decode cX6_restore 39 = .ok (.ireturn, 1) := by decide +kernel
theorem dX6_motor_0 : decode cX6_motor 0 = .ok (.aload_n 0, 1) := by decide +kernel
theorem dX6_motor_1 : decode cX6_motor 1 = .ok (.getfield 10, 3) := by decide +kernel
theorem dX6_motor_4 : decode cX6_motor 4 = .ok (.iload_n 1, 1) := by decide +kernel
theorem dX6_motor_5 : decode cX6_motor 5 = .ok (.invokevirtual 71, 3) := by decide +kernel
theorem dX6_motor_8 : decode cX6_motor 8 = .ok (.astore_n 3, 1) := by decide +kernel
theorem dX6_motor_9 : decode cX6_motor 9 = .ok (.aload_n 3, 1) := by decide +kernel
theorem dX6_motor_10 : decode cX6_motor 10 = .ok (.ifnonnull 5, 3) := by decide +kernel
theorem dX6_motor_13 : decode cX6_motor 13 = .ok (.iconst (-1), 1) := by decide +kernel
theorem dX6_motor_14 : decode cX6_motor 14 = .ok (.ireturn, 1) := by decide +kernel
theorem dX6_motor_15 : decode cX6_motor 15 = .ok (.iload_n 2, 1) := by decide +kernel
theorem dX6_motor_16 : decode cX6_motor 16 = .ok (.tableswitch 184 0 12 #[68, 73, 78, 83, 88, 93, 98, 103, 108, 126, 152, 157, 175], 68) := by decide +kernel
theorem dX6_motor_84 : decode cX6_motor 84 = .ok (.aload_n 3, 1) := by decide +kernel
theorem dX6_motor_85 : decode cX6_motor 85 = .ok (.getfield 139, 3) := by decide +kernel
theorem dX6_motor_88 : decode cX6_motor 88 = .ok (.ireturn, 1) := by decide +kernel
theorem dX6_motor_89 : decode cX6_motor 89 = .ok (.aload_n 3, 1) := by decide +kernel
theorem dX6_motor_90 : decode cX6_motor 90 = .ok (.getfield 142, 3) := by decide +kernel
theorem dX6_motor_93 : decode cX6_motor 93 = .ok (.ireturn, 1) := by decide +kernel
theorem dX6_motor_94 : decode cX6_motor 94 = .ok (.aload_n 3, 1) := by decide +kernel
theorem dX6_motor_95 : decode cX6_motor 95 = .ok (.getfield 145, 3) := by decide +kernel
theorem dX6_motor_98 : decode cX6_motor 98 = .ok (.ireturn, 1) := by decide +kernel
theorem dX6_motor_99 : decode cX6_motor 99 = .ok (.aload_n 3, 1) := by decide +kernel
theorem dX6_motor_100 : decode cX6_motor 100 = .ok (.getfield 148, 3) := by decide +kernel
theorem dX6_motor_103 : decode cX6_motor 103 = .ok (.ireturn, 1) := by decide +kernel
theorem dX6_motor_104 : decode cX6_motor 104 = .ok (.aload_n 3, 1) := by decide +kernel
theorem dX6_motor_105 : decode cX6_motor 105 = .ok (.getfield 75, 3) := by decide +kernel
theorem dX6_motor_108 : decode cX6_motor 108 = .ok (.ireturn, 1) := by decide +kernel
theorem dX6_motor_109 : decode cX6_motor 109 = .ok (.aload_n 3, 1) := by decide +kernel
theorem dX6_motor_110 : decode cX6_motor 110 = .ok (.getfield 149, 3) := by decide +kernel
theorem dX6_motor_113 : decode cX6_motor 113 = .ok (.ireturn, 1) := by decide +kernel
theorem dX6_motor_114 : decode cX6_motor 114 = .ok (.aload_n 3, 1) := by decide +kernel
theorem dX6_motor_115 : decode cX6_motor 115 = .ok (.getfield 152, 3) := by decide +kernel
theorem dX6_motor_118 : decode cX6_motor 118 = .ok (.ireturn, 1) := by decide +kernel
theorem dX6_motor_119 : decode cX6_motor 119 = .ok (.aload_n 3, 1) := by decide +kernel
theorem dX6_motor_120 : decode cX6_motor 120 = .ok (.getfield 155, 3) := by decide +kernel
theorem dX6_motor_123 : decode cX6_motor 123 = .ok (.ireturn, 1) := by decide +kernel
theorem dX6_motor_124 : decode cX6_motor 124 = .ok (.aload_n 3, 1) := by decide +kernel
theorem dX6_motor_125 : decode cX6_motor 125 = .ok (.getfield 149, 3) := by decide +kernel
theorem dX6_motor_128 : decode cX6_motor 128 = .ok (.iconst 2, 1) := by decide +kernel
theorem dX6_motor_129 : decode cX6_motor 129 = .ok (.if_icmp .ne 10, 3) := by decide +kernel
theorem dX6_motor_132 : decode cX6_motor 132 = .ok (.aload_n 3, 1) := by decide +kernel
theorem dX6_motor_133 : decode cX6_motor 133 = .ok (.getfield 158, 3) := by decide +kernel
theorem dX6_motor_136 : decode cX6_motor 136 = .ok (.goto 5, 3) := by decide +kernel
theorem dX6_motor_139 : decode cX6_motor 139 = .ok (.bipush (-4), 2) := by decide +kernel
theorem dX6_motor_141 : decode cX6_motor 141 = .ok (.ireturn, 1) := by decide +kernel
theorem dX6_motor_142 : decode cX6_motor 142 = .ok (.aload_n 3, 1) := by decide +kernel
theorem dX6_motor_143 : decode cX6_motor 143 = .ok (.getfield 149, 3) := by decide +kernel
theorem dX6_motor_146 : decode cX6_motor 146 = .ok (.iconst 1, 1) := by decide +kernel
theorem dX6_motor_147 : decode cX6_motor 147 = .ok (.if_icmp .ne 18, 3) := by decide +kernel
theorem dX6_motor_150 : decode cX6_motor 150 = .ok (.aload_n 0, 1) := by decide +kernel
theorem dX6_motor_151 : decode cX6_motor 151 = .ok (.getfield 10, 3) := by decide +kernel
theorem dX6_motor_154 : decode cX6_motor 154 = .ok (.getfield 98, 3) := by decide +kernel
theorem dX6_motor_157 : decode cX6_motor 157 = .ok (.aload_n 3, 1) := by decide +kernel
theorem dX6_motor_158 : decode cX6_motor 158 = .ok (.getfield 161, 3) := by decide +kernel
theorem dX6_motor_161 : decode cX6_motor 161 = .ok (.isub, 1) := by decide +kernel
theorem dX6_motor_162 : decode cX6_motor 162 = .ok (.goto 5, 3) := by decide +kernel
theorem dX6_motor_165 : decode cX6_motor 165 = .ok (.bipush (-4), 2) := by decide +kernel
theorem dX6_motor_167 : decode cX6_motor 167 = .ok (.ireturn, 1) := by decide +kernel
theorem dX6_motor_168 : decode cX6_motor 168 = .ok (.aload_n 3, 1) := by decide +kernel
theorem dX6_motor_169 : decode cX6_motor 169 = .ok (.invokevirtual 164, 3) := by decide +kernel
theorem dX6_motor_172 : decode cX6_motor 172 = .ok (.ireturn, 1) := by decide +kernel
theorem dX6_motor_173 : decode cX6_motor 173 = .ok (.aload_n 3, 1) := by decide +kernel
theorem dX6_motor_174 : decode cX6_motor 174 = .ok (.getfield 149, 3) := by decide +kernel
theorem dX6_motor_177 : decode cX6_motor 177 = .ok (.iconst 4, 1) := by decide +kernel
theorem dX6_motor_178 : decode cX6_motor 178 = .ok (.if_icmp .ne 10, 3) := by decide +kernel
theorem dX6_motor_181 : decode cX6_motor 181 = .ok (.aload_n 3, 1) := by decide +kernel
theorem dX6_motor_182 : decode cX6_motor 182 = .ok (.getfield 167, 3) := by decide +kernel
theorem dX6_motor_185 : decode cX6_motor 185 = .ok (.goto 5, 3) := by decide +kernel
theorem dX6_motor_188 : decode cX6_motor 188 = .ok (.bipush (-4), 2) := by decide +kernel
theorem dX6_motor_190 : decode cX6_motor 190 = .ok (.ireturn, 1) := by decide +kernel
theorem dX6_motor_191 : decode cX6_motor 191 = .ok (.iconst 0, 1) := by decide +kernel
theorem dX6_motor_192 : decode cX6_motor 192 = .ok (.aload_n 3, 1) := by decide +kernel
theorem dX6_motor_193 : decode cX6_motor 193 = .ok (.invokevirtual 170, 3) := by decide +kernel
theorem dX6_motor_196 : decode cX6_motor 196 = .ok (.invokestatic 173, 3) := by decide +kernel
theorem dX6_motor_199 : decode cX6_motor 199 = .ok (.ireturn, 1) := by decide +kernel
theorem dX6_motor_200 : decode cX6_motor 200 = .ok (.bipush (-2), 2) := by decide +kernel
theorem dX6_motor_202 : decode cX6_motor 202 = .ok (.ireturn, 1) := by decide +kernel
theorem dX6_account_0 : decode cX6_account 0 = .ok (.aload_n 0, 1) := by decide +kernel
theorem dX6_account_1 : decode cX6_account 1 = .ok (.getfield 10, 3) := by decide +kernel
theorem dX6_account_4 : decode cX6_account 4 = .ok (.iload_n 1, 1) := by decide +kernel
theorem dX6_account_5 : decode cX6_account 5 = .ok (.invokevirtual 71, 3) := by decide +kernel
theorem dX6_account_8 : decode cX6_account 8 = .ok (.astore_n 3, 1) := by decide +kernel
theorem dX6_account_9 : decode cX6_account 9 = .ok (.aload_n 3, 1) := by decide +kernel
theorem dX6_account_10 : decode cX6_account 10 = .ok (.ifnonnull 5, 3) := by decide +kernel
theorem dX6_account_13 : decode cX6_account 13 = .ok (.iconst (-1), 1) := by decide +kernel
theorem dX6_account_14 : decode cX6_account 14 = .ok (.ireturn, 1) := by decide +kernel
theorem dX6_account_15 : decode cX6_account 15 = .ok (.iload_n 2, 1) := by decide +kernel
theorem dX6_account_16 : decode cX6_account 16 = .ok (.iconst 0, 1) := by decide +kernel
theorem dX6_account_17 : decode cX6_account 17 = .ok (.bipush 6, 2) := by decide +kernel
theorem dX6_account_19 : decode cX6_account 19 = .ok (.invokestatic 44, 3) := by decide +kernel
theorem dX6_account_22 : decode cX6_account 22 = .ok (.ifCond .eq 8, 3) := by decide +kernel
theorem dX6_account_25 : decode cX6_account 25 = .ok (.bipush (-2), 2) := by decide +kernel
theorem dX6_account_27 : decode cX6_account 27 = .ok (.goto 9, 3) := by decide +kernel
theorem dX6_account_30 : decode cX6_account 30 = .ok (.aload_n 3, 1) := by decide +kernel
theorem dX6_account_31 : decode cX6_account 31 = .ok (.getfield 179, 3) := by decide +kernel
theorem dX6_account_34 : decode cX6_account 34 = .ok (.iload_n 2, 1) := by decide +kernel
theorem dX6_account_35 : decode cX6_account 35 = .ok (.iaload, 1) := by decide +kernel
theorem dX6_account_36 : decode cX6_account 36 = .ok (.ireturn, 1) := by decide +kernel
theorem dX6_queue_0 : decode cX6_queue 0 = .ok (.iload_n 1, 1) := by decide +kernel
theorem dX6_queue_1 : decode cX6_queue 1 = .ok (.ifCond .ge 6, 3) := by decide +kernel
theorem dX6_queue_4 : decode cX6_queue 4 = .ok (.bipush (-2), 2) := by decide +kernel
theorem dX6_queue_6 : decode cX6_queue 6 = .ok (.ireturn, 1) := by decide +kernel
theorem dX6_queue_7 : decode cX6_queue 7 = .ok (.aload_n 0, 1) := by decide +kernel
theorem dX6_queue_8 : decode cX6_queue 8 = .ok (.invokevirtual 182, 3) := by decide +kernel
theorem dX6_queue_11 : decode cX6_queue 11 = .ok (.istore_n 2, 1) := by decide +kernel
theorem dX6_queue_12 : decode cX6_queue 12 = .ok (.iload_n 1, 1) := by decide +kernel
theorem dX6_queue_13 : decode cX6_queue 13 = .ok (.iload_n 2, 1) := by decide +kernel
theorem dX6_queue_14 : decode cX6_queue 14 = .ok (.if_icmp .ge 12, 3) := by decide +kernel
theorem dX6_queue_17 : decode cX6_queue 17 = .ok (.aload_n 0, 1) := by decide +kernel
theorem dX6_queue_18 : decode cX6_queue 18 = .ok (.getfield 40, 3) := by decide +kernel
theorem dX6_queue_21 : decode cX6_queue 21 = .ok (.iload_n 1, 1) := by decide +kernel
theorem dX6_queue_22 : decode cX6_queue 22 = .ok (.iaload, 1) := by decide +kernel
theorem dX6_queue_23 : decode cX6_queue 23 = .ok (.goto 5, 3) := by decide +kernel
theorem dX6_queue_26 : decode cX6_queue 26 = .ok (.bipush (-4), 2) := by decide +kernel
theorem dX6_queue_28 : decode cX6_queue 28 = .ok (.ireturn, 1) := by decide +kernel
theorem dX6_whyNot_0 : decode cX6_whyNot 0 = .ok (.aload_n 0, 1) := by decide +kernel
theorem dX6_whyNot_1 : decode cX6_whyNot 1 = .ok (.getfield 10, 3) := by decide +kernel
theorem dX6_whyNot_4 : decode cX6_whyNot 4 = .ok (.iload_n 1, 1) := by decide +kernel
theorem dX6_whyNot_5 : decode cX6_whyNot 5 = .ok (.invokevirtual 71, 3) := by decide +kernel
theorem dX6_whyNot_8 : decode cX6_whyNot 8 = .ok (.astore_n 2, 1) := by decide +kernel
theorem dX6_whyNot_9 : decode cX6_whyNot 9 = .ok (.aload_n 2, 1) := by decide +kernel
theorem dX6_whyNot_10 : decode cX6_whyNot 10 = .ok (.ifnonnull 5, 3) := by decide +kernel
theorem dX6_whyNot_13 : decode cX6_whyNot 13 = .ok (.iconst (-1), 1) := by decide +kernel
theorem dX6_whyNot_14 : decode cX6_whyNot 14 = .ok (.ireturn, 1) := by decide +kernel
theorem dX6_whyNot_15 : decode cX6_whyNot 15 = .ok (.aload_n 2, 1) := by decide +kernel
theorem dX6_whyNot_16 : decode cX6_whyNot 16 = .ok (.getfield 149, 3) := by decide +kernel
theorem dX6_whyNot_19 : decode cX6_whyNot 19 = .ok (.iconst 1, 1) := by decide +kernel
theorem dX6_whyNot_20 : decode cX6_whyNot 20 = .ok (.if_icmp .ne 14, 3) := by decide +kernel
theorem dX6_whyNot_23 : decode cX6_whyNot 23 = .ok (.aload_n 0, 1) := by decide +kernel
theorem dX6_whyNot_24 : decode cX6_whyNot 24 = .ok (.getfield 10, 3) := by decide +kernel
theorem dX6_whyNot_27 : decode cX6_whyNot 27 = .ok (.aload_n 2, 1) := by decide +kernel
theorem dX6_whyNot_28 : decode cX6_whyNot 28 = .ok (.invokevirtual 185, 3) := by decide +kernel
theorem dX6_whyNot_31 : decode cX6_whyNot 31 = .ok (.goto 5, 3) := by decide +kernel
theorem dX6_whyNot_34 : decode cX6_whyNot 34 = .ok (.bipush (-4), 2) := by decide +kernel
theorem dX6_whyNot_36 : decode cX6_whyNot 36 = .ok (.ireturn, 1) := by decide +kernel
theorem dX6_event_0 : decode cX6_event 0 = .ok (.iload_n 1, 1) := by decide +kernel
theorem dX6_event_1 : decode cX6_event 1 = .ok (.ifCond .lt 12, 3) := by decide +kernel
theorem dX6_event_4 : decode cX6_event 4 = .ok (.iload_n 2, 1) := by decide +kernel
theorem dX6_event_5 : decode cX6_event 5 = .ok (.iconst 0, 1) := by decide +kernel
theorem dX6_event_6 : decode cX6_event 6 = .ok (.iconst 2, 1) := by decide +kernel
theorem dX6_event_7 : decode cX6_event 7 = .ok (.invokestatic 44, 3) := by decide +kernel
theorem dX6_event_10 : decode cX6_event 10 = .ok (.ifCond .eq 6, 3) := by decide +kernel
theorem dX6_event_13 : decode cX6_event 13 = .ok (.bipush (-2), 2) := by decide +kernel
theorem dX6_event_15 : decode cX6_event 15 = .ok (.ireturn, 1) := by decide +kernel
theorem dX6_event_16 : decode cX6_event 16 = .ok (.aload_n 0, 1) := by decide +kernel
theorem dX6_event_17 : decode cX6_event 17 = .ok (.getfield 10, 3) := by decide +kernel
theorem dX6_event_20 : decode cX6_event 20 = .ok (.getfield 189, 3) := by decide +kernel
theorem dX6_event_23 : decode cX6_event 23 = .ok (.iload_n 1, 1) := by decide +kernel
theorem dX6_event_24 : decode cX6_event 24 = .ok (.iload_n 2, 1) := by decide +kernel
theorem dX6_event_25 : decode cX6_event 25 = .ok (.invokevirtual 193, 3) := by decide +kernel
theorem dX6_event_28 : decode cX6_event 28 = .ok (.ireturn, 1) := by decide +kernel
theorem dX6_startHeat_0 : decode cX6_startHeat 0 = .ok (.aload_n 0, 1) := by decide +kernel
theorem dX6_startHeat_1 : decode cX6_startHeat 1 = .ok (.getfield 10, 3) := by decide +kernel
theorem dX6_startHeat_4 : decode cX6_startHeat 4 = .ok (.iload_n 1, 1) := by decide +kernel
theorem dX6_startHeat_5 : decode cX6_startHeat 5 = .ok (.invokevirtual 71, 3) := by decide +kernel
theorem dX6_startHeat_8 : decode cX6_startHeat 8 = .ok (.astore_n 2, 1) := by decide +kernel
theorem dX6_startHeat_9 : decode cX6_startHeat 9 = .ok (.aload_n 2, 1) := by decide +kernel
theorem dX6_startHeat_10 : decode cX6_startHeat 10 = .ok (.ifnonnull 7, 3) := by decide +kernel
theorem dX6_startHeat_13 : decode cX6_startHeat 13 = .ok (.iconst (-1), 1) := by decide +kernel
theorem dX6_startHeat_14 : decode cX6_startHeat 14 = .ok (.goto 7, 3) := by decide +kernel
theorem dX6_startHeat_17 : decode cX6_startHeat 17 = .ok (.aload_n 2, 1) := by decide +kernel
theorem dX6_startHeat_18 : decode cX6_startHeat 18 = .ok (.getfield 200, 3) := by decide +kernel
theorem dX6_startHeat_21 : decode cX6_startHeat 21 = .ok (.ireturn, 1) := by decide +kernel
theorem dX6_count_0 : decode cX6_count 0 = .ok (.iload_n 1, 1) := by decide +kernel
theorem dX6_count_1 : decode cX6_count 1 = .ok (.tableswitch 221 0 17 #[87, 95, 95, 95, 95, 104, 112, 120, 136, 141, 152, 160, 169, 178, 186, 194, 205, 213], 87) := by decide +kernel
theorem dX6_count_88 : decode cX6_count 88 = .ok (.aload_n 0, 1) := by decide +kernel
theorem dX6_count_89 : decode cX6_count 89 = .ok (.getfield 10, 3) := by decide +kernel
theorem dX6_count_92 : decode cX6_count 92 = .ok (.getfield 49, 3) := by decide +kernel
theorem dX6_count_95 : decode cX6_count 95 = .ok (.ireturn, 1) := by decide +kernel
theorem dX6_count_96 : decode cX6_count 96 = .ok (.aload_n 0, 1) := by decide +kernel
theorem dX6_count_97 : decode cX6_count 97 = .ok (.getfield 10, 3) := by decide +kernel
theorem dX6_count_100 : decode cX6_count 100 = .ok (.iload_n 1, 1) := by decide +kernel
theorem dX6_count_101 : decode cX6_count 101 = .ok (.invokevirtual 219, 3) := by decide +kernel
theorem dX6_count_104 : decode cX6_count 104 = .ok (.ireturn, 1) := by decide +kernel
theorem dX6_count_105 : decode cX6_count 105 = .ok (.aload_n 0, 1) := by decide +kernel
theorem dX6_count_106 : decode cX6_count 106 = .ok (.getfield 10, 3) := by decide +kernel
theorem dX6_count_109 : decode cX6_count 109 = .ok (.getfield 98, 3) := by decide +kernel
theorem dX6_count_112 : decode cX6_count 112 = .ok (.ireturn, 1) := by decide +kernel
theorem dX6_count_113 : decode cX6_count 113 = .ok (.aload_n 0, 1) := by decide +kernel
theorem dX6_count_114 : decode cX6_count 114 = .ok (.getfield 10, 3) := by decide +kernel
theorem dX6_count_117 : decode cX6_count 117 = .ok (.getfield 78, 3) := by decide +kernel
theorem dX6_count_120 : decode cX6_count 120 = .ok (.ireturn, 1) := by decide +kernel
theorem dX6_count_121 : decode cX6_count 121 = .ok (.aload_n 0, 1) := by decide +kernel
theorem dX6_count_122 : decode cX6_count 122 = .ok (.getfield 10, 3) := by decide +kernel
theorem dX6_count_125 : decode cX6_count 125 = .ok (.getfield 203, 3) := by decide +kernel
theorem dX6_count_128 : decode cX6_count 128 = .ok (.ifCond .eq 7, 3) := by decide +kernel
theorem dX6_count_131 : decode cX6_count 131 = .ok (.iconst 1, 1) := by decide +kernel
theorem dX6_count_132 : decode cX6_count 132 = .ok (.goto 4, 3) := by decide +kernel
theorem dX6_count_135 : decode cX6_count 135 = .ok (.iconst 0, 1) := by decide +kernel
theorem dX6_count_136 : decode cX6_count 136 = .ok (.ireturn, 1) := by decide +kernel
theorem dX6_count_137 : decode cX6_count 137 = .ok (.aload_n 0, 1) := by decide +kernel
theorem dX6_count_138 : decode cX6_count 138 = .ok (.getfield 222, 3) := by decide +kernel
theorem dX6_count_141 : decode cX6_count 141 = .ok (.ireturn, 1) := by decide +kernel
theorem dX6_count_142 : decode cX6_count 142 = .ok (.aload_n 0, 1) := by decide +kernel
theorem dX6_count_143 : decode cX6_count 143 = .ok (.getfield 10, 3) := by decide +kernel
theorem dX6_count_146 : decode cX6_count 146 = .ok (.getfield 115, 3) := by decide +kernel
theorem dX6_count_149 : decode cX6_count 149 = .ok (.invokevirtual 122, 3) := by decide +kernel
theorem dX6_count_152 : decode cX6_count 152 = .ok (.ireturn, 1) := by decide +kernel
theorem dX6_count_153 : decode cX6_count 153 = .ok (.aload_n 0, 1) := by decide +kernel
theorem dX6_count_154 : decode cX6_count 154 = .ok (.getfield 10, 3) := by decide +kernel
theorem dX6_count_157 : decode cX6_count 157 = .ok (.getfield 225, 3) := by decide +kernel
theorem dX6_count_160 : decode cX6_count 160 = .ok (.ireturn, 1) := by decide +kernel
theorem dX6_count_161 : decode cX6_count 161 = .ok (.aload_n 0, 1) := by decide +kernel
theorem dX6_count_162 : decode cX6_count 162 = .ok (.getfield 10, 3) := by decide +kernel
theorem dX6_count_165 : decode cX6_count 165 = .ok (.iconst 0, 1) := by decide +kernel
theorem dX6_count_166 : decode cX6_count 166 = .ok (.invokevirtual 228, 3) := by decide +kernel
theorem dX6_count_169 : decode cX6_count 169 = .ok (.ireturn, 1) := by decide +kernel
theorem dX6_count_170 : decode cX6_count 170 = .ok (.aload_n 0, 1) := by decide +kernel
theorem dX6_count_171 : decode cX6_count 171 = .ok (.getfield 10, 3) := by decide +kernel
theorem dX6_count_174 : decode cX6_count 174 = .ok (.iconst 1, 1) := by decide +kernel
theorem dX6_count_175 : decode cX6_count 175 = .ok (.invokevirtual 228, 3) := by decide +kernel
theorem dX6_count_178 : decode cX6_count 178 = .ok (.ireturn, 1) := by decide +kernel
theorem dX6_count_179 : decode cX6_count 179 = .ok (.aload_n 0, 1) := by decide +kernel
theorem dX6_count_180 : decode cX6_count 180 = .ok (.getfield 10, 3) := by decide +kernel
theorem dX6_count_183 : decode cX6_count 183 = .ok (.invokevirtual 231, 3) := by decide +kernel
theorem dX6_count_186 : decode cX6_count 186 = .ok (.ireturn, 1) := by decide +kernel
theorem dX6_count_187 : decode cX6_count 187 = .ok (.aload_n 0, 1) := by decide +kernel
theorem dX6_count_188 : decode cX6_count 188 = .ok (.getfield 10, 3) := by decide +kernel
theorem dX6_count_191 : decode cX6_count 191 = .ok (.invokevirtual 234, 3) := by decide +kernel
theorem dX6_count_194 : decode cX6_count 194 = .ok (.ireturn, 1) := by decide +kernel
theorem dX6_count_195 : decode cX6_count 195 = .ok (.aload_n 0, 1) := by decide +kernel
theorem dX6_count_196 : decode cX6_count 196 = .ok (.getfield 10, 3) := by decide +kernel
theorem dX6_count_199 : decode cX6_count 199 = .ok (.getfield 189, 3) := by decide +kernel
theorem dX6_count_202 : decode cX6_count 202 = .ok (.getfield 237, 3) := by decide +kernel
theorem dX6_count_205 : decode cX6_count 205 = .ok (.ireturn, 1) := by decide +kernel
theorem dX6_count_206 : decode cX6_count 206 = .ok (.aload_n 0, 1) := by decide +kernel
theorem dX6_count_207 : decode cX6_count 207 = .ok (.getfield 19, 3) := by decide +kernel
theorem dX6_count_210 : decode cX6_count 210 = .ok (.getfield 130, 3) := by decide +kernel
theorem dX6_count_213 : decode cX6_count 213 = .ok (.ireturn, 1) := by decide +kernel
theorem dX6_count_214 : decode cX6_count 214 = .ok (.aload_n 0, 1) := by decide +kernel
theorem dX6_count_215 : decode cX6_count 215 = .ok (.getfield 29, 3) := by decide +kernel
theorem dX6_count_218 : decode cX6_count 218 = .ok (.getfield 101, 3) := by decide +kernel
theorem dX6_count_221 : decode cX6_count 221 = .ok (.ireturn, 1) := by decide +kernel
theorem dX6_count_222 : decode cX6_count 222 = .ok (.bipush (-2), 2) := by decide +kernel
theorem dX6_count_224 : decode cX6_count 224 = .ok (.ireturn, 1) := by decide +kernel
theorem dX6_callOrder_0 : decode cX6_callOrder 0 = .ok (.aload_n 0, 1) := by decide +kernel
theorem dX6_callOrder_1 : decode cX6_callOrder 1 = .ok (.iload_n 1, 1) := by decide +kernel
theorem dX6_callOrder_2 : decode cX6_callOrder 2 = .ok (.iload_n 2, 1) := by decide +kernel
theorem dX6_callOrder_3 : decode cX6_callOrder 3 = .ok (.iload_n 3, 1) := by decide +kernel
theorem dX6_callOrder_4 : decode cX6_callOrder 4 = .ok (.invokevirtual 240, 3) := by decide +kernel
theorem dX6_callOrder_7 : decode cX6_callOrder 7 = .ok (.istore 4, 2) := by decide +kernel
theorem dX6_callOrder_9 : decode cX6_callOrder 9 = .ok (.iload 4, 2) := by decide +kernel
theorem dX6_callOrder_11 : decode cX6_callOrder 11 = .ok (.ifCond .eq 6, 3) := by decide +kernel
theorem dX6_callOrder_14 : decode cX6_callOrder 14 = .ok (.iload 4, 2) := by decide +kernel
theorem dX6_callOrder_16 : decode cX6_callOrder 16 = .ok (.ireturn, 1) := by decide +kernel
theorem dX6_callOrder_17 : decode cX6_callOrder 17 = .ok (.aload_n 0, 1) := by decide +kernel
theorem dX6_callOrder_18 : decode cX6_callOrder 18 = .ok (.getfield 19, 3) := by decide +kernel
theorem dX6_callOrder_21 : decode cX6_callOrder 21 = .ok (.aload_n 0, 1) := by decide +kernel
theorem dX6_callOrder_22 : decode cX6_callOrder 22 = .ok (.getfield 10, 3) := by decide +kernel
theorem dX6_callOrder_25 : decode cX6_callOrder 25 = .ok (.invokevirtual 57, 3) := by decide +kernel
theorem dX6_callOrder_28 : decode cX6_callOrder 28 = .ok (.aload_n 0, 1) := by decide +kernel
theorem dX6_callOrder_29 : decode cX6_callOrder 29 = .ok (.iload_n 1, 1) := by decide +kernel
theorem dX6_callOrder_30 : decode cX6_callOrder 30 = .ok (.iload_n 2, 1) := by decide +kernel
theorem dX6_callOrder_31 : decode cX6_callOrder 31 = .ok (.iload_n 3, 1) := by decide +kernel
theorem dX6_callOrder_32 : decode cX6_callOrder 32 = .ok (.invokevirtual 243, 3) := by decide +kernel
theorem dX6_callOrder_35 : decode cX6_callOrder 35 = .ok (.ireturn, 1) := by decide +kernel
theorem dX6_checkOrder_0 : decode cX6_checkOrder 0 = .ok (.iload_n 1, 1) := by decide +kernel
theorem dX6_checkOrder_1 : decode cX6_checkOrder 1 = .ok (.iconst 4, 1) := by decide +kernel
theorem dX6_checkOrder_2 : decode cX6_checkOrder 2 = .ok (.if_icmp .ne 30, 3) := by decide +kernel
theorem dX6_checkOrder_5 : decode cX6_checkOrder 5 = .ok (.iload_n 2, 1) := by decide +kernel
theorem dX6_checkOrder_6 : decode cX6_checkOrder 6 = .ok (.iconst 1, 1) := by decide +kernel
theorem dX6_checkOrder_7 : decode cX6_checkOrder 7 = .ok (.if_icmp .ne 7, 3) := by decide +kernel
theorem dX6_checkOrder_10 : decode cX6_checkOrder 10 = .ok (.iconst 1, 1) := by decide +kernel
theorem dX6_checkOrder_11 : decode cX6_checkOrder 11 = .ok (.goto 4, 3) := by decide +kernel
theorem dX6_checkOrder_14 : decode cX6_checkOrder 14 = .ok (.iconst 0, 1) := by decide +kernel
theorem dX6_checkOrder_15 : decode cX6_checkOrder 15 = .ok (.aload_n 0, 1) := by decide +kernel
theorem dX6_checkOrder_16 : decode cX6_checkOrder 16 = .ok (.getfield 10, 3) := by decide +kernel
theorem dX6_checkOrder_19 : decode cX6_checkOrder 19 = .ok (.getfield 203, 3) := by decide +kernel
theorem dX6_checkOrder_22 : decode cX6_checkOrder 22 = .ok (.if_icmp .ne 8, 3) := by decide +kernel
theorem dX6_checkOrder_25 : decode cX6_checkOrder 25 = .ok (.bipush (-4), 2) := by decide +kernel
theorem dX6_checkOrder_27 : decode cX6_checkOrder 27 = .ok (.goto 4, 3) := by decide +kernel
theorem dX6_checkOrder_30 : decode cX6_checkOrder 30 = .ok (.iconst 0, 1) := by decide +kernel
theorem dX6_checkOrder_31 : decode cX6_checkOrder 31 = .ok (.ireturn, 1) := by decide +kernel
theorem dX6_checkOrder_32 : decode cX6_checkOrder 32 = .ok (.aload_n 0, 1) := by decide +kernel
theorem dX6_checkOrder_33 : decode cX6_checkOrder 33 = .ok (.getfield 10, 3) := by decide +kernel
theorem dX6_checkOrder_36 : decode cX6_checkOrder 36 = .ok (.iload_n 2, 1) := by decide +kernel
theorem dX6_checkOrder_37 : decode cX6_checkOrder 37 = .ok (.invokevirtual 71, 3) := by decide +kernel
theorem dX6_checkOrder_40 : decode cX6_checkOrder 40 = .ok (.astore 4, 2) := by decide +kernel
theorem dX6_checkOrder_42 : decode cX6_checkOrder 42 = .ok (.aload 4, 2) := by decide +kernel
theorem dX6_checkOrder_44 : decode cX6_checkOrder 44 = .ok (.ifnonnull 5, 3) := by decide +kernel
theorem dX6_checkOrder_47 : decode cX6_checkOrder 47 = .ok (.iconst (-1), 1) := by decide +kernel
theorem dX6_checkOrder_48 : decode cX6_checkOrder 48 = .ok (.ireturn, 1) := by decide +kernel
theorem dX6_checkOrder_49 : decode cX6_checkOrder 49 = .ok (.iload_n 1, 1) := by decide +kernel
theorem dX6_checkOrder_50 : decode cX6_checkOrder 50 = .ok (.tableswitch 79 0 2 #[26, 44, 71], 26) := by decide +kernel
theorem dX6_checkOrder_76 : decode cX6_checkOrder 76 = .ok (.aload 4, 2) := by decide +kernel
theorem dX6_checkOrder_78 : decode cX6_checkOrder 78 = .ok (.getfield 149, 3) := by decide +kernel
theorem dX6_checkOrder_81 : decode cX6_checkOrder 81 = .ok (.ifCond .ne 7, 3) := by decide +kernel
theorem dX6_checkOrder_84 : decode cX6_checkOrder 84 = .ok (.iconst 0, 1) := by decide +kernel
theorem dX6_checkOrder_85 : decode cX6_checkOrder 85 = .ok (.goto 8, 3) := by decide +kernel
theorem dX6_checkOrder_88 : decode cX6_checkOrder 88 = .ok (.aload_n 0, 1) := by decide +kernel
theorem dX6_checkOrder_89 : decode cX6_checkOrder 89 = .ok (.iconst 1, 1) := by decide +kernel
theorem dX6_checkOrder_90 : decode cX6_checkOrder 90 = .ok (.invokevirtual 53, 3) := by decide +kernel
theorem dX6_checkOrder_93 : decode cX6_checkOrder 93 = .ok (.ireturn, 1) := by decide +kernel
theorem dX6_checkOrder_94 : decode cX6_checkOrder 94 = .ok (.aload 4, 2) := by decide +kernel
theorem dX6_checkOrder_96 : decode cX6_checkOrder 96 = .ok (.getfield 149, 3) := by decide +kernel
theorem dX6_checkOrder_99 : decode cX6_checkOrder 99 = .ok (.ifCond .eq 12, 3) := by decide +kernel
theorem dX6_checkOrder_102 : decode cX6_checkOrder 102 = .ok (.aload 4, 2) := by decide +kernel
theorem dX6_checkOrder_104 : decode cX6_checkOrder 104 = .ok (.getfield 149, 3) := by decide +kernel
theorem dX6_checkOrder_107 : decode cX6_checkOrder 107 = .ok (.iconst 4, 1) := by decide +kernel
theorem dX6_checkOrder_108 : decode cX6_checkOrder 108 = .ok (.if_icmp .ne 11, 3) := by decide +kernel
theorem dX6_checkOrder_111 : decode cX6_checkOrder 111 = .ok (.aload_n 0, 1) := by decide +kernel
theorem dX6_checkOrder_112 : decode cX6_checkOrder 112 = .ok (.iconst 1, 1) := by decide +kernel
theorem dX6_checkOrder_113 : decode cX6_checkOrder 113 = .ok (.invokevirtual 53, 3) := by decide +kernel
theorem dX6_checkOrder_116 : decode cX6_checkOrder 116 = .ok (.goto 4, 3) := by decide +kernel
theorem dX6_checkOrder_119 : decode cX6_checkOrder 119 = .ok (.iconst 0, 1) := by decide +kernel
theorem dX6_checkOrder_120 : decode cX6_checkOrder 120 = .ok (.ireturn, 1) := by decide +kernel
theorem dX6_checkOrder_121 : decode cX6_checkOrder 121 = .ok (.aload_n 0, 1) := by decide +kernel
theorem dX6_checkOrder_122 : decode cX6_checkOrder 122 = .ok (.aload 4, 2) := by decide +kernel
theorem dX6_checkOrder_124 : decode cX6_checkOrder 124 = .ok (.iload_n 3, 1) := by decide +kernel
theorem dX6_checkOrder_125 : decode cX6_checkOrder 125 = .ok (.invokevirtual 246, 3) := by decide +kernel
theorem dX6_checkOrder_128 : decode cX6_checkOrder 128 = .ok (.ireturn, 1) := by decide +kernel
theorem dX6_checkOrder_129 : decode cX6_checkOrder 129 = .ok (.aload_n 0, 1) := by decide +kernel
theorem dX6_checkOrder_130 : decode cX6_checkOrder 130 = .ok (.aload 4, 2) := by decide +kernel
theorem dX6_checkOrder_132 : decode cX6_checkOrder 132 = .ok (.invokevirtual 250, 3) := by decide +kernel
theorem dX6_checkOrder_135 : decode cX6_checkOrder 135 = .ok (.ireturn, 1) := by decide +kernel
theorem dX6_checkLoss_0 : decode cX6_checkLoss 0 = .ok (.iload_n 2, 1) := by decide +kernel
theorem dX6_checkLoss_1 : decode cX6_checkLoss 1 = .ok (.iconst 0, 1) := by decide +kernel
theorem dX6_checkLoss_2 : decode cX6_checkLoss 2 = .ok (.bipush 7, 2) := by decide +kernel
theorem dX6_checkLoss_4 : decode cX6_checkLoss 4 = .ok (.invokestatic 44, 3) := by decide +kernel
theorem dX6_checkLoss_7 : decode cX6_checkLoss 7 = .ok (.ifCond .eq 6, 3) := by decide +kernel
theorem dX6_checkLoss_10 : decode cX6_checkLoss 10 = .ok (.bipush (-2), 2) := by decide +kernel
theorem dX6_checkLoss_12 : decode cX6_checkLoss 12 = .ok (.ireturn, 1) := by decide +kernel
theorem dX6_checkLoss_13 : decode cX6_checkLoss 13 = .ok (.iload_n 2, 1) := by decide +kernel
theorem dX6_checkLoss_14 : decode cX6_checkLoss 14 = .ok (.aload_n 1, 1) := by decide +kernel
theorem dX6_checkLoss_15 : decode cX6_checkLoss 15 = .ok (.getfield 155, 3) := by decide +kernel
theorem dX6_checkLoss_18 : decode cX6_checkLoss 18 = .ok (.if_icmp .ne 8, 3) := by decide +kernel
theorem dX6_checkLoss_21 : decode cX6_checkLoss 21 = .ok (.bipush (-4), 2) := by decide +kernel
theorem dX6_checkLoss_23 : decode cX6_checkLoss 23 = .ok (.goto 4, 3) := by decide +kernel
theorem dX6_checkLoss_26 : decode cX6_checkLoss 26 = .ok (.iconst 0, 1) := by decide +kernel
theorem dX6_checkLoss_27 : decode cX6_checkLoss 27 = .ok (.ireturn, 1) := by decide +kernel
theorem dX6_checkReset_0 : decode cX6_checkReset 0 = .ok (.aload_n 1, 1) := by decide +kernel
theorem dX6_checkReset_1 : decode cX6_checkReset 1 = .ok (.getfield 149, 3) := by decide +kernel
theorem dX6_checkReset_4 : decode cX6_checkReset 4 = .ok (.iconst 4, 1) := by decide +kernel
theorem dX6_checkReset_5 : decode cX6_checkReset 5 = .ok (.if_icmp .eq 9, 3) := by decide +kernel
theorem dX6_checkReset_8 : decode cX6_checkReset 8 = .ok (.aload_n 0, 1) := by decide +kernel
theorem dX6_checkReset_9 : decode cX6_checkReset 9 = .ok (.iconst 1, 1) := by decide +kernel
theorem dX6_checkReset_10 : decode cX6_checkReset 10 = .ok (.invokevirtual 53, 3) := by decide +kernel
theorem dX6_checkReset_13 : decode cX6_checkReset 13 = .ok (.ireturn, 1) := by decide +kernel
theorem dX6_checkReset_14 : decode cX6_checkReset 14 = .ok (.aload_n 1, 1) := by decide +kernel
theorem dX6_checkReset_15 : decode cX6_checkReset 15 = .ok (.getfield 155, 3) := by decide +kernel
theorem dX6_checkReset_18 : decode cX6_checkReset 18 = .ok (.ifCond .eq 9, 3) := by decide +kernel
theorem dX6_checkReset_21 : decode cX6_checkReset 21 = .ok (.aload_n 0, 1) := by decide +kernel
theorem dX6_checkReset_22 : decode cX6_checkReset 22 = .ok (.iconst 4, 1) := by decide +kernel
theorem dX6_checkReset_23 : decode cX6_checkReset 23 = .ok (.invokevirtual 53, 3) := by decide +kernel
theorem dX6_checkReset_26 : decode cX6_checkReset 26 = .ok (.ireturn, 1) := by decide +kernel
theorem dX6_checkReset_27 : decode cX6_checkReset 27 = .ok (.aload_n 1, 1) := by decide +kernel
theorem dX6_checkReset_28 : decode cX6_checkReset 28 = .ok (.getfield 152, 3) := by decide +kernel
theorem dX6_checkReset_31 : decode cX6_checkReset 31 = .ok (.aload_n 1, 1) := by decide +kernel
theorem dX6_checkReset_32 : decode cX6_checkReset 32 = .ok (.getfield 148, 3) := by decide +kernel
theorem dX6_checkReset_35 : decode cX6_checkReset 35 = .ok (.iconst 2, 1) := by decide +kernel
theorem dX6_checkReset_36 : decode cX6_checkReset 36 = .ok (.idiv, 1) := by decide +kernel
theorem dX6_checkReset_37 : decode cX6_checkReset 37 = .ok (.if_icmp .le 11, 3) := by decide +kernel
theorem dX6_checkReset_40 : decode cX6_checkReset 40 = .ok (.aload_n 0, 1) := by decide +kernel
theorem dX6_checkReset_41 : decode cX6_checkReset 41 = .ok (.iconst 2, 1) := by decide +kernel
theorem dX6_checkReset_42 : decode cX6_checkReset 42 = .ok (.invokevirtual 53, 3) := by decide +kernel
theorem dX6_checkReset_45 : decode cX6_checkReset 45 = .ok (.goto 4, 3) := by decide +kernel
theorem dX6_checkReset_48 : decode cX6_checkReset 48 = .ok (.iconst 0, 1) := by decide +kernel
theorem dX6_checkReset_49 : decode cX6_checkReset 49 = .ok (.ireturn, 1) := by decide +kernel
theorem dX6_carryOut_0 : decode cX6_carryOut 0 = .ok (.iload_n 1, 1) := by decide +kernel
theorem dX6_carryOut_1 : decode cX6_carryOut 1 = .ok (.iconst 4, 1) := by decide +kernel
theorem dX6_carryOut_2 : decode cX6_carryOut 2 = .ok (.if_icmp .ne 22, 3) := by decide +kernel
theorem dX6_carryOut_5 : decode cX6_carryOut 5 = .ok (.aload_n 0, 1) := by decide +kernel
theorem dX6_carryOut_6 : decode cX6_carryOut 6 = .ok (.getfield 10, 3) := by decide +kernel
theorem dX6_carryOut_9 : decode cX6_carryOut 9 = .ok (.iload_n 2, 1) := by decide +kernel
theorem dX6_carryOut_10 : decode cX6_carryOut 10 = .ok (.iconst 1, 1) := by decide +kernel
theorem dX6_carryOut_11 : decode cX6_carryOut 11 = .ok (.if_icmp .ne 7, 3) := by decide +kernel
theorem dX6_carryOut_14 : decode cX6_carryOut 14 = .ok (.iconst 1, 1) := by decide +kernel
theorem dX6_carryOut_15 : decode cX6_carryOut 15 = .ok (.goto 4, 3) := by decide +kernel
theorem dX6_carryOut_18 : decode cX6_carryOut 18 = .ok (.iconst 0, 1) := by decide +kernel
theorem dX6_carryOut_19 : decode cX6_carryOut 19 = .ok (.putfield 203, 3) := by decide +kernel
theorem dX6_carryOut_22 : decode cX6_carryOut 22 = .ok (.iload_n 2, 1) := by decide +kernel
theorem dX6_carryOut_23 : decode cX6_carryOut 23 = .ok (.ireturn, 1) := by decide +kernel
theorem dX6_carryOut_24 : decode cX6_carryOut 24 = .ok (.aload_n 0, 1) := by decide +kernel
theorem dX6_carryOut_25 : decode cX6_carryOut 25 = .ok (.getfield 10, 3) := by decide +kernel
theorem dX6_carryOut_28 : decode cX6_carryOut 28 = .ok (.iload_n 2, 1) := by decide +kernel
theorem dX6_carryOut_29 : decode cX6_carryOut 29 = .ok (.invokevirtual 71, 3) := by decide +kernel
theorem dX6_carryOut_32 : decode cX6_carryOut 32 = .ok (.astore 4, 2) := by decide +kernel
theorem dX6_carryOut_34 : decode cX6_carryOut 34 = .ok (.aload 4, 2) := by decide +kernel
theorem dX6_carryOut_36 : decode cX6_carryOut 36 = .ok (.ifnonnull 5, 3) := by decide +kernel
theorem dX6_carryOut_39 : decode cX6_carryOut 39 = .ok (.iconst (-1), 1) := by decide +kernel
theorem dX6_carryOut_40 : decode cX6_carryOut 40 = .ok (.ireturn, 1) := by decide +kernel
theorem dX6_carryOut_41 : decode cX6_carryOut 41 = .ok (.iload_n 1, 1) := by decide +kernel
theorem dX6_carryOut_42 : decode cX6_carryOut 42 = .ok (.tableswitch 70 0 2 #[26, 45, 62], 26) := by decide +kernel
theorem dX6_carryOut_68 : decode cX6_carryOut 68 = .ok (.aload 4, 2) := by decide +kernel
theorem dX6_carryOut_70 : decode cX6_carryOut 70 = .ok (.aload_n 0, 1) := by decide +kernel
theorem dX6_carryOut_71 : decode cX6_carryOut 71 = .ok (.getfield 10, 3) := by decide +kernel
theorem dX6_carryOut_74 : decode cX6_carryOut 74 = .ok (.getfield 98, 3) := by decide +kernel
theorem dX6_carryOut_77 : decode cX6_carryOut 77 = .ok (.putfield 161, 3) := by decide +kernel
theorem dX6_carryOut_80 : decode cX6_carryOut 80 = .ok (.aload 4, 2) := by decide +kernel
theorem dX6_carryOut_82 : decode cX6_carryOut 82 = .ok (.iconst 1, 1) := by decide +kernel
theorem dX6_carryOut_83 : decode cX6_carryOut 83 = .ok (.invokevirtual 253, 3) := by decide +kernel
theorem dX6_carryOut_86 : decode cX6_carryOut 86 = .ok (.ireturn, 1) := by decide +kernel
theorem dX6_carryOut_87 : decode cX6_carryOut 87 = .ok (.aload_n 0, 1) := by decide +kernel
theorem dX6_carryOut_88 : decode cX6_carryOut 88 = .ok (.getfield 10, 3) := by decide +kernel
theorem dX6_carryOut_91 : decode cX6_carryOut 91 = .ok (.aload 4, 2) := by decide +kernel
theorem dX6_carryOut_93 : decode cX6_carryOut 93 = .ok (.iconst 3, 1) := by decide +kernel
theorem dX6_carryOut_94 : decode cX6_carryOut 94 = .ok (.invokevirtual 256, 3) := by decide +kernel
theorem dX6_carryOut_97 : decode cX6_carryOut 97 = .ok (.aload 4, 2) := by decide +kernel
theorem dX6_carryOut_99 : decode cX6_carryOut 99 = .ok (.iconst 0, 1) := by decide +kernel
theorem dX6_carryOut_100 : decode cX6_carryOut 100 = .ok (.invokevirtual 253, 3) := by decide +kernel
theorem dX6_carryOut_103 : decode cX6_carryOut 103 = .ok (.ireturn, 1) := by decide +kernel
theorem dX6_carryOut_104 : decode cX6_carryOut 104 = .ok (.aload_n 0, 1) := by decide +kernel
theorem dX6_carryOut_105 : decode cX6_carryOut 105 = .ok (.aload 4, 2) := by decide +kernel
theorem dX6_carryOut_107 : decode cX6_carryOut 107 = .ok (.iload_n 3, 1) := by decide +kernel
theorem dX6_carryOut_108 : decode cX6_carryOut 108 = .ok (.invokevirtual 260, 3) := by decide +kernel
theorem dX6_carryOut_111 : decode cX6_carryOut 111 = .ok (.ireturn, 1) := by decide +kernel
theorem dX6_carryOut_112 : decode cX6_carryOut 112 = .ok (.aload_n 0, 1) := by decide +kernel
theorem dX6_carryOut_113 : decode cX6_carryOut 113 = .ok (.getfield 10, 3) := by decide +kernel
theorem dX6_carryOut_116 : decode cX6_carryOut 116 = .ok (.aload 4, 2) := by decide +kernel
theorem dX6_carryOut_118 : decode cX6_carryOut 118 = .ok (.bipush 6, 2) := by decide +kernel
theorem dX6_carryOut_120 : decode cX6_carryOut 120 = .ok (.invokevirtual 256, 3) := by decide +kernel
theorem dX6_carryOut_123 : decode cX6_carryOut 123 = .ok (.aload 4, 2) := by decide +kernel
theorem dX6_carryOut_125 : decode cX6_carryOut 125 = .ok (.iconst 0, 1) := by decide +kernel
theorem dX6_carryOut_126 : decode cX6_carryOut 126 = .ok (.invokevirtual 253, 3) := by decide +kernel
theorem dX6_carryOut_129 : decode cX6_carryOut 129 = .ok (.pop, 1) := by decide +kernel
theorem dX6_carryOut_130 : decode cX6_carryOut 130 = .ok (.aload 4, 2) := by decide +kernel
theorem dX6_carryOut_132 : decode cX6_carryOut 132 = .ok (.getfield 152, 3) := by decide +kernel
theorem dX6_carryOut_135 : decode cX6_carryOut 135 = .ok (.ireturn, 1) := by decide +kernel
theorem dX6_carryOutLoss_0 : decode cX6_carryOutLoss 0 = .ok (.aload_n 1, 1) := by decide +kernel
theorem dX6_carryOutLoss_1 : decode cX6_carryOutLoss 1 = .ok (.getfield 155, 3) := by decide +kernel
theorem dX6_carryOutLoss_4 : decode cX6_carryOutLoss 4 = .ok (.istore_n 3, 1) := by decide +kernel
theorem dX6_carryOutLoss_5 : decode cX6_carryOutLoss 5 = .ok (.aload_n 1, 1) := by decide +kernel
theorem dX6_carryOutLoss_6 : decode cX6_carryOutLoss 6 = .ok (.iload_n 2, 1) := by decide +kernel
theorem dX6_carryOutLoss_7 : decode cX6_carryOutLoss 7 = .ok (.putfield 155, 3) := by decide +kernel
theorem dX6_carryOutLoss_10 : decode cX6_carryOutLoss 10 = .ok (.aload_n 1, 1) := by decide +kernel
theorem dX6_carryOutLoss_11 : decode cX6_carryOutLoss 11 = .ok (.getfield 149, 3) := by decide +kernel
theorem dX6_carryOutLoss_14 : decode cX6_carryOutLoss 14 = .ok (.iconst 2, 1) := by decide +kernel
theorem dX6_carryOutLoss_15 : decode cX6_carryOutLoss 15 = .ok (.if_icmp .ne 20, 3) := by decide +kernel
theorem dX6_carryOutLoss_18 : decode cX6_carryOutLoss 18 = .ok (.iload_n 2, 1) := by decide +kernel
theorem dX6_carryOutLoss_19 : decode cX6_carryOutLoss 19 = .ok (.ifCond .eq 16, 3) := by decide +kernel
theorem dX6_carryOutLoss_22 : decode cX6_carryOutLoss 22 = .ok (.aload_n 0, 1) := by decide +kernel
theorem dX6_carryOutLoss_23 : decode cX6_carryOutLoss 23 = .ok (.getfield 10, 3) := by decide +kernel
theorem dX6_carryOutLoss_26 : decode cX6_carryOutLoss 26 = .ok (.aload_n 1, 1) := by decide +kernel
theorem dX6_carryOutLoss_27 : decode cX6_carryOutLoss 27 = .ok (.aload_n 1, 1) := by decide +kernel
theorem dX6_carryOutLoss_28 : decode cX6_carryOutLoss 28 = .ok (.iconst 4, 1) := by decide +kernel
theorem dX6_carryOutLoss_29 : decode cX6_carryOutLoss 29 = .ok (.invokevirtual 263, 3) := by decide +kernel
theorem dX6_carryOutLoss_32 : decode cX6_carryOutLoss 32 = .ok (.invokevirtual 256, 3) := by decide +kernel
theorem dX6_carryOutLoss_35 : decode cX6_carryOutLoss 35 = .ok (.iload_n 3, 1) := by decide +kernel
theorem dX6_carryOutLoss_36 : decode cX6_carryOutLoss 36 = .ok (.ireturn, 1) := by decide +kernel
theorem dX6_refuse_0 : decode cX6_refuse 0 = .ok (.aload_n 0, 1) := by decide +kernel
theorem dX6_refuse_1 : decode cX6_refuse 1 = .ok (.iload_n 1, 1) := by decide +kernel
theorem dX6_refuse_2 : decode cX6_refuse 2 = .ok (.putfield 222, 3) := by decide +kernel
theorem dX6_refuse_5 : decode cX6_refuse 5 = .ok (.bipush (-3), 2) := by decide +kernel
theorem dX6_refuse_7 : decode cX6_refuse 7 = .ok (.ireturn, 1) := by decide +kernel
theorem dX6_carryOutDueItems_0 : decode cX6_carryOutDueItems 0 = .ok (.aload_n 0, 1) := by decide +kernel
theorem dX6_carryOutDueItems_1 : decode cX6_carryOutDueItems 1 = .ok (.getfield 10, 3) := by decide +kernel
theorem dX6_carryOutDueItems_4 : decode cX6_carryOutDueItems 4 = .ok (.getfield 115, 3) := by decide +kernel
theorem dX6_carryOutDueItems_7 : decode cX6_carryOutDueItems 7 = .ok (.astore_n 1, 1) := by decide +kernel
theorem dX6_carryOutDueItems_8 : decode cX6_carryOutDueItems 8 = .ok (.aload_n 1, 1) := by decide +kernel
theorem dX6_carryOutDueItems_9 : decode cX6_carryOutDueItems 9 = .ok (.getfield 266, 3) := by decide +kernel
theorem dX6_carryOutDueItems_12 : decode cX6_carryOutDueItems 12 = .ok (.istore_n 2, 1) := by decide +kernel
theorem dX6_carryOutDueItems_13 : decode cX6_carryOutDueItems 13 = .ok (.iload_n 2, 1) := by decide +kernel
theorem dX6_carryOutDueItems_14 : decode cX6_carryOutDueItems 14 = .ok (.aload_n 1, 1) := by decide +kernel
theorem dX6_carryOutDueItems_15 : decode cX6_carryOutDueItems 15 = .ok (.getfield 269, 3) := by decide +kernel
theorem dX6_carryOutDueItems_18 : decode cX6_carryOutDueItems 18 = .ok (.if_icmp .ge 55, 3) := by decide +kernel
theorem dX6_carryOutDueItems_21 : decode cX6_carryOutDueItems 21 = .ok (.aload_n 1, 1) := by decide +kernel
theorem dX6_carryOutDueItems_22 : decode cX6_carryOutDueItems 22 = .ok (.getfield 270, 3) := by decide +kernel
theorem dX6_carryOutDueItems_25 : decode cX6_carryOutDueItems 25 = .ok (.iload_n 2, 1) := by decide +kernel
theorem dX6_carryOutDueItems_26 : decode cX6_carryOutDueItems 26 = .ok (.iaload, 1) := by decide +kernel
theorem dX6_carryOutDueItems_27 : decode cX6_carryOutDueItems 27 = .ok (.aload_n 0, 1) := by decide +kernel
theorem dX6_carryOutDueItems_28 : decode cX6_carryOutDueItems 28 = .ok (.getfield 10, 3) := by decide +kernel
theorem dX6_carryOutDueItems_31 : decode cX6_carryOutDueItems 31 = .ok (.getfield 98, 3) := by decide +kernel
theorem dX6_carryOutDueItems_34 : decode cX6_carryOutDueItems 34 = .ok (.if_icmp .le 4, 3) := by decide +kernel
theorem dX6_carryOutDueItems_37 : decode cX6_carryOutDueItems 37 = .ok (.return_, 1) := by decide +kernel
theorem dX6_carryOutDueItems_38 : decode cX6_carryOutDueItems 38 = .ok (.aload_n 1, 1) := by decide +kernel
theorem dX6_carryOutDueItems_39 : decode cX6_carryOutDueItems 39 = .ok (.iload_n 2, 1) := by decide +kernel
theorem dX6_carryOutDueItems_40 : decode cX6_carryOutDueItems 40 = .ok (.iconst 1, 1) := by decide +kernel
theorem dX6_carryOutDueItems_41 : decode cX6_carryOutDueItems 41 = .ok (.iadd, 1) := by decide +kernel
theorem dX6_carryOutDueItems_42 : decode cX6_carryOutDueItems 42 = .ok (.putfield 266, 3) := by decide +kernel
theorem dX6_carryOutDueItems_45 : decode cX6_carryOutDueItems 45 = .ok (.aload_n 0, 1) := by decide +kernel
theorem dX6_carryOutDueItems_46 : decode cX6_carryOutDueItems 46 = .ok (.aload_n 1, 1) := by decide +kernel
theorem dX6_carryOutDueItems_47 : decode cX6_carryOutDueItems 47 = .ok (.getfield 273, 3) := by decide +kernel
theorem dX6_carryOutDueItems_50 : decode cX6_carryOutDueItems 50 = .ok (.iload_n 2, 1) := by decide +kernel
theorem dX6_carryOutDueItems_51 : decode cX6_carryOutDueItems 51 = .ok (.iaload, 1) := by decide +kernel
theorem dX6_carryOutDueItems_52 : decode cX6_carryOutDueItems 52 = .ok (.aload_n 1, 1) := by decide +kernel
theorem dX6_carryOutDueItems_53 : decode cX6_carryOutDueItems 53 = .ok (.getfield 276, 3) := by decide +kernel
theorem dX6_carryOutDueItems_56 : decode cX6_carryOutDueItems 56 = .ok (.iload_n 2, 1) := by decide +kernel
theorem dX6_carryOutDueItems_57 : decode cX6_carryOutDueItems 57 = .ok (.iaload, 1) := by decide +kernel
theorem dX6_carryOutDueItems_58 : decode cX6_carryOutDueItems 58 = .ok (.aload_n 1, 1) := by decide +kernel
theorem dX6_carryOutDueItems_59 : decode cX6_carryOutDueItems 59 = .ok (.getfield 279, 3) := by decide +kernel
theorem dX6_carryOutDueItems_62 : decode cX6_carryOutDueItems 62 = .ok (.iload_n 2, 1) := by decide +kernel
theorem dX6_carryOutDueItems_63 : decode cX6_carryOutDueItems 63 = .ok (.iaload, 1) := by decide +kernel
theorem dX6_carryOutDueItems_64 : decode cX6_carryOutDueItems 64 = .ok (.invokevirtual 282, 3) := by decide +kernel
theorem dX6_carryOutDueItems_67 : decode cX6_carryOutDueItems 67 = .ok (.iinc 2 1, 3) := by decide +kernel
theorem dX6_carryOutDueItems_70 : decode cX6_carryOutDueItems 70 = .ok (.goto (-57), 3) := by decide +kernel
theorem dX6_carryOutDueItems_73 : decode cX6_carryOutDueItems 73 = .ok (.return_, 1) := by decide +kernel
theorem dX6_carryOutItem_0 : decode cX6_carryOutItem 0 = .ok (.aload_n 0, 1) := by decide +kernel
theorem dX6_carryOutItem_1 : decode cX6_carryOutItem 1 = .ok (.iload_n 1, 1) := by decide +kernel
theorem dX6_carryOutItem_2 : decode cX6_carryOutItem 2 = .ok (.iload_n 2, 1) := by decide +kernel
theorem dX6_carryOutItem_3 : decode cX6_carryOutItem 3 = .ok (.iload_n 3, 1) := by decide +kernel
theorem dX6_carryOutItem_4 : decode cX6_carryOutItem 4 = .ok (.invokevirtual 240, 3) := by decide +kernel
theorem dX6_carryOutItem_7 : decode cX6_carryOutItem 7 = .ok (.istore 4, 2) := by decide +kernel
theorem dX6_carryOutItem_9 : decode cX6_carryOutItem 9 = .ok (.iload 4, 2) := by decide +kernel
theorem dX6_carryOutItem_11 : decode cX6_carryOutItem 11 = .ok (.ifCond .ne 14, 3) := by decide +kernel
theorem dX6_carryOutItem_14 : decode cX6_carryOutItem 14 = .ok (.aload_n 0, 1) := by decide +kernel
theorem dX6_carryOutItem_15 : decode cX6_carryOutItem 15 = .ok (.iload_n 1, 1) := by decide +kernel
theorem dX6_carryOutItem_16 : decode cX6_carryOutItem 16 = .ok (.iload_n 2, 1) := by decide +kernel
theorem dX6_carryOutItem_17 : decode cX6_carryOutItem 17 = .ok (.iload_n 3, 1) := by decide +kernel
theorem dX6_carryOutItem_18 : decode cX6_carryOutItem 18 = .ok (.invokevirtual 243, 3) := by decide +kernel
theorem dX6_carryOutItem_21 : decode cX6_carryOutItem 21 = .ok (.pop, 1) := by decide +kernel
theorem dX6_carryOutItem_22 : decode cX6_carryOutItem 22 = .ok (.goto 23, 3) := by decide +kernel
theorem dX6_carryOutItem_25 : decode cX6_carryOutItem 25 = .ok (.iload 4, 2) := by decide +kernel
theorem dX6_carryOutItem_27 : decode cX6_carryOutItem 27 = .ok (.bipush (-4), 2) := by decide +kernel
theorem dX6_carryOutItem_29 : decode cX6_carryOutItem 29 = .ok (.if_icmp .eq 16, 3) := by decide +kernel
theorem dX6_carryOutItem_32 : decode cX6_carryOutItem 32 = .ok (.aload_n 0, 1) := by decide +kernel
theorem dX6_carryOutItem_33 : decode cX6_carryOutItem 33 = .ok (.getfield 10, 3) := by decide +kernel
theorem dX6_carryOutItem_36 : decode cX6_carryOutItem 36 = .ok (.dup, 1) := by decide +kernel
theorem dX6_carryOutItem_37 : decode cX6_carryOutItem 37 = .ok (.getfield 225, 3) := by decide +kernel
theorem dX6_carryOutItem_40 : decode cX6_carryOutItem 40 = .ok (.iconst 1, 1) := by decide +kernel
theorem dX6_carryOutItem_41 : decode cX6_carryOutItem 41 = .ok (.iadd, 1) := by decide +kernel
theorem dX6_carryOutItem_42 : decode cX6_carryOutItem 42 = .ok (.putfield 225, 3) := by decide +kernel
theorem dX6_carryOutItem_45 : decode cX6_carryOutItem 45 = .ok (.return_, 1) := by decide +kernel
theorem dX6_startFirstThatCan_0 : decode cX6_startFirstThatCan 0 = .ok (.aload_n 0, 1) := by decide +kernel
theorem dX6_startFirstThatCan_1 : decode cX6_startFirstThatCan 1 = .ok (.invokevirtual 182, 3) := by decide +kernel
theorem dX6_startFirstThatCan_4 : decode cX6_startFirstThatCan 4 = .ok (.istore_n 1, 1) := by decide +kernel
theorem dX6_startFirstThatCan_5 : decode cX6_startFirstThatCan 5 = .ok (.iconst 0, 1) := by decide +kernel
theorem dX6_startFirstThatCan_6 : decode cX6_startFirstThatCan 6 = .ok (.istore_n 2, 1) := by decide +kernel
theorem dX6_startFirstThatCan_7 : decode cX6_startFirstThatCan 7 = .ok (.iload_n 2, 1) := by decide +kernel
theorem dX6_startFirstThatCan_8 : decode cX6_startFirstThatCan 8 = .ok (.iload_n 1, 1) := by decide +kernel
theorem dX6_startFirstThatCan_9 : decode cX6_startFirstThatCan 9 = .ok (.if_icmp .ge 71, 3) := by decide +kernel
theorem dX6_startFirstThatCan_12 : decode cX6_startFirstThatCan 12 = .ok (.aload_n 0, 1) := by decide +kernel
theorem dX6_startFirstThatCan_13 : decode cX6_startFirstThatCan 13 = .ok (.getfield 10, 3) := by decide +kernel
theorem dX6_startFirstThatCan_16 : decode cX6_startFirstThatCan 16 = .ok (.getfield 61, 3) := by decide +kernel
theorem dX6_startFirstThatCan_19 : decode cX6_startFirstThatCan 19 = .ok (.aload_n 0, 1) := by decide +kernel
theorem dX6_startFirstThatCan_20 : decode cX6_startFirstThatCan 20 = .ok (.getfield 40, 3) := by decide +kernel
theorem dX6_startFirstThatCan_23 : decode cX6_startFirstThatCan 23 = .ok (.iload_n 2, 1) := by decide +kernel
theorem dX6_startFirstThatCan_24 : decode cX6_startFirstThatCan 24 = .ok (.iaload, 1) := by decide +kernel
theorem dX6_startFirstThatCan_25 : decode cX6_startFirstThatCan 25 = .ok (.aaload, 1) := by decide +kernel
theorem dX6_startFirstThatCan_26 : decode cX6_startFirstThatCan 26 = .ok (.astore_n 3, 1) := by decide +kernel
theorem dX6_startFirstThatCan_27 : decode cX6_startFirstThatCan 27 = .ok (.aload_n 0, 1) := by decide +kernel
theorem dX6_startFirstThatCan_28 : decode cX6_startFirstThatCan 28 = .ok (.getfield 10, 3) := by decide +kernel
theorem dX6_startFirstThatCan_31 : decode cX6_startFirstThatCan 31 = .ok (.aload_n 3, 1) := by decide +kernel
theorem dX6_startFirstThatCan_32 : decode cX6_startFirstThatCan 32 = .ok (.invokevirtual 185, 3) := by decide +kernel
theorem dX6_startFirstThatCan_35 : decode cX6_startFirstThatCan 35 = .ok (.ifCond .ne 39, 3) := by decide +kernel
theorem dX6_startFirstThatCan_38 : decode cX6_startFirstThatCan 38 = .ok (.aload_n 3, 1) := by decide +kernel
theorem dX6_startFirstThatCan_39 : decode cX6_startFirstThatCan 39 = .ok (.iconst 2, 1) := by decide +kernel
theorem dX6_startFirstThatCan_40 : decode cX6_startFirstThatCan 40 = .ok (.putfield 149, 3) := by decide +kernel
theorem dX6_startFirstThatCan_43 : decode cX6_startFirstThatCan 43 = .ok (.aload_n 3, 1) := by decide +kernel
theorem dX6_startFirstThatCan_44 : decode cX6_startFirstThatCan 44 = .ok (.iconst 0, 1) := by decide +kernel
theorem dX6_startFirstThatCan_45 : decode cX6_startFirstThatCan 45 = .ok (.putfield 158, 3) := by decide +kernel
theorem dX6_startFirstThatCan_48 : decode cX6_startFirstThatCan 48 = .ok (.aload_n 3, 1) := by decide +kernel
theorem dX6_startFirstThatCan_49 : decode cX6_startFirstThatCan 49 = .ok (.getfield 179, 3) := by decide +kernel
theorem dX6_startFirstThatCan_52 : decode cX6_startFirstThatCan 52 = .ok (.iconst 2, 1) := by decide +kernel
theorem dX6_startFirstThatCan_53 : decode cX6_startFirstThatCan 53 = .ok (.dup2, 1) := by decide +kernel
theorem dX6_startFirstThatCan_54 : decode cX6_startFirstThatCan 54 = .ok (.iaload, 1) := by decide +kernel
theorem dX6_startFirstThatCan_55 : decode cX6_startFirstThatCan 55 = .ok (.iconst 1, 1) := by decide +kernel
theorem dX6_startFirstThatCan_56 : decode cX6_startFirstThatCan 56 = .ok (.iadd, 1) := by decide +kernel
theorem dX6_startFirstThatCan_57 : decode cX6_startFirstThatCan 57 = .ok (.iastore, 1) := by decide +kernel
theorem dX6_startFirstThatCan_58 : decode cX6_startFirstThatCan 58 = .ok (.aload_n 0, 1) := by decide +kernel
theorem dX6_startFirstThatCan_59 : decode cX6_startFirstThatCan 59 = .ok (.getfield 10, 3) := by decide +kernel
theorem dX6_startFirstThatCan_62 : decode cX6_startFirstThatCan 62 = .ok (.aload_n 3, 1) := by decide +kernel
theorem dX6_startFirstThatCan_63 : decode cX6_startFirstThatCan 63 = .ok (.iconst 1, 1) := by decide +kernel
theorem dX6_startFirstThatCan_64 : decode cX6_startFirstThatCan 64 = .ok (.invokevirtual 256, 3) := by decide +kernel
theorem dX6_startFirstThatCan_67 : decode cX6_startFirstThatCan 67 = .ok (.aload_n 0, 1) := by decide +kernel
theorem dX6_startFirstThatCan_68 : decode cX6_startFirstThatCan 68 = .ok (.iload_n 2, 1) := by decide +kernel
theorem dX6_startFirstThatCan_69 : decode cX6_startFirstThatCan 69 = .ok (.invokevirtual 286, 3) := by decide +kernel
theorem dX6_startFirstThatCan_72 : decode cX6_startFirstThatCan 72 = .ok (.iconst 1, 1) := by decide +kernel
theorem dX6_startFirstThatCan_73 : decode cX6_startFirstThatCan 73 = .ok (.ireturn, 1) := by decide +kernel
theorem dX6_startFirstThatCan_74 : decode cX6_startFirstThatCan 74 = .ok (.iinc 2 1, 3) := by decide +kernel
theorem dX6_startFirstThatCan_77 : decode cX6_startFirstThatCan 77 = .ok (.goto (-70), 3) := by decide +kernel
theorem dX6_startFirstThatCan_80 : decode cX6_startFirstThatCan 80 = .ok (.iconst 0, 1) := by decide +kernel
theorem dX6_startFirstThatCan_81 : decode cX6_startFirstThatCan 81 = .ok (.ireturn, 1) := by decide +kernel
theorem dX6_passOver_0 : decode cX6_passOver 0 = .ok (.iconst 0, 1) := by decide +kernel
theorem dX6_passOver_1 : decode cX6_passOver 1 = .ok (.istore_n 2, 1) := by decide +kernel
theorem dX6_passOver_2 : decode cX6_passOver 2 = .ok (.iload_n 2, 1) := by decide +kernel
theorem dX6_passOver_3 : decode cX6_passOver 3 = .ok (.iload_n 1, 1) := by decide +kernel
theorem dX6_passOver_4 : decode cX6_passOver 4 = .ok (.if_icmp .ge 33, 3) := by decide +kernel
theorem dX6_passOver_7 : decode cX6_passOver 7 = .ok (.aload_n 0, 1) := by decide +kernel
theorem dX6_passOver_8 : decode cX6_passOver 8 = .ok (.getfield 10, 3) := by decide +kernel
theorem dX6_passOver_11 : decode cX6_passOver 11 = .ok (.getfield 61, 3) := by decide +kernel
theorem dX6_passOver_14 : decode cX6_passOver 14 = .ok (.aload_n 0, 1) := by decide +kernel
theorem dX6_passOver_15 : decode cX6_passOver 15 = .ok (.getfield 40, 3) := by decide +kernel
theorem dX6_passOver_18 : decode cX6_passOver 18 = .ok (.iload_n 2, 1) := by decide +kernel
theorem dX6_passOver_19 : decode cX6_passOver 19 = .ok (.iaload, 1) := by decide +kernel
theorem dX6_passOver_20 : decode cX6_passOver 20 = .ok (.aaload, 1) := by decide +kernel
theorem dX6_passOver_21 : decode cX6_passOver 21 = .ok (.getfield 179, 3) := by decide +kernel
theorem dX6_passOver_24 : decode cX6_passOver 24 = .ok (.bipush 6, 2) := by decide +kernel
theorem dX6_passOver_26 : decode cX6_passOver 26 = .ok (.dup2, 1) := by decide +kernel
theorem dX6_passOver_27 : decode cX6_passOver 27 = .ok (.iaload, 1) := by decide +kernel
theorem dX6_passOver_28 : decode cX6_passOver 28 = .ok (.iconst 1, 1) := by decide +kernel
theorem dX6_passOver_29 : decode cX6_passOver 29 = .ok (.iadd, 1) := by decide +kernel
theorem dX6_passOver_30 : decode cX6_passOver 30 = .ok (.iastore, 1) := by decide +kernel
theorem dX6_passOver_31 : decode cX6_passOver 31 = .ok (.iinc 2 1, 3) := by decide +kernel
theorem dX6_passOver_34 : decode cX6_passOver 34 = .ok (.goto (-32), 3) := by decide +kernel
theorem dX6_passOver_37 : decode cX6_passOver 37 = .ok (.return_, 1) := by decide +kernel
theorem dX6_heatMotors_0 : decode cX6_heatMotors 0 = .ok (.iconst 0, 1) := by decide +kernel
theorem dX6_heatMotors_1 : decode cX6_heatMotors 1 = .ok (.istore_n 1, 1) := by decide +kernel
theorem dX6_heatMotors_2 : decode cX6_heatMotors 2 = .ok (.iload_n 1, 1) := by decide +kernel
theorem dX6_heatMotors_3 : decode cX6_heatMotors 3 = .ok (.aload_n 0, 1) := by decide +kernel
theorem dX6_heatMotors_4 : decode cX6_heatMotors 4 = .ok (.getfield 10, 3) := by decide +kernel
theorem dX6_heatMotors_7 : decode cX6_heatMotors 7 = .ok (.getfield 49, 3) := by decide +kernel
theorem dX6_heatMotors_10 : decode cX6_heatMotors 10 = .ok (.if_icmp .ge 46, 3) := by decide +kernel
theorem dX6_heatMotors_13 : decode cX6_heatMotors 13 = .ok (.aload_n 0, 1) := by decide +kernel
theorem dX6_heatMotors_14 : decode cX6_heatMotors 14 = .ok (.getfield 10, 3) := by decide +kernel
theorem dX6_heatMotors_17 : decode cX6_heatMotors 17 = .ok (.getfield 61, 3) := by decide +kernel
theorem dX6_heatMotors_20 : decode cX6_heatMotors 20 = .ok (.iload_n 1, 1) := by decide +kernel
theorem dX6_heatMotors_21 : decode cX6_heatMotors 21 = .ok (.aaload, 1) := by decide +kernel
theorem dX6_heatMotors_22 : decode cX6_heatMotors 22 = .ok (.astore_n 2, 1) := by decide +kernel
theorem dX6_heatMotors_23 : decode cX6_heatMotors 23 = .ok (.aload_n 2, 1) := by decide +kernel
theorem dX6_heatMotors_24 : decode cX6_heatMotors 24 = .ok (.invokevirtual 290, 3) := by decide +kernel
theorem dX6_heatMotors_27 : decode cX6_heatMotors 27 = .ok (.aload_n 2, 1) := by decide +kernel
theorem dX6_heatMotors_28 : decode cX6_heatMotors 28 = .ok (.aload_n 0, 1) := by decide +kernel
theorem dX6_heatMotors_29 : decode cX6_heatMotors 29 = .ok (.getfield 10, 3) := by decide +kernel
theorem dX6_heatMotors_32 : decode cX6_heatMotors 32 = .ok (.getfield 203, 3) := by decide +kernel
theorem dX6_heatMotors_35 : decode cX6_heatMotors 35 = .ok (.invokevirtual 293, 3) := by decide +kernel
theorem dX6_heatMotors_38 : decode cX6_heatMotors 38 = .ok (.aload_n 0, 1) := by decide +kernel
theorem dX6_heatMotors_39 : decode cX6_heatMotors 39 = .ok (.getfield 10, 3) := by decide +kernel
theorem dX6_heatMotors_42 : decode cX6_heatMotors 42 = .ok (.aload_n 2, 1) := by decide +kernel
theorem dX6_heatMotors_43 : decode cX6_heatMotors 43 = .ok (.aload_n 2, 1) := by decide +kernel
theorem dX6_heatMotors_44 : decode cX6_heatMotors 44 = .ok (.invokevirtual 297, 3) := by decide +kernel
theorem dX6_heatMotors_47 : decode cX6_heatMotors 47 = .ok (.invokevirtual 256, 3) := by decide +kernel
theorem dX6_heatMotors_50 : decode cX6_heatMotors 50 = .ok (.iinc 1 1, 3) := by decide +kernel
theorem dX6_heatMotors_53 : decode cX6_heatMotors 53 = .ok (.goto (-51), 3) := by decide +kernel
theorem dX6_heatMotors_56 : decode cX6_heatMotors 56 = .ok (.return_, 1) := by decide +kernel
theorem dX6_fillLine_0 : decode cX6_fillLine 0 = .ok (.iconst 0, 1) := by decide +kernel
theorem dX6_fillLine_1 : decode cX6_fillLine 1 = .ok (.istore_n 1, 1) := by decide +kernel
theorem dX6_fillLine_2 : decode cX6_fillLine 2 = .ok (.iconst 0, 1) := by decide +kernel
theorem dX6_fillLine_3 : decode cX6_fillLine 3 = .ok (.istore_n 2, 1) := by decide +kernel
theorem dX6_fillLine_4 : decode cX6_fillLine 4 = .ok (.iload_n 2, 1) := by decide +kernel
theorem dX6_fillLine_5 : decode cX6_fillLine 5 = .ok (.aload_n 0, 1) := by decide +kernel
theorem dX6_fillLine_6 : decode cX6_fillLine 6 = .ok (.getfield 10, 3) := by decide +kernel
theorem dX6_fillLine_9 : decode cX6_fillLine 9 = .ok (.getfield 49, 3) := by decide +kernel
theorem dX6_fillLine_12 : decode cX6_fillLine 12 = .ok (.if_icmp .ge 80, 3) := by decide +kernel
theorem dX6_fillLine_15 : decode cX6_fillLine 15 = .ok (.aload_n 0, 1) := by decide +kernel
theorem dX6_fillLine_16 : decode cX6_fillLine 16 = .ok (.getfield 10, 3) := by decide +kernel
theorem dX6_fillLine_19 : decode cX6_fillLine 19 = .ok (.getfield 61, 3) := by decide +kernel
theorem dX6_fillLine_22 : decode cX6_fillLine 22 = .ok (.iload_n 2, 1) := by decide +kernel
theorem dX6_fillLine_23 : decode cX6_fillLine 23 = .ok (.aaload, 1) := by decide +kernel
theorem dX6_fillLine_24 : decode cX6_fillLine 24 = .ok (.getfield 149, 3) := by decide +kernel
theorem dX6_fillLine_27 : decode cX6_fillLine 27 = .ok (.iconst 1, 1) := by decide +kernel
theorem dX6_fillLine_28 : decode cX6_fillLine 28 = .ok (.if_icmp .ne 58, 3) := by decide +kernel
theorem dX6_fillLine_31 : decode cX6_fillLine 31 = .ok (.iload_n 1, 1) := by decide +kernel
theorem dX6_fillLine_32 : decode cX6_fillLine 32 = .ok (.istore_n 3, 1) := by decide +kernel
theorem dX6_fillLine_33 : decode cX6_fillLine 33 = .ok (.iload_n 3, 1) := by decide +kernel
theorem dX6_fillLine_34 : decode cX6_fillLine 34 = .ok (.ifCond .le 42, 3) := by decide +kernel
theorem dX6_fillLine_37 : decode cX6_fillLine 37 = .ok (.aload_n 0, 1) := by decide +kernel
theorem dX6_fillLine_38 : decode cX6_fillLine 38 = .ok (.getfield 10, 3) := by decide +kernel
theorem dX6_fillLine_41 : decode cX6_fillLine 41 = .ok (.iload_n 2, 1) := by decide +kernel
theorem dX6_fillLine_42 : decode cX6_fillLine 42 = .ok (.aload_n 0, 1) := by decide +kernel
theorem dX6_fillLine_43 : decode cX6_fillLine 43 = .ok (.getfield 40, 3) := by decide +kernel
theorem dX6_fillLine_46 : decode cX6_fillLine 46 = .ok (.iload_n 3, 1) := by decide +kernel
theorem dX6_fillLine_47 : decode cX6_fillLine 47 = .ok (.iconst 1, 1) := by decide +kernel
theorem dX6_fillLine_48 : decode cX6_fillLine 48 = .ok (.isub, 1) := by decide +kernel
theorem dX6_fillLine_49 : decode cX6_fillLine 49 = .ok (.iaload, 1) := by decide +kernel
theorem dX6_fillLine_50 : decode cX6_fillLine 50 = .ok (.invokevirtual 300, 3) := by decide +kernel
theorem dX6_fillLine_53 : decode cX6_fillLine 53 = .ok (.ifCond .eq 23, 3) := by decide +kernel
theorem dX6_fillLine_56 : decode cX6_fillLine 56 = .ok (.aload_n 0, 1) := by decide +kernel
theorem dX6_fillLine_57 : decode cX6_fillLine 57 = .ok (.getfield 40, 3) := by decide +kernel
theorem dX6_fillLine_60 : decode cX6_fillLine 60 = .ok (.iload_n 3, 1) := by decide +kernel
theorem dX6_fillLine_61 : decode cX6_fillLine 61 = .ok (.aload_n 0, 1) := by decide +kernel
theorem dX6_fillLine_62 : decode cX6_fillLine 62 = .ok (.getfield 40, 3) := by decide +kernel
theorem dX6_fillLine_65 : decode cX6_fillLine 65 = .ok (.iload_n 3, 1) := by decide +kernel
theorem dX6_fillLine_66 : decode cX6_fillLine 66 = .ok (.iconst 1, 1) := by decide +kernel
theorem dX6_fillLine_67 : decode cX6_fillLine 67 = .ok (.isub, 1) := by decide +kernel
theorem dX6_fillLine_68 : decode cX6_fillLine 68 = .ok (.iaload, 1) := by decide +kernel
theorem dX6_fillLine_69 : decode cX6_fillLine 69 = .ok (.iastore, 1) := by decide +kernel
theorem dX6_fillLine_70 : decode cX6_fillLine 70 = .ok (.iinc 3 (-1), 3) := by decide +kernel
theorem dX6_fillLine_73 : decode cX6_fillLine 73 = .ok (.goto (-40), 3) := by decide +kernel
theorem dX6_fillLine_76 : decode cX6_fillLine 76 = .ok (.aload_n 0, 1) := by decide +kernel
theorem dX6_fillLine_77 : decode cX6_fillLine 77 = .ok (.getfield 40, 3) := by decide +kernel
theorem dX6_fillLine_80 : decode cX6_fillLine 80 = .ok (.iload_n 3, 1) := by decide +kernel
theorem dX6_fillLine_81 : decode cX6_fillLine 81 = .ok (.iload_n 2, 1) := by decide +kernel
theorem dX6_fillLine_82 : decode cX6_fillLine 82 = .ok (.iastore, 1) := by decide +kernel
theorem dX6_fillLine_83 : decode cX6_fillLine 83 = .ok (.iinc 1 1, 3) := by decide +kernel
theorem dX6_fillLine_86 : decode cX6_fillLine 86 = .ok (.iinc 2 1, 3) := by decide +kernel
theorem dX6_fillLine_89 : decode cX6_fillLine 89 = .ok (.goto (-85), 3) := by decide +kernel
theorem dX6_fillLine_92 : decode cX6_fillLine 92 = .ok (.iload_n 1, 1) := by decide +kernel
theorem dX6_fillLine_93 : decode cX6_fillLine 93 = .ok (.ireturn, 1) := by decide +kernel
theorem dX6_placeInLine_0 : decode cX6_placeInLine 0 = .ok (.aload_n 0, 1) := by decide +kernel
theorem dX6_placeInLine_1 : decode cX6_placeInLine 1 = .ok (.invokevirtual 182, 3) := by decide +kernel
theorem dX6_placeInLine_4 : decode cX6_placeInLine 4 = .ok (.istore_n 2, 1) := by decide +kernel
theorem dX6_placeInLine_5 : decode cX6_placeInLine 5 = .ok (.iconst 0, 1) := by decide +kernel
theorem dX6_placeInLine_6 : decode cX6_placeInLine 6 = .ok (.istore_n 3, 1) := by decide +kernel
theorem dX6_placeInLine_7 : decode cX6_placeInLine 7 = .ok (.iload_n 3, 1) := by decide +kernel
theorem dX6_placeInLine_8 : decode cX6_placeInLine 8 = .ok (.iload_n 2, 1) := by decide +kernel
theorem dX6_placeInLine_9 : decode cX6_placeInLine 9 = .ok (.if_icmp .ge 21, 3) := by decide +kernel
theorem dX6_placeInLine_12 : decode cX6_placeInLine 12 = .ok (.aload_n 0, 1) := by decide +kernel
theorem dX6_placeInLine_13 : decode cX6_placeInLine 13 = .ok (.getfield 40, 3) := by decide +kernel
theorem dX6_placeInLine_16 : decode cX6_placeInLine 16 = .ok (.iload_n 3, 1) := by decide +kernel
theorem dX6_placeInLine_17 : decode cX6_placeInLine 17 = .ok (.iaload, 1) := by decide +kernel
theorem dX6_placeInLine_18 : decode cX6_placeInLine 18 = .ok (.iload_n 1, 1) := by decide +kernel
theorem dX6_placeInLine_19 : decode cX6_placeInLine 19 = .ok (.if_icmp .ne 5, 3) := by decide +kernel
theorem dX6_placeInLine_22 : decode cX6_placeInLine 22 = .ok (.iload_n 3, 1) := by decide +kernel
theorem dX6_placeInLine_23 : decode cX6_placeInLine 23 = .ok (.ireturn, 1) := by decide +kernel
theorem dX6_placeInLine_24 : decode cX6_placeInLine 24 = .ok (.iinc 3 1, 3) := by decide +kernel
theorem dX6_placeInLine_27 : decode cX6_placeInLine 27 = .ok (.goto (-20), 3) := by decide +kernel
theorem dX6_placeInLine_30 : decode cX6_placeInLine 30 = .ok (.bipush (-4), 2) := by decide +kernel
theorem dX6_placeInLine_32 : decode cX6_placeInLine 32 = .ok (.ireturn, 1) := by decide +kernel
theorem dX6_isOutside_0 : decode cX6_isOutside 0 = .ok (.iload_n 0, 1) := by decide +kernel
theorem dX6_isOutside_1 : decode cX6_isOutside 1 = .ok (.iload_n 1, 1) := by decide +kernel
theorem dX6_isOutside_2 : decode cX6_isOutside 2 = .ok (.if_icmp .lt 8, 3) := by decide +kernel
theorem dX6_isOutside_5 : decode cX6_isOutside 5 = .ok (.iload_n 0, 1) := by decide +kernel
theorem dX6_isOutside_6 : decode cX6_isOutside 6 = .ok (.iload_n 2, 1) := by decide +kernel
theorem dX6_isOutside_7 : decode cX6_isOutside 7 = .ok (.if_icmp .le 7, 3) := by decide +kernel
theorem dX6_isOutside_10 : decode cX6_isOutside 10 = .ok (.iconst 1, 1) := by decide +kernel
theorem dX6_isOutside_11 : decode cX6_isOutside 11 = .ok (.goto 4, 3) := by decide +kernel
theorem dX6_isOutside_14 : decode cX6_isOutside 14 = .ok (.iconst 0, 1) := by decide +kernel
theorem dX6_isOutside_15 : decode cX6_isOutside 15 = .ok (.ireturn, 1) := by decide +kernel
theorem dX6_heatOf_0 : decode cX6_heatOf 0 = .ok (.iload_n 0, 1) := by decide +kernel
theorem dX6_heatOf_1 : decode cX6_heatOf 1 = .ok (.iload_n 0, 1) := by decide +kernel
theorem dX6_heatOf_2 : decode cX6_heatOf 2 = .ok (.imul, 1) := by decide +kernel
theorem dX6_heatOf_3 : decode cX6_heatOf 3 = .ok (.bipush 10, 2) := by decide +kernel
theorem dX6_heatOf_5 : decode cX6_heatOf 5 = .ok (.idiv, 1) := by decide +kernel
theorem dX6_heatOf_6 : decode cX6_heatOf 6 = .ok (.ireturn, 1) := by decide +kernel
theorem dX6_givenOff_0 : decode cX6_givenOff 0 = .ok (.iload_n 1, 1) := by decide +kernel
theorem dX6_givenOff_1 : decode cX6_givenOff 1 = .ok (.ifCond .eq 8, 3) := by decide +kernel
theorem dX6_givenOff_4 : decode cX6_givenOff 4 = .ok (.bipush 40, 2) := by decide +kernel
theorem dX6_givenOff_6 : decode cX6_givenOff 6 = .ok (.goto 5, 3) := by decide +kernel
theorem dX6_givenOff_9 : decode cX6_givenOff 9 = .ok (.bipush 20, 2) := by decide +kernel
theorem dX6_givenOff_11 : decode cX6_givenOff 11 = .ok (.iload_n 2, 1) := by decide +kernel
theorem dX6_givenOff_12 : decode cX6_givenOff 12 = .ok (.ifCond .eq 8, 3) := by decide +kernel
theorem dX6_givenOff_15 : decode cX6_givenOff 15 = .ok (.bipush 30, 2) := by decide +kernel
theorem dX6_givenOff_17 : decode cX6_givenOff 17 = .ok (.goto 4, 3) := by decide +kernel
theorem dX6_givenOff_20 : decode cX6_givenOff 20 = .ok (.iconst 0, 1) := by decide +kernel
theorem dX6_givenOff_21 : decode cX6_givenOff 21 = .ok (.iadd, 1) := by decide +kernel
theorem dX6_givenOff_22 : decode cX6_givenOff 22 = .ok (.istore_n 3, 1) := by decide +kernel
theorem dX6_givenOff_23 : decode cX6_givenOff 23 = .ok (.iload_n 0, 1) := by decide +kernel
theorem dX6_givenOff_24 : decode cX6_givenOff 24 = .ok (.iload_n 3, 1) := by decide +kernel
theorem dX6_givenOff_25 : decode cX6_givenOff 25 = .ok (.imul, 1) := by decide +kernel
theorem dX6_givenOff_26 : decode cX6_givenOff 26 = .ok (.sipush 1000, 3) := by decide +kernel
theorem dX6_givenOff_29 : decode cX6_givenOff 29 = .ok (.idiv, 1) := by decide +kernel
theorem dX6_givenOff_30 : decode cX6_givenOff 30 = .ok (.ireturn, 1) := by decide +kernel
theorem dX6_rampCurrent_0 : decode cX6_rampCurrent 0 = .ok (.iload_n 1, 1) := by decide +kernel
theorem dX6_rampCurrent_1 : decode cX6_rampCurrent 1 = .ok (.iconst 1, 1) := by decide +kernel
theorem dX6_rampCurrent_2 : decode cX6_rampCurrent 2 = .ok (.if_icmp .ge 7, 3) := by decide +kernel
theorem dX6_rampCurrent_5 : decode cX6_rampCurrent 5 = .ok (.iconst 0, 1) := by decide +kernel
theorem dX6_rampCurrent_6 : decode cX6_rampCurrent 6 = .ok (.goto 14, 3) := by decide +kernel
theorem dX6_rampCurrent_9 : decode cX6_rampCurrent 9 = .ok (.iload_n 0, 1) := by decide +kernel
theorem dX6_rampCurrent_10 : decode cX6_rampCurrent 10 = .ok (.iload_n 2, 1) := by decide +kernel
theorem dX6_rampCurrent_11 : decode cX6_rampCurrent 11 = .ok (.iconst 1, 1) := by decide +kernel
theorem dX6_rampCurrent_12 : decode cX6_rampCurrent 12 = .ok (.iadd, 1) := by decide +kernel
theorem dX6_rampCurrent_13 : decode cX6_rampCurrent 13 = .ok (.imul, 1) := by decide +kernel
theorem dX6_rampCurrent_14 : decode cX6_rampCurrent 14 = .ok (.iload_n 1, 1) := by decide +kernel
theorem dX6_rampCurrent_15 : decode cX6_rampCurrent 15 = .ok (.iadd, 1) := by decide +kernel
theorem dX6_rampCurrent_16 : decode cX6_rampCurrent 16 = .ok (.iconst 1, 1) := by decide +kernel
theorem dX6_rampCurrent_17 : decode cX6_rampCurrent 17 = .ok (.isub, 1) := by decide +kernel
theorem dX6_rampCurrent_18 : decode cX6_rampCurrent 18 = .ok (.iload_n 1, 1) := by decide +kernel
theorem dX6_rampCurrent_19 : decode cX6_rampCurrent 19 = .ok (.idiv, 1) := by decide +kernel
theorem dX6_rampCurrent_20 : decode cX6_rampCurrent 20 = .ok (.ireturn, 1) := by decide +kernel
theorem dX6_heatOfStart_0 : decode cX6_heatOfStart 0 = .ok (.iconst 0, 1) := by decide +kernel
theorem dX6_heatOfStart_1 : decode cX6_heatOfStart 1 = .ok (.istore_n 2, 1) := by decide +kernel
theorem dX6_heatOfStart_2 : decode cX6_heatOfStart 2 = .ok (.iconst 0, 1) := by decide +kernel
theorem dX6_heatOfStart_3 : decode cX6_heatOfStart 3 = .ok (.istore_n 3, 1) := by decide +kernel
theorem dX6_heatOfStart_4 : decode cX6_heatOfStart 4 = .ok (.iload_n 3, 1) := by decide +kernel
theorem dX6_heatOfStart_5 : decode cX6_heatOfStart 5 = .ok (.iload_n 1, 1) := by decide +kernel
theorem dX6_heatOfStart_6 : decode cX6_heatOfStart 6 = .ok (.if_icmp .ge 21, 3) := by decide +kernel
theorem dX6_heatOfStart_9 : decode cX6_heatOfStart 9 = .ok (.iload_n 2, 1) := by decide +kernel
theorem dX6_heatOfStart_10 : decode cX6_heatOfStart 10 = .ok (.iload_n 0, 1) := by decide +kernel
theorem dX6_heatOfStart_11 : decode cX6_heatOfStart 11 = .ok (.iload_n 1, 1) := by decide +kernel
theorem dX6_heatOfStart_12 : decode cX6_heatOfStart 12 = .ok (.iload_n 3, 1) := by decide +kernel
theorem dX6_heatOfStart_13 : decode cX6_heatOfStart 13 = .ok (.invokestatic 304, 3) := by decide +kernel
theorem dX6_heatOfStart_16 : decode cX6_heatOfStart 16 = .ok (.invokestatic 210, 3) := by decide +kernel
theorem dX6_heatOfStart_19 : decode cX6_heatOfStart 19 = .ok (.iadd, 1) := by decide +kernel
theorem dX6_heatOfStart_20 : decode cX6_heatOfStart 20 = .ok (.istore_n 2, 1) := by decide +kernel
theorem dX6_heatOfStart_21 : decode cX6_heatOfStart 21 = .ok (.iinc 3 1, 3) := by decide +kernel
theorem dX6_heatOfStart_24 : decode cX6_heatOfStart 24 = .ok (.goto (-20), 3) := by decide +kernel
theorem dX6_heatOfStart_27 : decode cX6_heatOfStart 27 = .ok (.iload_n 2, 1) := by decide +kernel
theorem dX6_heatOfStart_28 : decode cX6_heatOfStart 28 = .ok (.ireturn, 1) := by decide +kernel
