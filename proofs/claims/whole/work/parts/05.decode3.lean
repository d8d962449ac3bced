theorem dX7_init_0 : decode cX7_init 0 = .ok (.aload_n 0, 1) := by decide +kernel
theorem dX7_init_1 : decode cX7_init 1 = .ok (.invokespecial 1, 3) := by decide +kernel
theorem dX7_init_4 : decode cX7_init 4 = .ok (.aload_n 0, 1) := by decide +kernel
theorem dX7_init_5 : decode cX7_init 5 = .ok (.sipush 246, 3) := by decide +kernel
theorem dX7_init_8 : decode cX7_init 8 = .ok (.newarray .int, 2) := by decide +kernel
theorem dX7_init_10 : decode cX7_init 10 = .ok (.putfield 7, 3) := by decide +kernel
theorem dX7_init_13 : decode cX7_init 13 = .ok (.aload_n 0, 1) := by decide +kernel
theorem dX7_init_14 : decode cX7_init 14 = .ok (.sipush 984, 3) := by decide +kernel
theorem dX7_init_17 : decode cX7_init 17 = .ok (.newarray .int, 2) := by decide +kernel
theorem dX7_init_19 : decode cX7_init 19 = .ok (.putfield 13, 3) := by decide +kernel
theorem dX7_init_22 : decode cX7_init 22 = .ok (.aload_n 0, 1) := by decide +kernel
theorem dX7_init_23 : decode cX7_init 23 = .ok (.sipush 246, 3) := by decide +kernel
theorem dX7_init_26 : decode cX7_init 26 = .ok (.newarray .int, 2) := by decide +kernel
theorem dX7_init_28 : decode cX7_init 28 = .ok (.putfield 16, 3) := by decide +kernel
theorem dX7_init_31 : decode cX7_init 31 = .ok (.aload_n 0, 1) := by decide +kernel
theorem dX7_init_32 : decode cX7_init 32 = .ok (.bipush 80, 2) := by decide +kernel
theorem dX7_init_34 : decode cX7_init 34 = .ok (.newarray .char, 2) := by decide +kernel
theorem dX7_init_36 : decode cX7_init 36 = .ok (.putfield 19, 3) := by decide +kernel
theorem dX7_init_39 : decode cX7_init 39 = .ok (.aload_n 0, 1) := by decide +kernel
theorem dX7_init_40 : decode cX7_init 40 = .ok (.bipush 48, 2) := by decide +kernel
theorem dX7_init_42 : decode cX7_init 42 = .ok (.newarray .int, 2) := by decide +kernel
theorem dX7_init_44 : decode cX7_init 44 = .ok (.putfield 23, 3) := by decide +kernel
theorem dX7_init_47 : decode cX7_init 47 = .ok (.aload_n 0, 1) := by decide +kernel
theorem dX7_init_48 : decode cX7_init 48 = .ok (.getfield 7, 3) := by decide +kernel
theorem dX7_init_51 : decode cX7_init 51 = .ok (.iconst 2, 1) := by decide +kernel
theorem dX7_init_52 : decode cX7_init 52 = .ok (.sipush 500, 3) := by decide +kernel
theorem dX7_init_55 : decode cX7_init 55 = .ok (.iastore, 1) := by decide +kernel
theorem dX7_init_56 : decode cX7_init 56 = .ok (.return_, 1) := by decide +kernel
theorem dX7_in_0 : decode cX7_in 0 = .ok (.iload_n 0, 1) := by decide +kernel
theorem dX7_in_1 : decode cX7_in 1 = .ok (.iload_n 1, 1) := by decide +kernel
theorem dX7_in_2 : decode cX7_in 2 = .ok (.if_icmp .lt 12, 3) := by decide +kernel
theorem dX7_in_5 : decode cX7_in 5 = .ok (.iload_n 0, 1) := by decide +kernel
theorem dX7_in_6 : decode cX7_in 6 = .ok (.iload_n 2, 1) := by decide +kernel
theorem dX7_in_7 : decode cX7_in 7 = .ok (.if_icmp .gt 7, 3) := by decide +kernel
theorem dX7_in_10 : decode cX7_in 10 = .ok (.iconst 1, 1) := by decide +kernel
theorem dX7_in_11 : decode cX7_in 11 = .ok (.goto 4, 3) := by decide +kernel
theorem dX7_in_14 : decode cX7_in 14 = .ok (.iconst 0, 1) := by decide +kernel
theorem dX7_in_15 : decode cX7_in 15 = .ok (.ireturn, 1) := by decide +kernel
theorem dX7_record_0 : decode cX7_record 0 = .ok (.aload_n 0, 1) := by decide +kernel
theorem dX7_record_1 : decode cX7_record 1 = .ok (.getfield 26, 3) := by decide +kernel
theorem dX7_record_4 : decode cX7_record 4 = .ok (.iconst 4, 1) := by decide +kernel
theorem dX7_record_5 : decode cX7_record 5 = .ok (.if_icmp .ne 44, 3) := by decide +kernel
theorem dX7_record_8 : decode cX7_record 8 = .ok (.iconst 0, 1) := by decide +kernel
theorem dX7_record_9 : decode cX7_record 9 = .ok (.istore_n 1, 1) := by decide +kernel
theorem dX7_record_10 : decode cX7_record 10 = .ok (.iload_n 1, 1) := by decide +kernel
theorem dX7_record_11 : decode cX7_record 11 = .ok (.sipush 738, 3) := by decide +kernel
theorem dX7_record_14 : decode cX7_record 14 = .ok (.if_icmp .ge 25, 3) := by decide +kernel
theorem dX7_record_17 : decode cX7_record 17 = .ok (.aload_n 0, 1) := by decide +kernel
theorem dX7_record_18 : decode cX7_record 18 = .ok (.getfield 13, 3) := by decide +kernel
theorem dX7_record_21 : decode cX7_record 21 = .ok (.iload_n 1, 1) := by decide +kernel
theorem dX7_record_22 : decode cX7_record 22 = .ok (.aload_n 0, 1) := by decide +kernel
theorem dX7_record_23 : decode cX7_record 23 = .ok (.getfield 13, 3) := by decide +kernel
theorem dX7_record_26 : decode cX7_record 26 = .ok (.iload_n 1, 1) := by decide +kernel
theorem dX7_record_27 : decode cX7_record 27 = .ok (.sipush 246, 3) := by decide +kernel
theorem dX7_record_30 : decode cX7_record 30 = .ok (.iadd, 1) := by decide +kernel
theorem dX7_record_31 : decode cX7_record 31 = .ok (.iaload, 1) := by decide +kernel
theorem dX7_record_32 : decode cX7_record 32 = .ok (.iastore, 1) := by decide +kernel
theorem dX7_record_33 : decode cX7_record 33 = .ok (.iinc 1 1, 3) := by decide +kernel
theorem dX7_record_36 : decode cX7_record 36 = .ok (.goto (-26), 3) := by decide +kernel
theorem dX7_record_39 : decode cX7_record 39 = .ok (.aload_n 0, 1) := by decide +kernel
theorem dX7_record_40 : decode cX7_record 40 = .ok (.dup, 1) := by decide +kernel
theorem dX7_record_41 : decode cX7_record 41 = .ok (.getfield 26, 3) := by decide +kernel
theorem dX7_record_44 : decode cX7_record 44 = .ok (.iconst 1, 1) := by decide +kernel
theorem dX7_record_45 : decode cX7_record 45 = .ok (.isub, 1) := by decide +kernel
theorem dX7_record_46 : decode cX7_record 46 = .ok (.putfield 26, 3) := by decide +kernel
theorem dX7_record_49 : decode cX7_record 49 = .ok (.iconst 0, 1) := by decide +kernel
theorem dX7_record_50 : decode cX7_record 50 = .ok (.istore_n 1, 1) := by decide +kernel
theorem dX7_record_51 : decode cX7_record 51 = .ok (.iload_n 1, 1) := by decide +kernel
theorem dX7_record_52 : decode cX7_record 52 = .ok (.sipush 246, 3) := by decide +kernel
theorem dX7_record_55 : decode cX7_record 55 = .ok (.if_icmp .ge 30, 3) := by decide +kernel
theorem dX7_record_58 : decode cX7_record 58 = .ok (.aload_n 0, 1) := by decide +kernel
theorem dX7_record_59 : decode cX7_record 59 = .ok (.getfield 13, 3) := by decide +kernel
theorem dX7_record_62 : decode cX7_record 62 = .ok (.sipush 246, 3) := by decide +kernel
theorem dX7_record_65 : decode cX7_record 65 = .ok (.aload_n 0, 1) := by decide +kernel
theorem dX7_record_66 : decode cX7_record 66 = .ok (.getfield 26, 3) := by decide +kernel
theorem dX7_record_69 : decode cX7_record 69 = .ok (.imul, 1) := by decide +kernel
theorem dX7_record_70 : decode cX7_record 70 = .ok (.iload_n 1, 1) := by decide +kernel
theorem dX7_record_71 : decode cX7_record 71 = .ok (.iadd, 1) := by decide +kernel
theorem dX7_record_72 : decode cX7_record 72 = .ok (.aload_n 0, 1) := by decide +kernel
theorem dX7_record_73 : decode cX7_record 73 = .ok (.getfield 7, 3) := by decide +kernel
theorem dX7_record_76 : decode cX7_record 76 = .ok (.iload_n 1, 1) := by decide +kernel
theorem dX7_record_77 : decode cX7_record 77 = .ok (.iaload, 1) := by decide +kernel
theorem dX7_record_78 : decode cX7_record 78 = .ok (.iastore, 1) := by decide +kernel
theorem dX7_record_79 : decode cX7_record 79 = .ok (.iinc 1 1, 3) := by decide +kernel
theorem dX7_record_82 : decode cX7_record 82 = .ok (.goto (-31), 3) := by decide +kernel
theorem dX7_record_85 : decode cX7_record 85 = .ok (.aload_n 0, 1) := by decide +kernel
theorem dX7_record_86 : decode cX7_record 86 = .ok (.dup, 1) := by decide +kernel
theorem dX7_record_87 : decode cX7_record 87 = .ok (.getfield 26, 3) := by decide +kernel
theorem dX7_record_90 : decode cX7_record 90 = .ok (.iconst 1, 1) := by decide +kernel
theorem dX7_record_91 : decode cX7_record 91 = .ok (.iadd, 1) := by decide +kernel
theorem dX7_record_92 : decode cX7_record 92 = .ok (.putfield 26, 3) := by decide +kernel
theorem dX7_record_95 : decode cX7_record 95 = .ok (.return_, 1) := by decide +kernel
theorem dX7_refuse_0 : decode cX7_refuse 0 = .ok (.aload_n 0, 1) := by decide +kernel
theorem dX7_refuse_1 : decode cX7_refuse 1 = .ok (.iload_n 1, 1) := by decide +kernel
theorem dX7_refuse_2 : decode cX7_refuse 2 = .ok (.putfield 30, 3) := by decide +kernel
theorem dX7_refuse_5 : decode cX7_refuse 5 = .ok (.bipush (-3), 2) := by decide +kernel
theorem dX7_refuse_7 : decode cX7_refuse 7 = .ok (.ireturn, 1) := by decide +kernel
theorem dX7_noMotor_0 : decode cX7_noMotor 0 = .ok (.iload_n 1, 1) := by decide +kernel
theorem dX7_noMotor_1 : decode cX7_noMotor 1 = .ok (.iconst 0, 1) := by decide +kernel
theorem dX7_noMotor_2 : decode cX7_noMotor 2 = .ok (.aload_n 0, 1) := by decide +kernel
theorem dX7_noMotor_3 : decode cX7_noMotor 3 = .ok (.getfield 7, 3) := by decide +kernel
theorem dX7_noMotor_6 : decode cX7_noMotor 6 = .ok (.iconst 0, 1) := by decide +kernel
theorem dX7_noMotor_7 : decode cX7_noMotor 7 = .ok (.iaload, 1) := by decide +kernel
theorem dX7_noMotor_8 : decode cX7_noMotor 8 = .ok (.iconst 1, 1) := by decide +kernel
theorem dX7_noMotor_9 : decode cX7_noMotor 9 = .ok (.isub, 1) := by decide +kernel
theorem dX7_noMotor_10 : decode cX7_noMotor 10 = .ok (.invokestatic 33, 3) := by decide +kernel
theorem dX7_noMotor_13 : decode cX7_noMotor 13 = .ok (.ifCond .ne 7, 3) := by decide +kernel
theorem dX7_noMotor_16 : decode cX7_noMotor 16 = .ok (.iconst 1, 1) := by decide +kernel
theorem dX7_noMotor_17 : decode cX7_noMotor 17 = .ok (.goto 4, 3) := by decide +kernel
theorem dX7_noMotor_20 : decode cX7_noMotor 20 = .ok (.iconst 0, 1) := by decide +kernel
theorem dX7_noMotor_21 : decode cX7_noMotor 21 = .ok (.ireturn, 1) := by decide +kernel
theorem dX7_of_0 : decode cX7_of 0 = .ok (.aload_n 0, 1) := by decide +kernel
theorem dX7_of_1 : decode cX7_of 1 = .ok (.getfield 7, 3) := by decide +kernel
theorem dX7_of_4 : decode cX7_of 4 = .ok (.bipush 8, 2) := by decide +kernel
theorem dX7_of_6 : decode cX7_of 6 = .ok (.bipush 20, 2) := by decide +kernel
theorem dX7_of_8 : decode cX7_of 8 = .ok (.iload_n 1, 1) := by decide +kernel
theorem dX7_of_9 : decode cX7_of 9 = .ok (.imul, 1) := by decide +kernel
theorem dX7_of_10 : decode cX7_of 10 = .ok (.iadd, 1) := by decide +kernel
theorem dX7_of_11 : decode cX7_of 11 = .ok (.iload_n 2, 1) := by decide +kernel
theorem dX7_of_12 : decode cX7_of 12 = .ok (.iadd, 1) := by decide +kernel
theorem dX7_of_13 : decode cX7_of 13 = .ok (.iaload, 1) := by decide +kernel
theorem dX7_of_14 : decode cX7_of 14 = .ok (.ireturn, 1) := by decide +kernel
theorem dX7_put_0 : decode cX7_put 0 = .ok (.aload_n 0, 1) := by decide +kernel
theorem dX7_put_1 : decode cX7_put 1 = .ok (.getfield 7, 3) := by decide +kernel
theorem dX7_put_4 : decode cX7_put 4 = .ok (.bipush 8, 2) := by decide +kernel
theorem dX7_put_6 : decode cX7_put 6 = .ok (.bipush 20, 2) := by decide +kernel
theorem dX7_put_8 : decode cX7_put 8 = .ok (.iload_n 1, 1) := by decide +kernel
theorem dX7_put_9 : decode cX7_put 9 = .ok (.imul, 1) := by decide +kernel
theorem dX7_put_10 : decode cX7_put 10 = .ok (.iadd, 1) := by decide +kernel
theorem dX7_put_11 : decode cX7_put 11 = .ok (.iload_n 2, 1) := by decide +kernel
theorem dX7_put_12 : decode cX7_put 12 = .ok (.iadd, 1) := by decide +kernel
theorem dX7_put_13 : decode cX7_put 13 = .ok (.iload_n 3, 1) := by decide +kernel
theorem dX7_put_14 : decode cX7_put 14 = .ok (.iastore, 1) := by decide +kernel
theorem dX7_put_15 : decode cX7_put 15 = .ok (.return_, 1) := by decide +kernel
theorem dX7_more_0 : decode cX7_more 0 = .ok (.aload_n 0, 1) := by decide +kernel
theorem dX7_more_1 : decode cX7_more 1 = .ok (.getfield 7, 3) := by decide +kernel
theorem dX7_more_4 : decode cX7_more 4 = .ok (.bipush 8, 2) := by decide +kernel
theorem dX7_more_6 : decode cX7_more 6 = .ok (.bipush 20, 2) := by decide +kernel
theorem dX7_more_8 : decode cX7_more 8 = .ok (.iload_n 1, 1) := by decide +kernel
theorem dX7_more_9 : decode cX7_more 9 = .ok (.imul, 1) := by decide +kernel
theorem dX7_more_10 : decode cX7_more 10 = .ok (.iadd, 1) := by decide +kernel
theorem dX7_more_11 : decode cX7_more 11 = .ok (.iload_n 2, 1) := by decide +kernel
theorem dX7_more_12 : decode cX7_more 12 = .ok (.iadd, 1) := by decide +kernel
theorem dX7_more_13 : decode cX7_more 13 = .ok (.dup2, 1) := by decide +kernel
theorem dX7_more_14 : decode cX7_more 14 = .ok (.iaload, 1) := by decide +kernel
theorem dX7_more_15 : decode cX7_more 15 = .ok (.iload_n 3, 1) := by decide +kernel
theorem dX7_more_16 : decode cX7_more 16 = .ok (.iadd, 1) := by decide +kernel
theorem dX7_more_17 : decode cX7_more 17 = .ok (.iastore, 1) := by decide +kernel
theorem dX7_more_18 : decode cX7_more 18 = .ok (.return_, 1) := by decide +kernel
theorem dX7_addMotor_0 : decode cX7_addMotor 0 = .ok (.iload_n 1, 1) := by decide +kernel
theorem dX7_addMotor_1 : decode cX7_addMotor 1 = .ok (.iconst 1, 1) := by decide +kernel
theorem dX7_addMotor_2 : decode cX7_addMotor 2 = .ok (.bipush 100, 2) := by decide +kernel
theorem dX7_addMotor_4 : decode cX7_addMotor 4 = .ok (.invokestatic 33, 3) := by decide +kernel
theorem dX7_addMotor_7 : decode cX7_addMotor 7 = .ok (.ifCond .eq 35, 3) := by decide +kernel
theorem dX7_addMotor_10 : decode cX7_addMotor 10 = .ok (.iload_n 2, 1) := by decide +kernel
theorem dX7_addMotor_11 : decode cX7_addMotor 11 = .ok (.iconst 2, 1) := by decide +kernel
theorem dX7_addMotor_12 : decode cX7_addMotor 12 = .ok (.bipush 30, 2) := by decide +kernel
theorem dX7_addMotor_14 : decode cX7_addMotor 14 = .ok (.invokestatic 33, 3) := by decide +kernel
theorem dX7_addMotor_17 : decode cX7_addMotor 17 = .ok (.ifCond .eq 25, 3) := by decide +kernel
theorem dX7_addMotor_20 : decode cX7_addMotor 20 = .ok (.iload_n 3, 1) := by decide +kernel
theorem dX7_addMotor_21 : decode cX7_addMotor 21 = .ok (.iconst 2, 1) := by decide +kernel
theorem dX7_addMotor_22 : decode cX7_addMotor 22 = .ok (.bipush 6, 2) := by decide +kernel
theorem dX7_addMotor_24 : decode cX7_addMotor 24 = .ok (.invokestatic 33, 3) := by decide +kernel
theorem dX7_addMotor_27 : decode cX7_addMotor 27 = .ok (.ifCond .eq 15, 3) := by decide +kernel
theorem dX7_addMotor_30 : decode cX7_addMotor 30 = .ok (.iload 4, 2) := by decide +kernel
theorem dX7_addMotor_32 : decode cX7_addMotor 32 = .ok (.bipush 100, 2) := by decide +kernel
theorem dX7_addMotor_34 : decode cX7_addMotor 34 = .ok (.ldc 37, 2) := by decide +kernel
theorem dX7_addMotor_36 : decode cX7_addMotor 36 = .ok (.invokestatic 33, 3) := by decide +kernel
theorem dX7_addMotor_39 : decode cX7_addMotor 39 = .ok (.ifCond .ne 6, 3) := by decide +kernel
theorem dX7_addMotor_42 : decode cX7_addMotor 42 = .ok (.bipush (-2), 2) := by decide +kernel
theorem dX7_addMotor_44 : decode cX7_addMotor 44 = .ok (.ireturn, 1) := by decide +kernel
theorem dX7_addMotor_45 : decode cX7_addMotor 45 = .ok (.aload_n 0, 1) := by decide +kernel
theorem dX7_addMotor_46 : decode cX7_addMotor 46 = .ok (.getfield 7, 3) := by decide +kernel
theorem dX7_addMotor_49 : decode cX7_addMotor 49 = .ok (.iconst 0, 1) := by decide +kernel
theorem dX7_addMotor_50 : decode cX7_addMotor 50 = .ok (.iaload, 1) := by decide +kernel
theorem dX7_addMotor_51 : decode cX7_addMotor 51 = .ok (.bipush 8, 2) := by decide +kernel
theorem dX7_addMotor_53 : decode cX7_addMotor 53 = .ok (.if_icmp .ne 9, 3) := by decide +kernel
theorem dX7_addMotor_56 : decode cX7_addMotor 56 = .ok (.aload_n 0, 1) := by decide +kernel
theorem dX7_addMotor_57 : decode cX7_addMotor 57 = .ok (.iconst 5, 1) := by decide +kernel
theorem dX7_addMotor_58 : decode cX7_addMotor 58 = .ok (.invokevirtual 38, 3) := by decide +kernel
theorem dX7_addMotor_61 : decode cX7_addMotor 61 = .ok (.ireturn, 1) := by decide +kernel
theorem dX7_addMotor_62 : decode cX7_addMotor 62 = .ok (.aload_n 0, 1) := by decide +kernel
theorem dX7_addMotor_63 : decode cX7_addMotor 63 = .ok (.invokevirtual 42, 3) := by decide +kernel
theorem dX7_addMotor_66 : decode cX7_addMotor 66 = .ok (.aload_n 0, 1) := by decide +kernel
theorem dX7_addMotor_67 : decode cX7_addMotor 67 = .ok (.getfield 7, 3) := by decide +kernel
theorem dX7_addMotor_70 : decode cX7_addMotor 70 = .ok (.iconst 0, 1) := by decide +kernel
theorem dX7_addMotor_71 : decode cX7_addMotor 71 = .ok (.iaload, 1) := by decide +kernel
theorem dX7_addMotor_72 : decode cX7_addMotor 72 = .ok (.istore 5, 2) := by decide +kernel
theorem dX7_addMotor_74 : decode cX7_addMotor 74 = .ok (.aload_n 0, 1) := by decide +kernel
theorem dX7_addMotor_75 : decode cX7_addMotor 75 = .ok (.getfield 7, 3) := by decide +kernel
theorem dX7_addMotor_78 : decode cX7_addMotor 78 = .ok (.iconst 0, 1) := by decide +kernel
theorem dX7_addMotor_79 : decode cX7_addMotor 79 = .ok (.dup2, 1) := by decide +kernel
theorem dX7_addMotor_80 : decode cX7_addMotor 80 = .ok (.iaload, 1) := by decide +kernel
theorem dX7_addMotor_81 : decode cX7_addMotor 81 = .ok (.iconst 1, 1) := by decide +kernel
theorem dX7_addMotor_82 : decode cX7_addMotor 82 = .ok (.iadd, 1) := by decide +kernel
theorem dX7_addMotor_83 : decode cX7_addMotor 83 = .ok (.iastore, 1) := by decide +kernel
theorem dX7_addMotor_84 : decode cX7_addMotor 84 = .ok (.iconst 0, 1) := by decide +kernel
theorem dX7_addMotor_85 : decode cX7_addMotor 85 = .ok (.istore 6, 2) := by decide +kernel
theorem dX7_addMotor_87 : decode cX7_addMotor 87 = .ok (.iload 6, 2) := by decide +kernel
theorem dX7_addMotor_89 : decode cX7_addMotor 89 = .ok (.bipush 20, 2) := by decide +kernel
theorem dX7_addMotor_91 : decode cX7_addMotor 91 = .ok (.if_icmp .ge 18, 3) := by decide +kernel
theorem dX7_addMotor_94 : decode cX7_addMotor 94 = .ok (.aload_n 0, 1) := by decide +kernel
theorem dX7_addMotor_95 : decode cX7_addMotor 95 = .ok (.iload 5, 2) := by decide +kernel
theorem dX7_addMotor_97 : decode cX7_addMotor 97 = .ok (.iload 6, 2) := by decide +kernel
theorem dX7_addMotor_99 : decode cX7_addMotor 99 = .ok (.iconst 0, 1) := by decide +kernel
theorem dX7_addMotor_100 : decode cX7_addMotor 100 = .ok (.invokevirtual 45, 3) := by decide +kernel
theorem dX7_addMotor_103 : decode cX7_addMotor 103 = .ok (.iinc 6 1, 3) := by decide +kernel
theorem dX7_addMotor_106 : decode cX7_addMotor 106 = .ok (.goto (-19), 3) := by decide +kernel
theorem dX7_addMotor_109 : decode cX7_addMotor 109 = .ok (.aload_n 0, 1) := by decide +kernel
theorem dX7_addMotor_110 : decode cX7_addMotor 110 = .ok (.iload 5, 2) := by decide +kernel
theorem dX7_addMotor_112 : decode cX7_addMotor 112 = .ok (.iconst 0, 1) := by decide +kernel
theorem dX7_addMotor_113 : decode cX7_addMotor 113 = .ok (.iload_n 1, 1) := by decide +kernel
theorem dX7_addMotor_114 : decode cX7_addMotor 114 = .ok (.invokevirtual 45, 3) := by decide +kernel
theorem dX7_addMotor_117 : decode cX7_addMotor 117 = .ok (.aload_n 0, 1) := by decide +kernel
theorem dX7_addMotor_118 : decode cX7_addMotor 118 = .ok (.iload 5, 2) := by decide +kernel
theorem dX7_addMotor_120 : decode cX7_addMotor 120 = .ok (.iconst 1, 1) := by decide +kernel
theorem dX7_addMotor_121 : decode cX7_addMotor 121 = .ok (.iload_n 2, 1) := by decide +kernel
theorem dX7_addMotor_122 : decode cX7_addMotor 122 = .ok (.invokevirtual 45, 3) := by decide +kernel
theorem dX7_addMotor_125 : decode cX7_addMotor 125 = .ok (.aload_n 0, 1) := by decide +kernel
theorem dX7_addMotor_126 : decode cX7_addMotor 126 = .ok (.iload 5, 2) := by decide +kernel
theorem dX7_addMotor_128 : decode cX7_addMotor 128 = .ok (.iconst 2, 1) := by decide +kernel
theorem dX7_addMotor_129 : decode cX7_addMotor 129 = .ok (.iload_n 3, 1) := by decide +kernel
theorem dX7_addMotor_130 : decode cX7_addMotor 130 = .ok (.invokevirtual 45, 3) := by decide +kernel
theorem dX7_addMotor_133 : decode cX7_addMotor 133 = .ok (.aload_n 0, 1) := by decide +kernel
theorem dX7_addMotor_134 : decode cX7_addMotor 134 = .ok (.iload 5, 2) := by decide +kernel
theorem dX7_addMotor_136 : decode cX7_addMotor 136 = .ok (.iconst 3, 1) := by decide +kernel
theorem dX7_addMotor_137 : decode cX7_addMotor 137 = .ok (.iload 4, 2) := by decide +kernel
theorem dX7_addMotor_139 : decode cX7_addMotor 139 = .ok (.invokevirtual 45, 3) := by decide +kernel
theorem dX7_addMotor_142 : decode cX7_addMotor 142 = .ok (.aload_n 0, 1) := by decide +kernel
theorem dX7_addMotor_143 : decode cX7_addMotor 143 = .ok (.iload 5, 2) := by decide +kernel
theorem dX7_addMotor_145 : decode cX7_addMotor 145 = .ok (.iconst 4, 1) := by decide +kernel
theorem dX7_addMotor_146 : decode cX7_addMotor 146 = .ok (.iconst 5, 1) := by decide +kernel
theorem dX7_addMotor_147 : decode cX7_addMotor 147 = .ok (.invokevirtual 45, 3) := by decide +kernel
theorem dX7_addMotor_150 : decode cX7_addMotor 150 = .ok (.iload 5, 2) := by decide +kernel
theorem dX7_addMotor_152 : decode cX7_addMotor 152 = .ok (.ireturn, 1) := by decide +kernel
theorem dX7_setNeed_0 : decode cX7_setNeed 0 = .ok (.aload_n 0, 1) := by decide +kernel
theorem dX7_setNeed_1 : decode cX7_setNeed 1 = .ok (.iload_n 1, 1) := by decide +kernel
theorem dX7_setNeed_2 : decode cX7_setNeed 2 = .ok (.invokevirtual 49, 3) := by decide +kernel
theorem dX7_setNeed_5 : decode cX7_setNeed 5 = .ok (.ifCond .eq 5, 3) := by decide +kernel
theorem dX7_setNeed_8 : decode cX7_setNeed 8 = .ok (.iconst (-1), 1) := by decide +kernel
theorem dX7_setNeed_9 : decode cX7_setNeed 9 = .ok (.ireturn, 1) := by decide +kernel
theorem dX7_setNeed_10 : decode cX7_setNeed 10 = .ok (.iload_n 2, 1) := by decide +kernel
theorem dX7_setNeed_11 : decode cX7_setNeed 11 = .ok (.iconst 0, 1) := by decide +kernel
theorem dX7_setNeed_12 : decode cX7_setNeed 12 = .ok (.bipush 9, 2) := by decide +kernel
theorem dX7_setNeed_14 : decode cX7_setNeed 14 = .ok (.invokestatic 33, 3) := by decide +kernel
theorem dX7_setNeed_17 : decode cX7_setNeed 17 = .ok (.ifCond .ne 6, 3) := by decide +kernel
theorem dX7_setNeed_20 : decode cX7_setNeed 20 = .ok (.bipush (-2), 2) := by decide +kernel
theorem dX7_setNeed_22 : decode cX7_setNeed 22 = .ok (.ireturn, 1) := by decide +kernel
theorem dX7_setNeed_23 : decode cX7_setNeed 23 = .ok (.aload_n 0, 1) := by decide +kernel
theorem dX7_setNeed_24 : decode cX7_setNeed 24 = .ok (.iload_n 1, 1) := by decide +kernel
theorem dX7_setNeed_25 : decode cX7_setNeed 25 = .ok (.iconst 4, 1) := by decide +kernel
theorem dX7_setNeed_26 : decode cX7_setNeed 26 = .ok (.invokevirtual 53, 3) := by decide +kernel
theorem dX7_setNeed_29 : decode cX7_setNeed 29 = .ok (.istore_n 3, 1) := by decide +kernel
theorem dX7_setNeed_30 : decode cX7_setNeed 30 = .ok (.iload_n 3, 1) := by decide +kernel
theorem dX7_setNeed_31 : decode cX7_setNeed 31 = .ok (.iload_n 2, 1) := by decide +kernel
theorem dX7_setNeed_32 : decode cX7_setNeed 32 = .ok (.if_icmp .ne 6, 3) := by decide +kernel
theorem dX7_setNeed_35 : decode cX7_setNeed 35 = .ok (.bipush (-4), 2) := by decide +kernel
theorem dX7_setNeed_37 : decode cX7_setNeed 37 = .ok (.ireturn, 1) := by decide +kernel
theorem dX7_setNeed_38 : decode cX7_setNeed 38 = .ok (.aload_n 0, 1) := by decide +kernel
theorem dX7_setNeed_39 : decode cX7_setNeed 39 = .ok (.invokevirtual 42, 3) := by decide +kernel
theorem dX7_setNeed_42 : decode cX7_setNeed 42 = .ok (.aload_n 0, 1) := by decide +kernel
theorem dX7_setNeed_43 : decode cX7_setNeed 43 = .ok (.iload_n 1, 1) := by decide +kernel
theorem dX7_setNeed_44 : decode cX7_setNeed 44 = .ok (.iconst 4, 1) := by decide +kernel
theorem dX7_setNeed_45 : decode cX7_setNeed 45 = .ok (.iload_n 2, 1) := by decide +kernel
theorem dX7_setNeed_46 : decode cX7_setNeed 46 = .ok (.invokevirtual 45, 3) := by decide +kernel
theorem dX7_setNeed_49 : decode cX7_setNeed 49 = .ok (.iload_n 3, 1) := by decide +kernel
theorem dX7_setNeed_50 : decode cX7_setNeed 50 = .ok (.ireturn, 1) := by decide +kernel
theorem dX7_setLimit_0 : decode cX7_setLimit 0 = .ok (.iload_n 1, 1) := by decide +kernel
theorem dX7_setLimit_1 : decode cX7_setLimit 1 = .ok (.bipush 10, 2) := by decide +kernel
theorem dX7_setLimit_3 : decode cX7_setLimit 3 = .ok (.sipush 2000, 3) := by decide +kernel
theorem dX7_setLimit_6 : decode cX7_setLimit 6 = .ok (.invokestatic 33, 3) := by decide +kernel
theorem dX7_setLimit_9 : decode cX7_setLimit 9 = .ok (.ifCond .ne 6, 3) := by decide +kernel
theorem dX7_setLimit_12 : decode cX7_setLimit 12 = .ok (.bipush (-2), 2) := by decide +kernel
theorem dX7_setLimit_14 : decode cX7_setLimit 14 = .ok (.ireturn, 1) := by decide +kernel
theorem dX7_setLimit_15 : decode cX7_setLimit 15 = .ok (.aload_n 0, 1) := by decide +kernel
theorem dX7_setLimit_16 : decode cX7_setLimit 16 = .ok (.getfield 7, 3) := by decide +kernel
theorem dX7_setLimit_19 : decode cX7_setLimit 19 = .ok (.iconst 2, 1) := by decide +kernel
theorem dX7_setLimit_20 : decode cX7_setLimit 20 = .ok (.iaload, 1) := by decide +kernel
theorem dX7_setLimit_21 : decode cX7_setLimit 21 = .ok (.istore_n 2, 1) := by decide +kernel
theorem dX7_setLimit_22 : decode cX7_setLimit 22 = .ok (.iload_n 2, 1) := by decide +kernel
theorem dX7_setLimit_23 : decode cX7_setLimit 23 = .ok (.iload_n 1, 1) := by decide +kernel
theorem dX7_setLimit_24 : decode cX7_setLimit 24 = .ok (.if_icmp .ne 6, 3) := by decide +kernel
theorem dX7_setLimit_27 : decode cX7_setLimit 27 = .ok (.bipush (-4), 2) := by decide +kernel
theorem dX7_setLimit_29 : decode cX7_setLimit 29 = .ok (.ireturn, 1) := by decide +kernel
theorem dX7_setLimit_30 : decode cX7_setLimit 30 = .ok (.aload_n 0, 1) := by decide +kernel
theorem dX7_setLimit_31 : decode cX7_setLimit 31 = .ok (.invokevirtual 42, 3) := by decide +kernel
theorem dX7_setLimit_34 : decode cX7_setLimit 34 = .ok (.aload_n 0, 1) := by decide +kernel
theorem dX7_setLimit_35 : decode cX7_setLimit 35 = .ok (.getfield 7, 3) := by decide +kernel
theorem dX7_setLimit_38 : decode cX7_setLimit 38 = .ok (.iconst 2, 1) := by decide +kernel
theorem dX7_setLimit_39 : decode cX7_setLimit 39 = .ok (.iload_n 1, 1) := by decide +kernel
theorem dX7_setLimit_40 : decode cX7_setLimit 40 = .ok (.iastore, 1) := by decide +kernel
theorem dX7_setLimit_41 : decode cX7_setLimit 41 = .ok (.iload_n 2, 1) := by decide +kernel
theorem dX7_setLimit_42 : decode cX7_setLimit 42 = .ok (.ireturn, 1) := by decide +kernel
theorem dX7_setFan_0 : decode cX7_setFan 0 = .ok (.iload_n 1, 1) := by decide +kernel
theorem dX7_setFan_1 : decode cX7_setFan 1 = .ok (.ifCond .eq 7, 3) := by decide +kernel
theorem dX7_setFan_4 : decode cX7_setFan 4 = .ok (.iconst 1, 1) := by decide +kernel
theorem dX7_setFan_5 : decode cX7_setFan 5 = .ok (.goto 4, 3) := by decide +kernel
theorem dX7_setFan_8 : decode cX7_setFan 8 = .ok (.iconst 0, 1) := by decide +kernel
theorem dX7_setFan_9 : decode cX7_setFan 9 = .ok (.istore_n 2, 1) := by decide +kernel
theorem dX7_setFan_10 : decode cX7_setFan 10 = .ok (.aload_n 0, 1) := by decide +kernel
theorem dX7_setFan_11 : decode cX7_setFan 11 = .ok (.getfield 7, 3) := by decide +kernel
theorem dX7_setFan_14 : decode cX7_setFan 14 = .ok (.iconst 3, 1) := by decide +kernel
theorem dX7_setFan_15 : decode cX7_setFan 15 = .ok (.iaload, 1) := by decide +kernel
theorem dX7_setFan_16 : decode cX7_setFan 16 = .ok (.iload_n 2, 1) := by decide +kernel
theorem dX7_setFan_17 : decode cX7_setFan 17 = .ok (.if_icmp .ne 6, 3) := by decide +kernel
theorem dX7_setFan_20 : decode cX7_setFan 20 = .ok (.bipush (-4), 2) := by decide +kernel
theorem dX7_setFan_22 : decode cX7_setFan 22 = .ok (.ireturn, 1) := by decide +kernel
theorem dX7_setFan_23 : decode cX7_setFan 23 = .ok (.aload_n 0, 1) := by decide +kernel
theorem dX7_setFan_24 : decode cX7_setFan 24 = .ok (.invokevirtual 42, 3) := by decide +kernel
theorem dX7_setFan_27 : decode cX7_setFan 27 = .ok (.aload_n 0, 1) := by decide +kernel
theorem dX7_setFan_28 : decode cX7_setFan 28 = .ok (.getfield 7, 3) := by decide +kernel
theorem dX7_setFan_31 : decode cX7_setFan 31 = .ok (.iconst 3, 1) := by decide +kernel
theorem dX7_setFan_32 : decode cX7_setFan 32 = .ok (.iload_n 2, 1) := by decide +kernel
theorem dX7_setFan_33 : decode cX7_setFan 33 = .ok (.iastore, 1) := by decide +kernel
theorem dX7_setFan_34 : decode cX7_setFan 34 = .ok (.iload_n 2, 1) := by decide +kernel
theorem dX7_setFan_35 : decode cX7_setFan 35 = .ok (.ireturn, 1) := by decide +kernel
theorem dX7_turns_0 : decode cX7_turns 0 = .ok (.aload_n 0, 1) := by decide +kernel
theorem dX7_turns_1 : decode cX7_turns 1 = .ok (.iload_n 1, 1) := by decide +kernel
theorem dX7_turns_2 : decode cX7_turns 2 = .ok (.iconst 5, 1) := by decide +kernel
theorem dX7_turns_3 : decode cX7_turns 3 = .ok (.invokevirtual 53, 3) := by decide +kernel
theorem dX7_turns_6 : decode cX7_turns 6 = .ok (.iconst 2, 1) := by decide +kernel
theorem dX7_turns_7 : decode cX7_turns 7 = .ok (.if_icmp .eq 13, 3) := by decide +kernel
theorem dX7_turns_10 : decode cX7_turns 10 = .ok (.aload_n 0, 1) := by decide +kernel
theorem dX7_turns_11 : decode cX7_turns 11 = .ok (.iload_n 1, 1) := by decide +kernel
theorem dX7_turns_12 : decode cX7_turns 12 = .ok (.iconst 5, 1) := by decide +kernel
theorem dX7_turns_13 : decode cX7_turns 13 = .ok (.invokevirtual 53, 3) := by decide +kernel
theorem dX7_turns_16 : decode cX7_turns 16 = .ok (.iconst 3, 1) := by decide +kernel
theorem dX7_turns_17 : decode cX7_turns 17 = .ok (.if_icmp .ne 7, 3) := by decide +kernel
theorem dX7_turns_20 : decode cX7_turns 20 = .ok (.iconst 1, 1) := by decide +kernel
theorem dX7_turns_21 : decode cX7_turns 21 = .ok (.goto 4, 3) := by decide +kernel
theorem dX7_turns_24 : decode cX7_turns 24 = .ok (.iconst 0, 1) := by decide +kernel
theorem dX7_turns_25 : decode cX7_turns 25 = .ok (.ireturn, 1) := by decide +kernel
theorem dX7_peak_0 : decode cX7_peak 0 = .ok (.aload_n 0, 1) := by decide +kernel
theorem dX7_peak_1 : decode cX7_peak 1 = .ok (.iload_n 1, 1) := by decide +kernel
theorem dX7_peak_2 : decode cX7_peak 2 = .ok (.iconst 0, 1) := by decide +kernel
theorem dX7_peak_3 : decode cX7_peak 3 = .ok (.invokevirtual 53, 3) := by decide +kernel
theorem dX7_peak_6 : decode cX7_peak 6 = .ok (.aload_n 0, 1) := by decide +kernel
theorem dX7_peak_7 : decode cX7_peak 7 = .ok (.iload_n 1, 1) := by decide +kernel
theorem dX7_peak_8 : decode cX7_peak 8 = .ok (.iconst 2, 1) := by decide +kernel
theorem dX7_peak_9 : decode cX7_peak 9 = .ok (.invokevirtual 53, 3) := by decide +kernel
theorem dX7_peak_12 : decode cX7_peak 12 = .ok (.imul, 1) := by decide +kernel
theorem dX7_peak_13 : decode cX7_peak 13 = .ok (.ireturn, 1) := by decide +kernel
theorem dX7_ramped_0 : decode cX7_ramped 0 = .ok (.iload_n 0, 1) := by decide +kernel
theorem dX7_ramped_1 : decode cX7_ramped 1 = .ok (.iload_n 2, 1) := by decide +kernel
theorem dX7_ramped_2 : decode cX7_ramped 2 = .ok (.iconst 1, 1) := by decide +kernel
theorem dX7_ramped_3 : decode cX7_ramped 3 = .ok (.iadd, 1) := by decide +kernel
theorem dX7_ramped_4 : decode cX7_ramped 4 = .ok (.imul, 1) := by decide +kernel
theorem dX7_ramped_5 : decode cX7_ramped 5 = .ok (.iload_n 1, 1) := by decide +kernel
theorem dX7_ramped_6 : decode cX7_ramped 6 = .ok (.iadd, 1) := by decide +kernel
theorem dX7_ramped_7 : decode cX7_ramped 7 = .ok (.iconst 1, 1) := by decide +kernel
theorem dX7_ramped_8 : decode cX7_ramped 8 = .ok (.isub, 1) := by decide +kernel
theorem dX7_ramped_9 : decode cX7_ramped 9 = .ok (.iload_n 1, 1) := by decide +kernel
theorem dX7_ramped_10 : decode cX7_ramped 10 = .ok (.idiv, 1) := by decide +kernel
theorem dX7_ramped_11 : decode cX7_ramped 11 = .ok (.ireturn, 1) := by decide +kernel
theorem dX7_draws_0 : decode cX7_draws 0 = .ok (.aload_n 0, 1) := by decide +kernel
theorem dX7_draws_1 : decode cX7_draws 1 = .ok (.iload_n 1, 1) := by decide +kernel
theorem dX7_draws_2 : decode cX7_draws 2 = .ok (.iconst 5, 1) := by decide +kernel
theorem dX7_draws_3 : decode cX7_draws 3 = .ok (.invokevirtual 53, 3) := by decide +kernel
theorem dX7_draws_6 : decode cX7_draws 6 = .ok (.iconst 2, 1) := by decide +kernel
theorem dX7_draws_7 : decode cX7_draws 7 = .ok (.if_icmp .ne 25, 3) := by decide +kernel
theorem dX7_draws_10 : decode cX7_draws 10 = .ok (.aload_n 0, 1) := by decide +kernel
theorem dX7_draws_11 : decode cX7_draws 11 = .ok (.iload_n 1, 1) := by decide +kernel
theorem dX7_draws_12 : decode cX7_draws 12 = .ok (.invokevirtual 57, 3) := by decide +kernel
theorem dX7_draws_15 : decode cX7_draws 15 = .ok (.aload_n 0, 1) := by decide +kernel
theorem dX7_draws_16 : decode cX7_draws 16 = .ok (.iload_n 1, 1) := by decide +kernel
theorem dX7_draws_17 : decode cX7_draws 17 = .ok (.iconst 1, 1) := by decide +kernel
theorem dX7_draws_18 : decode cX7_draws 18 = .ok (.invokevirtual 53, 3) := by decide +kernel
theorem dX7_draws_21 : decode cX7_draws 21 = .ok (.aload_n 0, 1) := by decide +kernel
theorem dX7_draws_22 : decode cX7_draws 22 = .ok (.iload_n 1, 1) := by decide +kernel
theorem dX7_draws_23 : decode cX7_draws 23 = .ok (.bipush 8, 2) := by decide +kernel
theorem dX7_draws_25 : decode cX7_draws 25 = .ok (.invokevirtual 53, 3) := by decide +kernel
theorem dX7_draws_28 : decode cX7_draws 28 = .ok (.invokestatic 60, 3) := by decide +kernel
theorem dX7_draws_31 : decode cX7_draws 31 = .ok (.ireturn, 1) := by decide +kernel
theorem dX7_draws_32 : decode cX7_draws 32 = .ok (.aload_n 0, 1) := by decide +kernel
theorem dX7_draws_33 : decode cX7_draws 33 = .ok (.iload_n 1, 1) := by decide +kernel
theorem dX7_draws_34 : decode cX7_draws 34 = .ok (.iconst 5, 1) := by decide +kernel
theorem dX7_draws_35 : decode cX7_draws 35 = .ok (.invokevirtual 53, 3) := by decide +kernel
theorem dX7_draws_38 : decode cX7_draws 38 = .ok (.iconst 3, 1) := by decide +kernel
theorem dX7_draws_39 : decode cX7_draws 39 = .ok (.if_icmp .eq 5, 3) := by decide +kernel
theorem dX7_draws_42 : decode cX7_draws 42 = .ok (.iconst 0, 1) := by decide +kernel
theorem dX7_draws_43 : decode cX7_draws 43 = .ok (.ireturn, 1) := by decide +kernel
theorem dX7_draws_44 : decode cX7_draws 44 = .ok (.aload_n 0, 1) := by decide +kernel
theorem dX7_draws_45 : decode cX7_draws 45 = .ok (.iload_n 1, 1) := by decide +kernel
theorem dX7_draws_46 : decode cX7_draws 46 = .ok (.bipush 7, 2) := by decide +kernel
theorem dX7_draws_48 : decode cX7_draws 48 = .ok (.invokevirtual 53, 3) := by decide +kernel
theorem dX7_draws_51 : decode cX7_draws 51 = .ok (.ifCond .ne 12, 3) := by decide +kernel
theorem dX7_draws_54 : decode cX7_draws 54 = .ok (.aload_n 0, 1) := by decide +kernel
theorem dX7_draws_55 : decode cX7_draws 55 = .ok (.iload_n 1, 1) := by decide +kernel
theorem dX7_draws_56 : decode cX7_draws 56 = .ok (.iconst 0, 1) := by decide +kernel
theorem dX7_draws_57 : decode cX7_draws 57 = .ok (.invokevirtual 53, 3) := by decide +kernel
theorem dX7_draws_60 : decode cX7_draws 60 = .ok (.goto 13, 3) := by decide +kernel
theorem dX7_draws_63 : decode cX7_draws 63 = .ok (.aload_n 0, 1) := by decide +kernel
theorem dX7_draws_64 : decode cX7_draws 64 = .ok (.iload_n 1, 1) := by decide +kernel
theorem dX7_draws_65 : decode cX7_draws 65 = .ok (.iconst 0, 1) := by decide +kernel
theorem dX7_draws_66 : decode cX7_draws 66 = .ok (.invokevirtual 53, 3) := by decide +kernel
theorem dX7_draws_69 : decode cX7_draws 69 = .ok (.iconst 3, 1) := by decide +kernel
theorem dX7_draws_70 : decode cX7_draws 70 = .ok (.imul, 1) := by decide +kernel
theorem dX7_draws_71 : decode cX7_draws 71 = .ok (.iconst 2, 1) := by decide +kernel
theorem dX7_draws_72 : decode cX7_draws 72 = .ok (.idiv, 1) := by decide +kernel
theorem dX7_draws_73 : decode cX7_draws 73 = .ok (.ireturn, 1) := by decide +kernel
theorem dX7_heatOfRamp_0 : decode cX7_heatOfRamp 0 = .ok (.iconst 0, 1) := by decide +kernel
theorem dX7_heatOfRamp_1 : decode cX7_heatOfRamp 1 = .ok (.istore_n 3, 1) := by decide +kernel
theorem dX7_heatOfRamp_2 : decode cX7_heatOfRamp 2 = .ok (.iconst 0, 1) := by decide +kernel
theorem dX7_heatOfRamp_3 : decode cX7_heatOfRamp 3 = .ok (.istore 4, 2) := by decide +kernel
theorem dX7_heatOfRamp_5 : decode cX7_heatOfRamp 5 = .ok (.iload 4, 2) := by decide +kernel
theorem dX7_heatOfRamp_7 : decode cX7_heatOfRamp 7 = .ok (.iload_n 2, 1) := by decide +kernel
theorem dX7_heatOfRamp_8 : decode cX7_heatOfRamp 8 = .ok (.if_icmp .ge 33, 3) := by decide +kernel
theorem dX7_heatOfRamp_11 : decode cX7_heatOfRamp 11 = .ok (.aload_n 0, 1) := by decide +kernel
theorem dX7_heatOfRamp_12 : decode cX7_heatOfRamp 12 = .ok (.iload_n 1, 1) := by decide +kernel
theorem dX7_heatOfRamp_13 : decode cX7_heatOfRamp 13 = .ok (.invokevirtual 57, 3) := by decide +kernel
theorem dX7_heatOfRamp_16 : decode cX7_heatOfRamp 16 = .ok (.iload_n 2, 1) := by decide +kernel
theorem dX7_heatOfRamp_17 : decode cX7_heatOfRamp 17 = .ok (.iload 4, 2) := by decide +kernel
theorem dX7_heatOfRamp_19 : decode cX7_heatOfRamp 19 = .ok (.invokestatic 60, 3) := by decide +kernel
theorem dX7_heatOfRamp_22 : decode cX7_heatOfRamp 22 = .ok (.istore 5, 2) := by decide +kernel
theorem dX7_heatOfRamp_24 : decode cX7_heatOfRamp 24 = .ok (.iload_n 3, 1) := by decide +kernel
theorem dX7_heatOfRamp_25 : decode cX7_heatOfRamp 25 = .ok (.iload 5, 2) := by decide +kernel
theorem dX7_heatOfRamp_27 : decode cX7_heatOfRamp 27 = .ok (.iload 5, 2) := by decide +kernel
theorem dX7_heatOfRamp_29 : decode cX7_heatOfRamp 29 = .ok (.imul, 1) := by decide +kernel
theorem dX7_heatOfRamp_30 : decode cX7_heatOfRamp 30 = .ok (.bipush 10, 2) := by decide +kernel
theorem dX7_heatOfRamp_32 : decode cX7_heatOfRamp 32 = .ok (.idiv, 1) := by decide +kernel
theorem dX7_heatOfRamp_33 : decode cX7_heatOfRamp 33 = .ok (.iadd, 1) := by decide +kernel
theorem dX7_heatOfRamp_34 : decode cX7_heatOfRamp 34 = .ok (.istore_n 3, 1) := by decide +kernel
theorem dX7_heatOfRamp_35 : decode cX7_heatOfRamp 35 = .ok (.iinc 4 1, 3) := by decide +kernel
theorem dX7_heatOfRamp_38 : decode cX7_heatOfRamp 38 = .ok (.goto (-33), 3) := by decide +kernel
theorem dX7_heatOfRamp_41 : decode cX7_heatOfRamp 41 = .ok (.iload_n 3, 1) := by decide +kernel
theorem dX7_heatOfRamp_42 : decode cX7_heatOfRamp 42 = .ok (.ireturn, 1) := by decide +kernel
theorem dX7_needed_0 : decode cX7_needed 0 = .ok (.aload_n 0, 1) := by decide +kernel
theorem dX7_needed_1 : decode cX7_needed 1 = .ok (.iload_n 1, 1) := by decide +kernel
theorem dX7_needed_2 : decode cX7_needed 2 = .ok (.aload_n 0, 1) := by decide +kernel
theorem dX7_needed_3 : decode cX7_needed 3 = .ok (.iload_n 1, 1) := by decide +kernel
theorem dX7_needed_4 : decode cX7_needed 4 = .ok (.iconst 1, 1) := by decide +kernel
theorem dX7_needed_5 : decode cX7_needed 5 = .ok (.invokevirtual 53, 3) := by decide +kernel
theorem dX7_needed_8 : decode cX7_needed 8 = .ok (.invokevirtual 64, 3) := by decide +kernel
theorem dX7_needed_11 : decode cX7_needed 11 = .ok (.ireturn, 1) := by decide +kernel
theorem dX7_credit_0 : decode cX7_credit 0 = .ok (.aload_n 0, 1) := by decide +kernel
theorem dX7_credit_1 : decode cX7_credit 1 = .ok (.iload_n 1, 1) := by decide +kernel
theorem dX7_credit_2 : decode cX7_credit 2 = .ok (.iconst 3, 1) := by decide +kernel
theorem dX7_credit_3 : decode cX7_credit 3 = .ok (.invokevirtual 53, 3) := by decide +kernel
theorem dX7_credit_6 : decode cX7_credit 6 = .ok (.aload_n 0, 1) := by decide +kernel
theorem dX7_credit_7 : decode cX7_credit 7 = .ok (.iload_n 1, 1) := by decide +kernel
theorem dX7_credit_8 : decode cX7_credit 8 = .ok (.bipush 6, 2) := by decide +kernel
theorem dX7_credit_10 : decode cX7_credit 10 = .ok (.invokevirtual 53, 3) := by decide +kernel
theorem dX7_credit_13 : decode cX7_credit 13 = .ok (.isub, 1) := by decide +kernel
theorem dX7_credit_14 : decode cX7_credit 14 = .ok (.ireturn, 1) := by decide +kernel
theorem dX7_rate_0 : decode cX7_rate 0 = .ok (.iload_n 1, 1) := by decide +kernel
theorem dX7_rate_1 : decode cX7_rate 1 = .ok (.ifCond .eq 8, 3) := by decide +kernel
theorem dX7_rate_4 : decode cX7_rate 4 = .ok (.bipush 40, 2) := by decide +kernel
theorem dX7_rate_6 : decode cX7_rate 6 = .ok (.goto 5, 3) := by decide +kernel
theorem dX7_rate_9 : decode cX7_rate 9 = .ok (.bipush 20, 2) := by decide +kernel
theorem dX7_rate_11 : decode cX7_rate 11 = .ok (.aload_n 0, 1) := by decide +kernel
theorem dX7_rate_12 : decode cX7_rate 12 = .ok (.getfield 7, 3) := by decide +kernel
theorem dX7_rate_15 : decode cX7_rate 15 = .ok (.iconst 3, 1) := by decide +kernel
theorem dX7_rate_16 : decode cX7_rate 16 = .ok (.iaload, 1) := by decide +kernel
theorem dX7_rate_17 : decode cX7_rate 17 = .ok (.iconst 1, 1) := by decide +kernel
theorem dX7_rate_18 : decode cX7_rate 18 = .ok (.if_icmp .ne 8, 3) := by decide +kernel
theorem dX7_rate_21 : decode cX7_rate 21 = .ok (.bipush 30, 2) := by decide +kernel
theorem dX7_rate_23 : decode cX7_rate 23 = .ok (.goto 4, 3) := by decide +kernel
theorem dX7_rate_26 : decode cX7_rate 26 = .ok (.iconst 0, 1) := by decide +kernel
theorem dX7_rate_27 : decode cX7_rate 27 = .ok (.iadd, 1) := by decide +kernel
theorem dX7_rate_28 : decode cX7_rate 28 = .ok (.ireturn, 1) := by decide +kernel
theorem dX7_waitedOf_0 : decode cX7_waitedOf 0 = .ok (.aload_n 0, 1) := by decide +kernel
theorem dX7_waitedOf_1 : decode cX7_waitedOf 1 = .ok (.getfield 7, 3) := by decide +kernel
theorem dX7_waitedOf_4 : decode cX7_waitedOf 4 = .ok (.iconst 1, 1) := by decide +kernel
theorem dX7_waitedOf_5 : decode cX7_waitedOf 5 = .ok (.iaload, 1) := by decide +kernel
theorem dX7_waitedOf_6 : decode cX7_waitedOf 6 = .ok (.aload_n 0, 1) := by decide +kernel
theorem dX7_waitedOf_7 : decode cX7_waitedOf 7 = .ok (.iload_n 1, 1) := by decide +kernel
theorem dX7_waitedOf_8 : decode cX7_waitedOf 8 = .ok (.bipush 9, 2) := by decide +kernel
theorem dX7_waitedOf_10 : decode cX7_waitedOf 10 = .ok (.invokevirtual 53, 3) := by decide +kernel
theorem dX7_waitedOf_13 : decode cX7_waitedOf 13 = .ok (.isub, 1) := by decide +kernel
theorem dX7_waitedOf_14 : decode cX7_waitedOf 14 = .ok (.ireturn, 1) := by decide +kernel
theorem dX7_isAhead_0 : decode cX7_isAhead 0 = .ok (.aload_n 0, 1) := by decide +kernel
theorem dX7_isAhead_1 : decode cX7_isAhead 1 = .ok (.iload_n 1, 1) := by decide +kernel
theorem dX7_isAhead_2 : decode cX7_isAhead 2 = .ok (.iconst 4, 1) := by decide +kernel
theorem dX7_isAhead_3 : decode cX7_isAhead 3 = .ok (.invokevirtual 53, 3) := by decide +kernel
theorem dX7_isAhead_6 : decode cX7_isAhead 6 = .ok (.aload_n 0, 1) := by decide +kernel
theorem dX7_isAhead_7 : decode cX7_isAhead 7 = .ok (.iload_n 1, 1) := by decide +kernel
theorem dX7_isAhead_8 : decode cX7_isAhead 8 = .ok (.invokevirtual 67, 3) := by decide +kernel
theorem dX7_isAhead_11 : decode cX7_isAhead 11 = .ok (.bipush 10, 2) := by decide +kernel
theorem dX7_isAhead_13 : decode cX7_isAhead 13 = .ok (.idiv, 1) := by decide +kernel
theorem dX7_isAhead_14 : decode cX7_isAhead 14 = .ok (.iadd, 1) := by decide +kernel
theorem dX7_isAhead_15 : decode cX7_isAhead 15 = .ok (.istore_n 3, 1) := by decide +kernel
theorem dX7_isAhead_16 : decode cX7_isAhead 16 = .ok (.aload_n 0, 1) := by decide +kernel
theorem dX7_isAhead_17 : decode cX7_isAhead 17 = .ok (.iload_n 2, 1) := by decide +kernel
theorem dX7_isAhead_18 : decode cX7_isAhead 18 = .ok (.iconst 4, 1) := by decide +kernel
theorem dX7_isAhead_19 : decode cX7_isAhead 19 = .ok (.invokevirtual 53, 3) := by decide +kernel
theorem dX7_isAhead_22 : decode cX7_isAhead 22 = .ok (.aload_n 0, 1) := by decide +kernel
theorem dX7_isAhead_23 : decode cX7_isAhead 23 = .ok (.iload_n 2, 1) := by decide +kernel
theorem dX7_isAhead_24 : decode cX7_isAhead 24 = .ok (.invokevirtual 67, 3) := by decide +kernel
theorem dX7_isAhead_27 : decode cX7_isAhead 27 = .ok (.bipush 10, 2) := by decide +kernel
theorem dX7_isAhead_29 : decode cX7_isAhead 29 = .ok (.idiv, 1) := by decide +kernel
theorem dX7_isAhead_30 : decode cX7_isAhead 30 = .ok (.iadd, 1) := by decide +kernel
theorem dX7_isAhead_31 : decode cX7_isAhead 31 = .ok (.istore 4, 2) := by decide +kernel
theorem dX7_isAhead_33 : decode cX7_isAhead 33 = .ok (.iload_n 3, 1) := by decide +kernel
theorem dX7_isAhead_34 : decode cX7_isAhead 34 = .ok (.iload 4, 2) := by decide +kernel
theorem dX7_isAhead_36 : decode cX7_isAhead 36 = .ok (.if_icmp .eq 15, 3) := by decide +kernel
theorem dX7_isAhead_39 : decode cX7_isAhead 39 = .ok (.iload_n 3, 1) := by decide +kernel
theorem dX7_isAhead_40 : decode cX7_isAhead 40 = .ok (.iload 4, 2) := by decide +kernel
theorem dX7_isAhead_42 : decode cX7_isAhead 42 = .ok (.if_icmp .le 7, 3) := by decide +kernel
theorem dX7_isAhead_45 : decode cX7_isAhead 45 = .ok (.iconst 1, 1) := by decide +kernel
theorem dX7_isAhead_46 : decode cX7_isAhead 46 = .ok (.goto 4, 3) := by decide +kernel
theorem dX7_isAhead_49 : decode cX7_isAhead 49 = .ok (.iconst 0, 1) := by decide +kernel
theorem dX7_isAhead_50 : decode cX7_isAhead 50 = .ok (.ireturn, 1) := by decide +kernel
theorem dX7_isAhead_51 : decode cX7_isAhead 51 = .ok (.aload_n 0, 1) := by decide +kernel
theorem dX7_isAhead_52 : decode cX7_isAhead 52 = .ok (.iload_n 1, 1) := by decide +kernel
theorem dX7_isAhead_53 : decode cX7_isAhead 53 = .ok (.invokevirtual 67, 3) := by decide +kernel
theorem dX7_isAhead_56 : decode cX7_isAhead 56 = .ok (.aload_n 0, 1) := by decide +kernel
theorem dX7_isAhead_57 : decode cX7_isAhead 57 = .ok (.iload_n 2, 1) := by decide +kernel
theorem dX7_isAhead_58 : decode cX7_isAhead 58 = .ok (.invokevirtual 67, 3) := by decide +kernel
theorem dX7_isAhead_61 : decode cX7_isAhead 61 = .ok (.if_icmp .eq 24, 3) := by decide +kernel
theorem dX7_isAhead_64 : decode cX7_isAhead 64 = .ok (.aload_n 0, 1) := by decide +kernel
theorem dX7_isAhead_65 : decode cX7_isAhead 65 = .ok (.iload_n 1, 1) := by decide +kernel
theorem dX7_isAhead_66 : decode cX7_isAhead 66 = .ok (.invokevirtual 67, 3) := by decide +kernel
theorem dX7_isAhead_69 : decode cX7_isAhead 69 = .ok (.aload_n 0, 1) := by decide +kernel
theorem dX7_isAhead_70 : decode cX7_isAhead 70 = .ok (.iload_n 2, 1) := by decide +kernel
theorem dX7_isAhead_71 : decode cX7_isAhead 71 = .ok (.invokevirtual 67, 3) := by decide +kernel
theorem dX7_isAhead_74 : decode cX7_isAhead 74 = .ok (.if_icmp .le 7, 3) := by decide +kernel
theorem dX7_isAhead_77 : decode cX7_isAhead 77 = .ok (.iconst 1, 1) := by decide +kernel
theorem dX7_isAhead_78 : decode cX7_isAhead 78 = .ok (.goto 17, 3) := by decide +kernel
theorem dX7_isAhead_81 : decode cX7_isAhead 81 = .ok (.iconst 0, 1) := by decide +kernel
theorem dX7_isAhead_82 : decode cX7_isAhead 82 = .ok (.goto 13, 3) := by decide +kernel
theorem dX7_isAhead_85 : decode cX7_isAhead 85 = .ok (.iload_n 1, 1) := by decide +kernel
theorem dX7_isAhead_86 : decode cX7_isAhead 86 = .ok (.iload_n 2, 1) := by decide +kernel
theorem dX7_isAhead_87 : decode cX7_isAhead 87 = .ok (.if_icmp .ge 7, 3) := by decide +kernel
theorem dX7_isAhead_90 : decode cX7_isAhead 90 = .ok (.iconst 1, 1) := by decide +kernel
theorem dX7_isAhead_91 : decode cX7_isAhead 91 = .ok (.goto 4, 3) := by decide +kernel
theorem dX7_isAhead_94 : decode cX7_isAhead 94 = .ok (.iconst 0, 1) := by decide +kernel
theorem dX7_isAhead_95 : decode cX7_isAhead 95 = .ok (.ireturn, 1) := by decide +kernel
theorem dX7_waits_0 : decode cX7_waits 0 = .ok (.aload_n 0, 1) := by decide +kernel
theorem dX7_waits_1 : decode cX7_waits 1 = .ok (.iload_n 1, 1) := by decide +kernel
theorem dX7_waits_2 : decode cX7_waits 2 = .ok (.iconst 5, 1) := by decide +kernel
theorem dX7_waits_3 : decode cX7_waits 3 = .ok (.invokevirtual 53, 3) := by decide +kernel
theorem dX7_waits_6 : decode cX7_waits 6 = .ok (.iconst 1, 1) := by decide +kernel
theorem dX7_waits_7 : decode cX7_waits 7 = .ok (.if_icmp .ne 7, 3) := by decide +kernel
theorem dX7_waits_10 : decode cX7_waits 10 = .ok (.iconst 1, 1) := by decide +kernel
theorem dX7_waits_11 : decode cX7_waits 11 = .ok (.goto 4, 3) := by decide +kernel
theorem dX7_waits_14 : decode cX7_waits 14 = .ok (.iconst 0, 1) := by decide +kernel
theorem dX7_waits_15 : decode cX7_waits 15 = .ok (.ireturn, 1) := by decide +kernel
theorem dX7_placeOf_0 : decode cX7_placeOf 0 = .ok (.iconst 0, 1) := by decide +kernel
theorem dX7_placeOf_1 : decode cX7_placeOf 1 = .ok (.istore_n 2, 1) := by decide +kernel
theorem dX7_placeOf_2 : decode cX7_placeOf 2 = .ok (.iconst 0, 1) := by decide +kernel
theorem dX7_placeOf_3 : decode cX7_placeOf 3 = .ok (.istore_n 3, 1) := by decide +kernel
theorem dX7_placeOf_4 : decode cX7_placeOf 4 = .ok (.iload_n 3, 1) := by decide +kernel
theorem dX7_placeOf_5 : decode cX7_placeOf 5 = .ok (.aload_n 0, 1) := by decide +kernel
theorem dX7_placeOf_6 : decode cX7_placeOf 6 = .ok (.getfield 7, 3) := by decide +kernel
theorem dX7_placeOf_9 : decode cX7_placeOf 9 = .ok (.iconst 0, 1) := by decide +kernel
theorem dX7_placeOf_10 : decode cX7_placeOf 10 = .ok (.iaload, 1) := by decide +kernel
theorem dX7_placeOf_11 : decode cX7_placeOf 11 = .ok (.if_icmp .ge 39, 3) := by decide +kernel
theorem dX7_placeOf_14 : decode cX7_placeOf 14 = .ok (.iload_n 2, 1) := by decide +kernel
theorem dX7_placeOf_15 : decode cX7_placeOf 15 = .ok (.iload_n 3, 1) := by decide +kernel
theorem dX7_placeOf_16 : decode cX7_placeOf 16 = .ok (.iload_n 1, 1) := by decide +kernel
theorem dX7_placeOf_17 : decode cX7_placeOf 17 = .ok (.if_icmp .eq 24, 3) := by decide +kernel
theorem dX7_placeOf_20 : decode cX7_placeOf 20 = .ok (.aload_n 0, 1) := by decide +kernel
theorem dX7_placeOf_21 : decode cX7_placeOf 21 = .ok (.iload_n 3, 1) := by decide +kernel
theorem dX7_placeOf_22 : decode cX7_placeOf 22 = .ok (.invokevirtual 70, 3) := by decide +kernel
theorem dX7_placeOf_25 : decode cX7_placeOf 25 = .ok (.ifCond .eq 16, 3) := by decide +kernel
theorem dX7_placeOf_28 : decode cX7_placeOf 28 = .ok (.aload_n 0, 1) := by decide +kernel
theorem dX7_placeOf_29 : decode cX7_placeOf 29 = .ok (.iload_n 3, 1) := by decide +kernel
theorem dX7_placeOf_30 : decode cX7_placeOf 30 = .ok (.iload_n 1, 1) := by decide +kernel
theorem dX7_placeOf_31 : decode cX7_placeOf 31 = .ok (.invokevirtual 73, 3) := by decide +kernel
theorem dX7_placeOf_34 : decode cX7_placeOf 34 = .ok (.ifCond .eq 7, 3) := by decide +kernel
theorem dX7_placeOf_37 : decode cX7_placeOf 37 = .ok (.iconst 1, 1) := by decide +kernel
theorem dX7_placeOf_38 : decode cX7_placeOf 38 = .ok (.goto 4, 3) := by decide +kernel
theorem dX7_placeOf_41 : decode cX7_placeOf 41 = .ok (.iconst 0, 1) := by decide +kernel
theorem dX7_placeOf_42 : decode cX7_placeOf 42 = .ok (.iadd, 1) := by decide +kernel
theorem dX7_placeOf_43 : decode cX7_placeOf 43 = .ok (.istore_n 2, 1) := by decide +kernel
theorem dX7_placeOf_44 : decode cX7_placeOf 44 = .ok (.iinc 3 1, 3) := by decide +kernel
theorem dX7_placeOf_47 : decode cX7_placeOf 47 = .ok (.goto (-43), 3) := by decide +kernel
theorem dX7_placeOf_50 : decode cX7_placeOf 50 = .ok (.iload_n 2, 1) := by decide +kernel
theorem dX7_placeOf_51 : decode cX7_placeOf 51 = .ok (.ireturn, 1) := by decide +kernel
theorem dX7_waitingAt_0 : decode cX7_waitingAt 0 = .ok (.iconst 0, 1) := by decide +kernel
theorem dX7_waitingAt_1 : decode cX7_waitingAt 1 = .ok (.istore_n 2, 1) := by decide +kernel
theorem dX7_waitingAt_2 : decode cX7_waitingAt 2 = .ok (.iload_n 2, 1) := by decide +kernel
theorem dX7_waitingAt_3 : decode cX7_waitingAt 3 = .ok (.aload_n 0, 1) := by decide +kernel
theorem dX7_waitingAt_4 : decode cX7_waitingAt 4 = .ok (.getfield 7, 3) := by decide +kernel
theorem dX7_waitingAt_7 : decode cX7_waitingAt 7 = .ok (.iconst 0, 1) := by decide +kernel
theorem dX7_waitingAt_8 : decode cX7_waitingAt 8 = .ok (.iaload, 1) := by decide +kernel
theorem dX7_waitingAt_9 : decode cX7_waitingAt 9 = .ok (.if_icmp .ge 28, 3) := by decide +kernel
theorem dX7_waitingAt_12 : decode cX7_waitingAt 12 = .ok (.aload_n 0, 1) := by decide +kernel
theorem dX7_waitingAt_13 : decode cX7_waitingAt 13 = .ok (.iload_n 2, 1) := by decide +kernel
theorem dX7_waitingAt_14 : decode cX7_waitingAt 14 = .ok (.invokevirtual 70, 3) := by decide +kernel
theorem dX7_waitingAt_17 : decode cX7_waitingAt 17 = .ok (.ifCond .eq 14, 3) := by decide +kernel
theorem dX7_waitingAt_20 : decode cX7_waitingAt 20 = .ok (.aload_n 0, 1) := by decide +kernel
theorem dX7_waitingAt_21 : decode cX7_waitingAt 21 = .ok (.iload_n 2, 1) := by decide +kernel
theorem dX7_waitingAt_22 : decode cX7_waitingAt 22 = .ok (.invokevirtual 77, 3) := by decide +kernel
theorem dX7_waitingAt_25 : decode cX7_waitingAt 25 = .ok (.iload_n 1, 1) := by decide +kernel
theorem dX7_waitingAt_26 : decode cX7_waitingAt 26 = .ok (.if_icmp .ne 5, 3) := by decide +kernel
theorem dX7_waitingAt_29 : decode cX7_waitingAt 29 = .ok (.iload_n 2, 1) := by decide +kernel
theorem dX7_waitingAt_30 : decode cX7_waitingAt 30 = .ok (.ireturn, 1) := by decide +kernel
theorem dX7_waitingAt_31 : decode cX7_waitingAt 31 = .ok (.iinc 2 1, 3) := by decide +kernel
theorem dX7_waitingAt_34 : decode cX7_waitingAt 34 = .ok (.goto (-32), 3) := by decide +kernel
theorem dX7_waitingAt_37 : decode cX7_waitingAt 37 = .ok (.bipush (-4), 2) := by decide +kernel
theorem dX7_waitingAt_39 : decode cX7_waitingAt 39 = .ok (.ireturn, 1) := by decide +kernel
theorem dX7_queue_0 : decode cX7_queue 0 = .ok (.iload_n 1, 1) := by decide +kernel
theorem dX7_queue_1 : decode cX7_queue 1 = .ok (.ifCond .ge 8, 3) := by decide +kernel
theorem dX7_queue_4 : decode cX7_queue 4 = .ok (.bipush (-2), 2) := by decide +kernel
theorem dX7_queue_6 : decode cX7_queue 6 = .ok (.goto 8, 3) := by decide +kernel
theorem dX7_queue_9 : decode cX7_queue 9 = .ok (.aload_n 0, 1) := by decide +kernel
theorem dX7_queue_10 : decode cX7_queue 10 = .ok (.iload_n 1, 1) := by decide +kernel
theorem dX7_queue_11 : decode cX7_queue 11 = .ok (.invokevirtual 80, 3) := by decide +kernel
theorem dX7_queue_14 : decode cX7_queue 14 = .ok (.ireturn, 1) := by decide +kernel
theorem dX7_against_0 : decode cX7_against 0 = .ok (.aload_n 0, 1) := by decide +kernel
theorem dX7_against_1 : decode cX7_against 1 = .ok (.iload_n 1, 1) := by decide +kernel
theorem dX7_against_2 : decode cX7_against 2 = .ok (.bipush 7, 2) := by decide +kernel
theorem dX7_against_4 : decode cX7_against 4 = .ok (.invokevirtual 53, 3) := by decide +kernel
theorem dX7_against_7 : decode cX7_against 7 = .ok (.ifCond .eq 5, 3) := by decide +kernel
theorem dX7_against_10 : decode cX7_against 10 = .ok (.iconst 4, 1) := by decide +kernel
theorem dX7_against_11 : decode cX7_against 11 = .ok (.ireturn, 1) := by decide +kernel
theorem dX7_against_12 : decode cX7_against 12 = .ok (.aload_n 0, 1) := by decide +kernel
theorem dX7_against_13 : decode cX7_against 13 = .ok (.iload_n 1, 1) := by decide +kernel
theorem dX7_against_14 : decode cX7_against 14 = .ok (.invokevirtual 83, 3) := by decide +kernel
theorem dX7_against_17 : decode cX7_against 17 = .ok (.aload_n 0, 1) := by decide +kernel
theorem dX7_against_18 : decode cX7_against 18 = .ok (.iload_n 1, 1) := by decide +kernel
theorem dX7_against_19 : decode cX7_against 19 = .ok (.invokevirtual 86, 3) := by decide +kernel
theorem dX7_against_22 : decode cX7_against 22 = .ok (.if_icmp .ge 5, 3) := by decide +kernel
theorem dX7_against_25 : decode cX7_against 25 = .ok (.iconst 2, 1) := by decide +kernel
theorem dX7_against_26 : decode cX7_against 26 = .ok (.ireturn, 1) := by decide +kernel
theorem dX7_against_27 : decode cX7_against 27 = .ok (.aload_n 0, 1) := by decide +kernel
theorem dX7_against_28 : decode cX7_against 28 = .ok (.iload_n 1, 1) := by decide +kernel
theorem dX7_against_29 : decode cX7_against 29 = .ok (.invokevirtual 57, 3) := by decide +kernel
theorem dX7_against_32 : decode cX7_against 32 = .ok (.istore_n 2, 1) := by decide +kernel
theorem dX7_against_33 : decode cX7_against 33 = .ok (.iconst 0, 1) := by decide +kernel
theorem dX7_against_34 : decode cX7_against 34 = .ok (.istore_n 3, 1) := by decide +kernel
theorem dX7_against_35 : decode cX7_against 35 = .ok (.iload_n 3, 1) := by decide +kernel
theorem dX7_against_36 : decode cX7_against 36 = .ok (.aload_n 0, 1) := by decide +kernel
theorem dX7_against_37 : decode cX7_against 37 = .ok (.getfield 7, 3) := by decide +kernel
theorem dX7_against_40 : decode cX7_against 40 = .ok (.iconst 0, 1) := by decide +kernel
theorem dX7_against_41 : decode cX7_against 41 = .ok (.iaload, 1) := by decide +kernel
theorem dX7_against_42 : decode cX7_against 42 = .ok (.if_icmp .ge 49, 3) := by decide +kernel
theorem dX7_against_45 : decode cX7_against 45 = .ok (.iload_n 2, 1) := by decide +kernel
theorem dX7_against_46 : decode cX7_against 46 = .ok (.aload_n 0, 1) := by decide +kernel
theorem dX7_against_47 : decode cX7_against 47 = .ok (.iload_n 3, 1) := by decide +kernel
theorem dX7_against_48 : decode cX7_against 48 = .ok (.iconst 5, 1) := by decide +kernel
theorem dX7_against_49 : decode cX7_against 49 = .ok (.invokevirtual 53, 3) := by decide +kernel
theorem dX7_against_52 : decode cX7_against 52 = .ok (.iconst 2, 1) := by decide +kernel
theorem dX7_against_53 : decode cX7_against 53 = .ok (.if_icmp .ne 11, 3) := by decide +kernel
theorem dX7_against_56 : decode cX7_against 56 = .ok (.aload_n 0, 1) := by decide +kernel
theorem dX7_against_57 : decode cX7_against 57 = .ok (.iload_n 3, 1) := by decide +kernel
theorem dX7_against_58 : decode cX7_against 58 = .ok (.invokevirtual 57, 3) := by decide +kernel
theorem dX7_against_61 : decode cX7_against 61 = .ok (.goto 22, 3) := by decide +kernel
theorem dX7_against_64 : decode cX7_against 64 = .ok (.aload_n 0, 1) := by decide +kernel
theorem dX7_against_65 : decode cX7_against 65 = .ok (.iload_n 3, 1) := by decide +kernel
theorem dX7_against_66 : decode cX7_against 66 = .ok (.iconst 5, 1) := by decide +kernel
theorem dX7_against_67 : decode cX7_against 67 = .ok (.invokevirtual 53, 3) := by decide +kernel
theorem dX7_against_70 : decode cX7_against 70 = .ok (.iconst 3, 1) := by decide +kernel
theorem dX7_against_71 : decode cX7_against 71 = .ok (.if_icmp .ne 11, 3) := by decide +kernel
theorem dX7_against_74 : decode cX7_against 74 = .ok (.aload_n 0, 1) := by decide +kernel
theorem dX7_against_75 : decode cX7_against 75 = .ok (.iload_n 3, 1) := by decide +kernel
theorem dX7_against_76 : decode cX7_against 76 = .ok (.invokevirtual 89, 3) := by decide +kernel
theorem dX7_against_79 : decode cX7_against 79 = .ok (.goto 4, 3) := by decide +kernel
theorem dX7_against_82 : decode cX7_against 82 = .ok (.iconst 0, 1) := by decide +kernel
theorem dX7_against_83 : decode cX7_against 83 = .ok (.iadd, 1) := by decide +kernel
theorem dX7_against_84 : decode cX7_against 84 = .ok (.istore_n 2, 1) := by decide +kernel
theorem dX7_against_85 : decode cX7_against 85 = .ok (.iinc 3 1, 3) := by decide +kernel
theorem dX7_against_88 : decode cX7_against 88 = .ok (.goto (-53), 3) := by decide +kernel
theorem dX7_against_91 : decode cX7_against 91 = .ok (.iload_n 2, 1) := by decide +kernel
theorem dX7_against_92 : decode cX7_against 92 = .ok (.aload_n 0, 1) := by decide +kernel
theorem dX7_against_93 : decode cX7_against 93 = .ok (.getfield 7, 3) := by decide +kernel
theorem dX7_against_96 : decode cX7_against 96 = .ok (.iconst 2, 1) := by decide +kernel
theorem dX7_against_97 : decode cX7_against 97 = .ok (.iaload, 1) := by decide +kernel
theorem dX7_against_98 : decode cX7_against 98 = .ok (.if_icmp .le 7, 3) := by decide +kernel
theorem dX7_against_101 : decode cX7_against 101 = .ok (.iconst 3, 1) := by decide +kernel
theorem dX7_against_102 : decode cX7_against 102 = .ok (.goto 4, 3) := by decide +kernel
theorem dX7_against_105 : decode cX7_against 105 = .ok (.iconst 0, 1) := by decide +kernel
theorem dX7_against_106 : decode cX7_against 106 = .ok (.ireturn, 1) := by decide +kernel
theorem dX7_whyNot_0 : decode cX7_whyNot 0 = .ok (.aload_n 0, 1) := by decide +kernel
theorem dX7_whyNot_1 : decode cX7_whyNot 1 = .ok (.iload_n 1, 1) := by decide +kernel
theorem dX7_whyNot_2 : decode cX7_whyNot 2 = .ok (.invokevirtual 49, 3) := by decide +kernel
theorem dX7_whyNot_5 : decode cX7_whyNot 5 = .ok (.ifCond .eq 5, 3) := by decide +kernel
theorem dX7_whyNot_8 : decode cX7_whyNot 8 = .ok (.iconst (-1), 1) := by decide +kernel
theorem dX7_whyNot_9 : decode cX7_whyNot 9 = .ok (.ireturn, 1) := by decide +kernel
theorem dX7_whyNot_10 : decode cX7_whyNot 10 = .ok (.aload_n 0, 1) := by decide +kernel
theorem dX7_whyNot_11 : decode cX7_whyNot 11 = .ok (.iload_n 1, 1) := by decide +kernel
theorem dX7_whyNot_12 : decode cX7_whyNot 12 = .ok (.invokevirtual 70, 3) := by decide +kernel
theorem dX7_whyNot_15 : decode cX7_whyNot 15 = .ok (.ifCond .eq 11, 3) := by decide +kernel
theorem dX7_whyNot_18 : decode cX7_whyNot 18 = .ok (.aload_n 0, 1) := by decide +kernel
theorem dX7_whyNot_19 : decode cX7_whyNot 19 = .ok (.iload_n 1, 1) := by decide +kernel
theorem dX7_whyNot_20 : decode cX7_whyNot 20 = .ok (.invokevirtual 92, 3) := by decide +kernel
theorem dX7_whyNot_23 : decode cX7_whyNot 23 = .ok (.goto 5, 3) := by decide +kernel
theorem dX7_whyNot_26 : decode cX7_whyNot 26 = .ok (.bipush (-4), 2) := by decide +kernel
theorem dX7_whyNot_28 : decode cX7_whyNot 28 = .ok (.ireturn, 1) := by decide +kernel
theorem dX7_note_0 : decode cX7_note 0 = .ok (.sipush 216, 3) := by decide +kernel
theorem dX7_note_3 : decode cX7_note 3 = .ok (.iconst 3, 1) := by decide +kernel
theorem dX7_note_4 : decode cX7_note 4 = .ok (.aload_n 0, 1) := by decide +kernel
theorem dX7_note_5 : decode cX7_note 5 = .ok (.getfield 7, 3) := by decide +kernel
theorem dX7_note_8 : decode cX7_note 8 = .ok (.bipush 6, 2) := by decide +kernel
theorem dX7_note_10 : decode cX7_note 10 = .ok (.iaload, 1) := by decide +kernel
theorem dX7_note_11 : decode cX7_note 11 = .ok (.bipush 10, 2) := by decide +kernel
theorem dX7_note_13 : decode cX7_note 13 = .ok (.irem, 1) := by decide +kernel
theorem dX7_note_14 : decode cX7_note 14 = .ok (.imul, 1) := by decide +kernel
theorem dX7_note_15 : decode cX7_note 15 = .ok (.iadd, 1) := by decide +kernel
theorem dX7_note_16 : decode cX7_note 16 = .ok (.istore_n 3, 1) := by decide +kernel
theorem dX7_note_17 : decode cX7_note 17 = .ok (.aload_n 0, 1) := by decide +kernel
theorem dX7_note_18 : decode cX7_note 18 = .ok (.getfield 7, 3) := by decide +kernel
theorem dX7_note_21 : decode cX7_note 21 = .ok (.iload_n 3, 1) := by decide +kernel
theorem dX7_note_22 : decode cX7_note 22 = .ok (.aload_n 0, 1) := by decide +kernel
theorem dX7_note_23 : decode cX7_note 23 = .ok (.getfield 7, 3) := by decide +kernel
theorem dX7_note_26 : decode cX7_note 26 = .ok (.iconst 1, 1) := by decide +kernel
theorem dX7_note_27 : decode cX7_note 27 = .ok (.iaload, 1) := by decide +kernel
theorem dX7_note_28 : decode cX7_note 28 = .ok (.iastore, 1) := by decide +kernel
theorem dX7_note_29 : decode cX7_note 29 = .ok (.aload_n 0, 1) := by decide +kernel
theorem dX7_note_30 : decode cX7_note 30 = .ok (.getfield 7, 3) := by decide +kernel
theorem dX7_note_33 : decode cX7_note 33 = .ok (.iload_n 3, 1) := by decide +kernel
theorem dX7_note_34 : decode cX7_note 34 = .ok (.iconst 1, 1) := by decide +kernel
theorem dX7_note_35 : decode cX7_note 35 = .ok (.iadd, 1) := by decide +kernel
theorem dX7_note_36 : decode cX7_note 36 = .ok (.iload_n 1, 1) := by decide +kernel
theorem dX7_note_37 : decode cX7_note 37 = .ok (.iastore, 1) := by decide +kernel
theorem dX7_note_38 : decode cX7_note 38 = .ok (.aload_n 0, 1) := by decide +kernel
theorem dX7_note_39 : decode cX7_note 39 = .ok (.getfield 7, 3) := by decide +kernel
theorem dX7_note_42 : decode cX7_note 42 = .ok (.iload_n 3, 1) := by decide +kernel
theorem dX7_note_43 : decode cX7_note 43 = .ok (.iconst 2, 1) := by decide +kernel
theorem dX7_note_44 : decode cX7_note 44 = .ok (.iadd, 1) := by decide +kernel
theorem dX7_note_45 : decode cX7_note 45 = .ok (.iload_n 2, 1) := by decide +kernel
theorem dX7_note_46 : decode cX7_note 46 = .ok (.iastore, 1) := by decide +kernel
theorem dX7_note_47 : decode cX7_note 47 = .ok (.aload_n 0, 1) := by decide +kernel
theorem dX7_note_48 : decode cX7_note 48 = .ok (.getfield 7, 3) := by decide +kernel
theorem dX7_note_51 : decode cX7_note 51 = .ok (.bipush 6, 2) := by decide +kernel
theorem dX7_note_53 : decode cX7_note 53 = .ok (.dup2, 1) := by decide +kernel
theorem dX7_note_54 : decode cX7_note 54 = .ok (.iaload, 1) := by decide +kernel
theorem dX7_note_55 : decode cX7_note 55 = .ok (.iconst 1, 1) := by decide +kernel
theorem dX7_note_56 : decode cX7_note 56 = .ok (.iadd, 1) := by decide +kernel
theorem dX7_note_57 : decode cX7_note 57 = .ok (.iastore, 1) := by decide +kernel
theorem dX7_note_58 : decode cX7_note 58 = .ok (.return_, 1) := by decide +kernel
theorem dX7_event_0 : decode cX7_event 0 = .ok (.iload_n 1, 1) := by decide +kernel
theorem dX7_event_1 : decode cX7_event 1 = .ok (.ifCond .lt 12, 3) := by decide +kernel
theorem dX7_event_4 : decode cX7_event 4 = .ok (.iload_n 2, 1) := by decide +kernel
theorem dX7_event_5 : decode cX7_event 5 = .ok (.iconst 0, 1) := by decide +kernel
theorem dX7_event_6 : decode cX7_event 6 = .ok (.iconst 2, 1) := by decide +kernel
theorem dX7_event_7 : decode cX7_event 7 = .ok (.invokestatic 33, 3) := by decide +kernel
theorem dX7_event_10 : decode cX7_event 10 = .ok (.ifCond .ne 6, 3) := by decide +kernel
theorem dX7_event_13 : decode cX7_event 13 = .ok (.bipush (-2), 2) := by decide +kernel
theorem dX7_event_15 : decode cX7_event 15 = .ok (.ireturn, 1) := by decide +kernel
theorem dX7_event_16 : decode cX7_event 16 = .ok (.iload_n 1, 1) := by decide +kernel
theorem dX7_event_17 : decode cX7_event 17 = .ok (.bipush 10, 2) := by decide +kernel
theorem dX7_event_19 : decode cX7_event 19 = .ok (.if_icmp .ge 14, 3) := by decide +kernel
theorem dX7_event_22 : decode cX7_event 22 = .ok (.iload_n 1, 1) := by decide +kernel
theorem dX7_event_23 : decode cX7_event 23 = .ok (.aload_n 0, 1) := by decide +kernel
theorem dX7_event_24 : decode cX7_event 24 = .ok (.getfield 7, 3) := by decide +kernel
theorem dX7_event_27 : decode cX7_event 27 = .ok (.bipush 6, 2) := by decide +kernel
theorem dX7_event_29 : decode cX7_event 29 = .ok (.iaload, 1) := by decide +kernel
theorem dX7_event_30 : decode cX7_event 30 = .ok (.if_icmp .lt 6, 3) := by decide +kernel
theorem dX7_event_33 : decode cX7_event 33 = .ok (.bipush (-4), 2) := by decide +kernel
theorem dX7_event_35 : decode cX7_event 35 = .ok (.ireturn, 1) := by decide +kernel
theorem dX7_event_36 : decode cX7_event 36 = .ok (.aload_n 0, 1) := by decide +kernel
theorem dX7_event_37 : decode cX7_event 37 = .ok (.getfield 7, 3) := by decide +kernel
theorem dX7_event_40 : decode cX7_event 40 = .ok (.sipush 216, 3) := by decide +kernel
theorem dX7_event_43 : decode cX7_event 43 = .ok (.iconst 3, 1) := by decide +kernel
theorem dX7_event_44 : decode cX7_event 44 = .ok (.aload_n 0, 1) := by decide +kernel
theorem dX7_event_45 : decode cX7_event 45 = .ok (.getfield 7, 3) := by decide +kernel
theorem dX7_event_48 : decode cX7_event 48 = .ok (.bipush 6, 2) := by decide +kernel
theorem dX7_event_50 : decode cX7_event 50 = .ok (.iaload, 1) := by decide +kernel
theorem dX7_event_51 : decode cX7_event 51 = .ok (.iconst 1, 1) := by decide +kernel
theorem dX7_event_52 : decode cX7_event 52 = .ok (.isub, 1) := by decide +kernel
theorem dX7_event_53 : decode cX7_event 53 = .ok (.iload_n 1, 1) := by decide +kernel
theorem dX7_event_54 : decode cX7_event 54 = .ok (.isub, 1) := by decide +kernel
theorem dX7_event_55 : decode cX7_event 55 = .ok (.bipush 10, 2) := by decide +kernel
theorem dX7_event_57 : decode cX7_event 57 = .ok (.irem, 1) := by decide +kernel
theorem dX7_event_58 : decode cX7_event 58 = .ok (.imul, 1) := by decide +kernel
theorem dX7_event_59 : decode cX7_event 59 = .ok (.iadd, 1) := by decide +kernel
theorem dX7_event_60 : decode cX7_event 60 = .ok (.iload_n 2, 1) := by decide +kernel
theorem dX7_event_61 : decode cX7_event 61 = .ok (.iadd, 1) := by decide +kernel
theorem dX7_event_62 : decode cX7_event 62 = .ok (.iaload, 1) := by decide +kernel
theorem dX7_event_63 : decode cX7_event 63 = .ok (.ireturn, 1) := by decide +kernel
theorem dX7_trip_0 : decode cX7_trip 0 = .ok (.aload_n 0, 1) := by decide +kernel
theorem dX7_trip_1 : decode cX7_trip 1 = .ok (.iload_n 1, 1) := by decide +kernel
theorem dX7_trip_2 : decode cX7_trip 2 = .ok (.iconst 5, 1) := by decide +kernel
theorem dX7_trip_3 : decode cX7_trip 3 = .ok (.iconst 4, 1) := by decide +kernel
theorem dX7_trip_4 : decode cX7_trip 4 = .ok (.invokevirtual 45, 3) := by decide +kernel
theorem dX7_trip_7 : decode cX7_trip 7 = .ok (.aload_n 0, 1) := by decide +kernel
theorem dX7_trip_8 : decode cX7_trip 8 = .ok (.iload_n 1, 1) := by decide +kernel
theorem dX7_trip_9 : decode cX7_trip 9 = .ok (.bipush 11, 2) := by decide +kernel
theorem dX7_trip_11 : decode cX7_trip 11 = .ok (.iload_n 2, 1) := by decide +kernel
theorem dX7_trip_12 : decode cX7_trip 12 = .ok (.invokevirtual 45, 3) := by decide +kernel
theorem dX7_trip_15 : decode cX7_trip 15 = .ok (.aload_n 0, 1) := by decide +kernel
theorem dX7_trip_16 : decode cX7_trip 16 = .ok (.iload_n 1, 1) := by decide +kernel
theorem dX7_trip_17 : decode cX7_trip 17 = .ok (.bipush 15, 2) := by decide +kernel
theorem dX7_trip_19 : decode cX7_trip 19 = .ok (.iconst 1, 1) := by decide +kernel
theorem dX7_trip_20 : decode cX7_trip 20 = .ok (.invokevirtual 95, 3) := by decide +kernel
theorem dX7_trip_23 : decode cX7_trip 23 = .ok (.aload_n 0, 1) := by decide +kernel
theorem dX7_trip_24 : decode cX7_trip 24 = .ok (.iload_n 1, 1) := by decide +kernel
theorem dX7_trip_25 : decode cX7_trip 25 = .ok (.iload_n 2, 1) := by decide +kernel
theorem dX7_trip_26 : decode cX7_trip 26 = .ok (.iconst 2, 1) := by decide +kernel
theorem dX7_trip_27 : decode cX7_trip 27 = .ok (.if_icmp .ne 7, 3) := by decide +kernel
theorem dX7_trip_30 : decode cX7_trip 30 = .ok (.iconst 4, 1) := by decide +kernel
theorem dX7_trip_31 : decode cX7_trip 31 = .ok (.goto 4, 3) := by decide +kernel
theorem dX7_trip_34 : decode cX7_trip 34 = .ok (.iconst 5, 1) := by decide +kernel
theorem dX7_trip_35 : decode cX7_trip 35 = .ok (.invokevirtual 98, 3) := by decide +kernel
theorem dX7_trip_38 : decode cX7_trip 38 = .ok (.return_, 1) := by decide +kernel
theorem dX7_wrongIn_0 : decode cX7_wrongIn 0 = .ok (.iload_n 1, 1) := by decide +kernel
theorem dX7_wrongIn_1 : decode cX7_wrongIn 1 = .ok (.iconst 4, 1) := by decide +kernel
theorem dX7_wrongIn_2 : decode cX7_wrongIn 2 = .ok (.if_icmp .ne 20, 3) := by decide +kernel
theorem dX7_wrongIn_5 : decode cX7_wrongIn 5 = .ok (.aload_n 0, 1) := by decide +kernel
theorem dX7_wrongIn_6 : decode cX7_wrongIn 6 = .ok (.getfield 7, 3) := by decide +kernel
theorem dX7_wrongIn_9 : decode cX7_wrongIn 9 = .ok (.iconst 3, 1) := by decide +kernel
theorem dX7_wrongIn_10 : decode cX7_wrongIn 10 = .ok (.iaload, 1) := by decide +kernel
theorem dX7_wrongIn_11 : decode cX7_wrongIn 11 = .ok (.iload_n 2, 1) := by decide +kernel
theorem dX7_wrongIn_12 : decode cX7_wrongIn 12 = .ok (.if_icmp .ne 8, 3) := by decide +kernel
theorem dX7_wrongIn_15 : decode cX7_wrongIn 15 = .ok (.bipush (-4), 2) := by decide +kernel
theorem dX7_wrongIn_17 : decode cX7_wrongIn 17 = .ok (.goto 4, 3) := by decide +kernel
theorem dX7_wrongIn_20 : decode cX7_wrongIn 20 = .ok (.iconst 0, 1) := by decide +kernel
theorem dX7_wrongIn_21 : decode cX7_wrongIn 21 = .ok (.ireturn, 1) := by decide +kernel
theorem dX7_wrongIn_22 : decode cX7_wrongIn 22 = .ok (.aload_n 0, 1) := by decide +kernel
theorem dX7_wrongIn_23 : decode cX7_wrongIn 23 = .ok (.iload_n 2, 1) := by decide +kernel
theorem dX7_wrongIn_24 : decode cX7_wrongIn 24 = .ok (.invokevirtual 49, 3) := by decide +kernel
theorem dX7_wrongIn_27 : decode cX7_wrongIn 27 = .ok (.ifCond .eq 5, 3) := by decide +kernel
theorem dX7_wrongIn_30 : decode cX7_wrongIn 30 = .ok (.iconst (-1), 1) := by decide +kernel
theorem dX7_wrongIn_31 : decode cX7_wrongIn 31 = .ok (.ireturn, 1) := by decide +kernel
theorem dX7_wrongIn_32 : decode cX7_wrongIn 32 = .ok (.aload_n 0, 1) := by decide +kernel
theorem dX7_wrongIn_33 : decode cX7_wrongIn 33 = .ok (.iload_n 2, 1) := by decide +kernel
theorem dX7_wrongIn_34 : decode cX7_wrongIn 34 = .ok (.iconst 5, 1) := by decide +kernel
theorem dX7_wrongIn_35 : decode cX7_wrongIn 35 = .ok (.invokevirtual 53, 3) := by decide +kernel
theorem dX7_wrongIn_38 : decode cX7_wrongIn 38 = .ok (.istore 4, 2) := by decide +kernel
theorem dX7_wrongIn_40 : decode cX7_wrongIn 40 = .ok (.iload_n 1, 1) := by decide +kernel
theorem dX7_wrongIn_41 : decode cX7_wrongIn 41 = .ok (.ifCond .ne 14, 3) := by decide +kernel
theorem dX7_wrongIn_44 : decode cX7_wrongIn 44 = .ok (.iload 4, 2) := by decide +kernel
theorem dX7_wrongIn_46 : decode cX7_wrongIn 46 = .ok (.ifCond .ne 7, 3) := by decide +kernel
theorem dX7_wrongIn_49 : decode cX7_wrongIn 49 = .ok (.iconst 0, 1) := by decide +kernel
theorem dX7_wrongIn_50 : decode cX7_wrongIn 50 = .ok (.goto 4, 3) := by decide +kernel
theorem dX7_wrongIn_53 : decode cX7_wrongIn 53 = .ok (.iconst 1, 1) := by decide +kernel
theorem dX7_wrongIn_54 : decode cX7_wrongIn 54 = .ok (.ireturn, 1) := by decide +kernel
theorem dX7_wrongIn_55 : decode cX7_wrongIn 55 = .ok (.iload_n 1, 1) := by decide +kernel
theorem dX7_wrongIn_56 : decode cX7_wrongIn 56 = .ok (.iconst 1, 1) := by decide +kernel
theorem dX7_wrongIn_57 : decode cX7_wrongIn 57 = .ok (.if_icmp .ne 20, 3) := by decide +kernel
theorem dX7_wrongIn_60 : decode cX7_wrongIn 60 = .ok (.iload 4, 2) := by decide +kernel
theorem dX7_wrongIn_62 : decode cX7_wrongIn 62 = .ok (.ifCond .eq 9, 3) := by decide +kernel
theorem dX7_wrongIn_65 : decode cX7_wrongIn 65 = .ok (.iload 4, 2) := by decide +kernel
theorem dX7_wrongIn_67 : decode cX7_wrongIn 67 = .ok (.iconst 4, 1) := by decide +kernel
theorem dX7_wrongIn_68 : decode cX7_wrongIn 68 = .ok (.if_icmp .ne 7, 3) := by decide +kernel
theorem dX7_wrongIn_71 : decode cX7_wrongIn 71 = .ok (.iconst 1, 1) := by decide +kernel
theorem dX7_wrongIn_72 : decode cX7_wrongIn 72 = .ok (.goto 4, 3) := by decide +kernel
theorem dX7_wrongIn_75 : decode cX7_wrongIn 75 = .ok (.iconst 0, 1) := by decide +kernel
theorem dX7_wrongIn_76 : decode cX7_wrongIn 76 = .ok (.ireturn, 1) := by decide +kernel
theorem dX7_wrongIn_77 : decode cX7_wrongIn 77 = .ok (.iload_n 1, 1) := by decide +kernel
theorem dX7_wrongIn_78 : decode cX7_wrongIn 78 = .ok (.iconst 2, 1) := by decide +kernel
theorem dX7_wrongIn_79 : decode cX7_wrongIn 79 = .ok (.if_icmp .ne 21, 3) := by decide +kernel
theorem dX7_wrongIn_82 : decode cX7_wrongIn 82 = .ok (.aload_n 0, 1) := by decide +kernel
theorem dX7_wrongIn_83 : decode cX7_wrongIn 83 = .ok (.iload_n 2, 1) := by decide +kernel
theorem dX7_wrongIn_84 : decode cX7_wrongIn 84 = .ok (.bipush 7, 2) := by decide +kernel
theorem dX7_wrongIn_86 : decode cX7_wrongIn 86 = .ok (.invokevirtual 53, 3) := by decide +kernel
theorem dX7_wrongIn_89 : decode cX7_wrongIn 89 = .ok (.iload_n 3, 1) := by decide +kernel
theorem dX7_wrongIn_90 : decode cX7_wrongIn 90 = .ok (.if_icmp .ne 8, 3) := by decide +kernel
theorem dX7_wrongIn_93 : decode cX7_wrongIn 93 = .ok (.bipush (-4), 2) := by decide +kernel
theorem dX7_wrongIn_95 : decode cX7_wrongIn 95 = .ok (.goto 4, 3) := by decide +kernel
theorem dX7_wrongIn_98 : decode cX7_wrongIn 98 = .ok (.iconst 0, 1) := by decide +kernel
theorem dX7_wrongIn_99 : decode cX7_wrongIn 99 = .ok (.ireturn, 1) := by decide +kernel
theorem dX7_wrongIn_100 : decode cX7_wrongIn 100 = .ok (.iload 4, 2) := by decide +kernel
theorem dX7_wrongIn_102 : decode cX7_wrongIn 102 = .ok (.iconst 4, 1) := by decide +kernel
theorem dX7_wrongIn_103 : decode cX7_wrongIn 103 = .ok (.if_icmp .eq 5, 3) := by decide +kernel
theorem dX7_wrongIn_106 : decode cX7_wrongIn 106 = .ok (.iconst 1, 1) := by decide +kernel
theorem dX7_wrongIn_107 : decode cX7_wrongIn 107 = .ok (.ireturn, 1) := by decide +kernel
theorem dX7_wrongIn_108 : decode cX7_wrongIn 108 = .ok (.aload_n 0, 1) := by decide +kernel
theorem dX7_wrongIn_109 : decode cX7_wrongIn 109 = .ok (.iload_n 2, 1) := by decide +kernel
theorem dX7_wrongIn_110 : decode cX7_wrongIn 110 = .ok (.bipush 7, 2) := by decide +kernel
theorem dX7_wrongIn_112 : decode cX7_wrongIn 112 = .ok (.invokevirtual 53, 3) := by decide +kernel
theorem dX7_wrongIn_115 : decode cX7_wrongIn 115 = .ok (.ifCond .eq 7, 3) := by decide +kernel
theorem dX7_wrongIn_118 : decode cX7_wrongIn 118 = .ok (.iconst 4, 1) := by decide +kernel
theorem dX7_wrongIn_119 : decode cX7_wrongIn 119 = .ok (.goto 26, 3) := by decide +kernel
theorem dX7_wrongIn_122 : decode cX7_wrongIn 122 = .ok (.aload_n 0, 1) := by decide +kernel
theorem dX7_wrongIn_123 : decode cX7_wrongIn 123 = .ok (.iload_n 2, 1) := by decide +kernel
theorem dX7_wrongIn_124 : decode cX7_wrongIn 124 = .ok (.bipush 6, 2) := by decide +kernel
theorem dX7_wrongIn_126 : decode cX7_wrongIn 126 = .ok (.invokevirtual 53, 3) := by decide +kernel
theorem dX7_wrongIn_129 : decode cX7_wrongIn 129 = .ok (.aload_n 0, 1) := by decide +kernel
theorem dX7_wrongIn_130 : decode cX7_wrongIn 130 = .ok (.iload_n 2, 1) := by decide +kernel
theorem dX7_wrongIn_131 : decode cX7_wrongIn 131 = .ok (.iconst 3, 1) := by decide +kernel
theorem dX7_wrongIn_132 : decode cX7_wrongIn 132 = .ok (.invokevirtual 53, 3) := by decide +kernel
theorem dX7_wrongIn_135 : decode cX7_wrongIn 135 = .ok (.iconst 2, 1) := by decide +kernel
theorem dX7_wrongIn_136 : decode cX7_wrongIn 136 = .ok (.idiv, 1) := by decide +kernel
theorem dX7_wrongIn_137 : decode cX7_wrongIn 137 = .ok (.if_icmp .le 7, 3) := by decide +kernel
theorem dX7_wrongIn_140 : decode cX7_wrongIn 140 = .ok (.iconst 2, 1) := by decide +kernel
theorem dX7_wrongIn_141 : decode cX7_wrongIn 141 = .ok (.goto 4, 3) := by decide +kernel
theorem dX7_wrongIn_144 : decode cX7_wrongIn 144 = .ok (.iconst 0, 1) := by decide +kernel
theorem dX7_wrongIn_145 : decode cX7_wrongIn 145 = .ok (.ireturn, 1) := by decide +kernel
theorem dX7_carryOut_0 : decode cX7_carryOut 0 = .ok (.iload_n 1, 1) := by decide +kernel
theorem dX7_carryOut_1 : decode cX7_carryOut 1 = .ok (.tableswitch 118 0 3 #[31, 54, 70, 101], 31) := by decide +kernel
theorem dX7_carryOut_32 : decode cX7_carryOut 32 = .ok (.aload_n 0, 1) := by decide +kernel
theorem dX7_carryOut_33 : decode cX7_carryOut 33 = .ok (.iload_n 2, 1) := by decide +kernel
theorem dX7_carryOut_34 : decode cX7_carryOut 34 = .ok (.iconst 5, 1) := by decide +kernel
theorem dX7_carryOut_35 : decode cX7_carryOut 35 = .ok (.iconst 1, 1) := by decide +kernel
theorem dX7_carryOut_36 : decode cX7_carryOut 36 = .ok (.invokevirtual 45, 3) := by decide +kernel
theorem dX7_carryOut_39 : decode cX7_carryOut 39 = .ok (.aload_n 0, 1) := by decide +kernel
theorem dX7_carryOut_40 : decode cX7_carryOut 40 = .ok (.iload_n 2, 1) := by decide +kernel
theorem dX7_carryOut_41 : decode cX7_carryOut 41 = .ok (.bipush 9, 2) := by decide +kernel
theorem dX7_carryOut_43 : decode cX7_carryOut 43 = .ok (.aload_n 0, 1) := by decide +kernel
theorem dX7_carryOut_44 : decode cX7_carryOut 44 = .ok (.getfield 7, 3) := by decide +kernel
theorem dX7_carryOut_47 : decode cX7_carryOut 47 = .ok (.iconst 1, 1) := by decide +kernel
theorem dX7_carryOut_48 : decode cX7_carryOut 48 = .ok (.iaload, 1) := by decide +kernel
theorem dX7_carryOut_49 : decode cX7_carryOut 49 = .ok (.invokevirtual 45, 3) := by decide +kernel
theorem dX7_carryOut_52 : decode cX7_carryOut 52 = .ok (.goto 74, 3) := by decide +kernel
theorem dX7_carryOut_55 : decode cX7_carryOut 55 = .ok (.aload_n 0, 1) := by decide +kernel
theorem dX7_carryOut_56 : decode cX7_carryOut 56 = .ok (.iload_n 2, 1) := by decide +kernel
theorem dX7_carryOut_57 : decode cX7_carryOut 57 = .ok (.iconst 5, 1) := by decide +kernel
theorem dX7_carryOut_58 : decode cX7_carryOut 58 = .ok (.iconst 0, 1) := by decide +kernel
theorem dX7_carryOut_59 : decode cX7_carryOut 59 = .ok (.invokevirtual 45, 3) := by decide +kernel
theorem dX7_carryOut_62 : decode cX7_carryOut 62 = .ok (.aload_n 0, 1) := by decide +kernel
theorem dX7_carryOut_63 : decode cX7_carryOut 63 = .ok (.iload_n 2, 1) := by decide +kernel
theorem dX7_carryOut_64 : decode cX7_carryOut 64 = .ok (.iconst 3, 1) := by decide +kernel
theorem dX7_carryOut_65 : decode cX7_carryOut 65 = .ok (.invokevirtual 98, 3) := by decide +kernel
theorem dX7_carryOut_68 : decode cX7_carryOut 68 = .ok (.goto 58, 3) := by decide +kernel
theorem dX7_carryOut_71 : decode cX7_carryOut 71 = .ok (.aload_n 0, 1) := by decide +kernel
theorem dX7_carryOut_72 : decode cX7_carryOut 72 = .ok (.iload_n 2, 1) := by decide +kernel
theorem dX7_carryOut_73 : decode cX7_carryOut 73 = .ok (.bipush 7, 2) := by decide +kernel
theorem dX7_carryOut_75 : decode cX7_carryOut 75 = .ok (.iload_n 3, 1) := by decide +kernel
theorem dX7_carryOut_76 : decode cX7_carryOut 76 = .ok (.invokevirtual 45, 3) := by decide +kernel
theorem dX7_carryOut_79 : decode cX7_carryOut 79 = .ok (.iload_n 3, 1) := by decide +kernel
theorem dX7_carryOut_80 : decode cX7_carryOut 80 = .ok (.ifCond .eq 46, 3) := by decide +kernel
theorem dX7_carryOut_83 : decode cX7_carryOut 83 = .ok (.aload_n 0, 1) := by decide +kernel
theorem dX7_carryOut_84 : decode cX7_carryOut 84 = .ok (.iload_n 2, 1) := by decide +kernel
theorem dX7_carryOut_85 : decode cX7_carryOut 85 = .ok (.iconst 5, 1) := by decide +kernel
theorem dX7_carryOut_86 : decode cX7_carryOut 86 = .ok (.invokevirtual 53, 3) := by decide +kernel
theorem dX7_carryOut_89 : decode cX7_carryOut 89 = .ok (.iconst 2, 1) := by decide +kernel
theorem dX7_carryOut_90 : decode cX7_carryOut 90 = .ok (.if_icmp .ne 36, 3) := by decide +kernel
theorem dX7_carryOut_93 : decode cX7_carryOut 93 = .ok (.aload_n 0, 1) := by decide +kernel
theorem dX7_carryOut_94 : decode cX7_carryOut 94 = .ok (.iload_n 2, 1) := by decide +kernel
theorem dX7_carryOut_95 : decode cX7_carryOut 95 = .ok (.iconst 4, 1) := by decide +kernel
theorem dX7_carryOut_96 : decode cX7_carryOut 96 = .ok (.invokevirtual 102, 3) := by decide +kernel
theorem dX7_carryOut_99 : decode cX7_carryOut 99 = .ok (.goto 27, 3) := by decide +kernel
theorem dX7_carryOut_102 : decode cX7_carryOut 102 = .ok (.aload_n 0, 1) := by decide +kernel
theorem dX7_carryOut_103 : decode cX7_carryOut 103 = .ok (.iload_n 2, 1) := by decide +kernel
theorem dX7_carryOut_104 : decode cX7_carryOut 104 = .ok (.iconst 5, 1) := by decide +kernel
theorem dX7_carryOut_105 : decode cX7_carryOut 105 = .ok (.iconst 0, 1) := by decide +kernel
theorem dX7_carryOut_106 : decode cX7_carryOut 106 = .ok (.invokevirtual 45, 3) := by decide +kernel
theorem dX7_carryOut_109 : decode cX7_carryOut 109 = .ok (.aload_n 0, 1) := by decide +kernel
theorem dX7_carryOut_110 : decode cX7_carryOut 110 = .ok (.iload_n 2, 1) := by decide +kernel
theorem dX7_carryOut_111 : decode cX7_carryOut 111 = .ok (.bipush 6, 2) := by decide +kernel
theorem dX7_carryOut_113 : decode cX7_carryOut 113 = .ok (.invokevirtual 98, 3) := by decide +kernel
theorem dX7_carryOut_116 : decode cX7_carryOut 116 = .ok (.goto 10, 3) := by decide +kernel
theorem dX7_carryOut_119 : decode cX7_carryOut 119 = .ok (.aload_n 0, 1) := by decide +kernel
theorem dX7_carryOut_120 : decode cX7_carryOut 120 = .ok (.getfield 7, 3) := by decide +kernel
theorem dX7_carryOut_123 : decode cX7_carryOut 123 = .ok (.iconst 3, 1) := by decide +kernel
theorem dX7_carryOut_124 : decode cX7_carryOut 124 = .ok (.iload_n 2, 1) := by decide +kernel
theorem dX7_carryOut_125 : decode cX7_carryOut 125 = .ok (.iastore, 1) := by decide +kernel
theorem dX7_carryOut_126 : decode cX7_carryOut 126 = .ok (.return_, 1) := by decide +kernel
theorem dX7_orders_0 : decode cX7_orders 0 = .ok (.aload_n 0, 1) := by decide +kernel
theorem dX7_orders_1 : decode cX7_orders 1 = .ok (.iload_n 1, 1) := by decide +kernel
theorem dX7_orders_2 : decode cX7_orders 2 = .ok (.iload_n 2, 1) := by decide +kernel
theorem dX7_orders_3 : decode cX7_orders 3 = .ok (.iload_n 3, 1) := by decide +kernel
theorem dX7_orders_4 : decode cX7_orders 4 = .ok (.invokevirtual 105, 3) := by decide +kernel
theorem dX7_orders_7 : decode cX7_orders 7 = .ok (.istore 4, 2) := by decide +kernel
theorem dX7_orders_9 : decode cX7_orders 9 = .ok (.iload 4, 2) := by decide +kernel
theorem dX7_orders_11 : decode cX7_orders 11 = .ok (.ifCond .le 10, 3) := by decide +kernel
theorem dX7_orders_14 : decode cX7_orders 14 = .ok (.aload_n 0, 1) := by decide +kernel
theorem dX7_orders_15 : decode cX7_orders 15 = .ok (.iload 4, 2) := by decide +kernel
theorem dX7_orders_17 : decode cX7_orders 17 = .ok (.invokevirtual 38, 3) := by decide +kernel
theorem dX7_orders_20 : decode cX7_orders 20 = .ok (.ireturn, 1) := by decide +kernel
theorem dX7_orders_21 : decode cX7_orders 21 = .ok (.iload 4, 2) := by decide +kernel
theorem dX7_orders_23 : decode cX7_orders 23 = .ok (.ifCond .ge 6, 3) := by decide +kernel
theorem dX7_orders_26 : decode cX7_orders 26 = .ok (.iload 4, 2) := by decide +kernel
theorem dX7_orders_28 : decode cX7_orders 28 = .ok (.ireturn, 1) := by decide +kernel
theorem dX7_orders_29 : decode cX7_orders 29 = .ok (.aload_n 0, 1) := by decide +kernel
theorem dX7_orders_30 : decode cX7_orders 30 = .ok (.invokevirtual 42, 3) := by decide +kernel
theorem dX7_orders_33 : decode cX7_orders 33 = .ok (.aload_n 0, 1) := by decide +kernel
theorem dX7_orders_34 : decode cX7_orders 34 = .ok (.iload_n 1, 1) := by decide +kernel
theorem dX7_orders_35 : decode cX7_orders 35 = .ok (.iload_n 2, 1) := by decide +kernel
theorem dX7_orders_36 : decode cX7_orders 36 = .ok (.iload_n 3, 1) := by decide +kernel
theorem dX7_orders_37 : decode cX7_orders 37 = .ok (.invokevirtual 108, 3) := by decide +kernel
theorem dX7_orders_40 : decode cX7_orders 40 = .ok (.iconst 0, 1) := by decide +kernel
theorem dX7_orders_41 : decode cX7_orders 41 = .ok (.ireturn, 1) := by decide +kernel
theorem dX7_request_0 : decode cX7_request 0 = .ok (.aload_n 0, 1) := by decide +kernel
theorem dX7_request_1 : decode cX7_request 1 = .ok (.iconst 0, 1) := by decide +kernel
theorem dX7_request_2 : decode cX7_request 2 = .ok (.iload_n 1, 1) := by decide +kernel
theorem dX7_request_3 : decode cX7_request 3 = .ok (.iconst 0, 1) := by decide +kernel
theorem dX7_request_4 : decode cX7_request 4 = .ok (.invokevirtual 111, 3) := by decide +kernel
theorem dX7_request_7 : decode cX7_request 7 = .ok (.istore_n 2, 1) := by decide +kernel
theorem dX7_request_8 : decode cX7_request 8 = .ok (.iload_n 2, 1) := by decide +kernel
theorem dX7_request_9 : decode cX7_request 9 = .ok (.ifCond .ge 7, 3) := by decide +kernel
theorem dX7_request_12 : decode cX7_request 12 = .ok (.iload_n 2, 1) := by decide +kernel
theorem dX7_request_13 : decode cX7_request 13 = .ok (.goto 8, 3) := by decide +kernel
theorem dX7_request_16 : decode cX7_request 16 = .ok (.aload_n 0, 1) := by decide +kernel
theorem dX7_request_17 : decode cX7_request 17 = .ok (.iload_n 1, 1) := by decide +kernel
theorem dX7_request_18 : decode cX7_request 18 = .ok (.invokevirtual 77, 3) := by decide +kernel
theorem dX7_request_21 : decode cX7_request 21 = .ok (.ireturn, 1) := by decide +kernel
theorem dX7_stop_0 : decode cX7_stop 0 = .ok (.aload_n 0, 1) := by decide +kernel
theorem dX7_stop_1 : decode cX7_stop 1 = .ok (.iload_n 1, 1) := by decide +kernel
theorem dX7_stop_2 : decode cX7_stop 2 = .ok (.invokevirtual 49, 3) := by decide +kernel
theorem dX7_stop_5 : decode cX7_stop 5 = .ok (.ifCond .eq 7, 3) := by decide +kernel
theorem dX7_stop_8 : decode cX7_stop 8 = .ok (.iconst 0, 1) := by decide +kernel
theorem dX7_stop_9 : decode cX7_stop 9 = .ok (.goto 9, 3) := by decide +kernel
theorem dX7_stop_12 : decode cX7_stop 12 = .ok (.aload_n 0, 1) := by decide +kernel
theorem dX7_stop_13 : decode cX7_stop 13 = .ok (.iload_n 1, 1) := by decide +kernel
theorem dX7_stop_14 : decode cX7_stop 14 = .ok (.iconst 5, 1) := by decide +kernel
theorem dX7_stop_15 : decode cX7_stop 15 = .ok (.invokevirtual 53, 3) := by decide +kernel
theorem dX7_stop_18 : decode cX7_stop 18 = .ok (.istore_n 2, 1) := by decide +kernel
theorem dX7_stop_19 : decode cX7_stop 19 = .ok (.aload_n 0, 1) := by decide +kernel
theorem dX7_stop_20 : decode cX7_stop 20 = .ok (.iconst 1, 1) := by decide +kernel
theorem dX7_stop_21 : decode cX7_stop 21 = .ok (.iload_n 1, 1) := by decide +kernel
theorem dX7_stop_22 : decode cX7_stop 22 = .ok (.iconst 0, 1) := by decide +kernel
theorem dX7_stop_23 : decode cX7_stop 23 = .ok (.invokevirtual 111, 3) := by decide +kernel
theorem dX7_stop_26 : decode cX7_stop 26 = .ok (.istore_n 3, 1) := by decide +kernel
theorem dX7_stop_27 : decode cX7_stop 27 = .ok (.iload_n 3, 1) := by decide +kernel
theorem dX7_stop_28 : decode cX7_stop 28 = .ok (.ifCond .ge 7, 3) := by decide +kernel
theorem dX7_stop_31 : decode cX7_stop 31 = .ok (.iload_n 3, 1) := by decide +kernel
theorem dX7_stop_32 : decode cX7_stop 32 = .ok (.goto 4, 3) := by decide +kernel
theorem dX7_stop_35 : decode cX7_stop 35 = .ok (.iload_n 2, 1) := by decide +kernel
theorem dX7_stop_36 : decode cX7_stop 36 = .ok (.ireturn, 1) := by decide +kernel
theorem dX7_losePhases_0 : decode cX7_losePhases 0 = .ok (.aload_n 0, 1) := by decide +kernel
theorem dX7_losePhases_1 : decode cX7_losePhases 1 = .ok (.iload_n 1, 1) := by decide +kernel
theorem dX7_losePhases_2 : decode cX7_losePhases 2 = .ok (.invokevirtual 49, 3) := by decide +kernel
theorem dX7_losePhases_5 : decode cX7_losePhases 5 = .ok (.ifCond .eq 5, 3) := by decide +kernel
theorem dX7_losePhases_8 : decode cX7_losePhases 8 = .ok (.iconst (-1), 1) := by decide +kernel
theorem dX7_losePhases_9 : decode cX7_losePhases 9 = .ok (.ireturn, 1) := by decide +kernel
theorem dX7_losePhases_10 : decode cX7_losePhases 10 = .ok (.iload_n 2, 1) := by decide +kernel
theorem dX7_losePhases_11 : decode cX7_losePhases 11 = .ok (.iconst 0, 1) := by decide +kernel
theorem dX7_losePhases_12 : decode cX7_losePhases 12 = .ok (.bipush 7, 2) := by decide +kernel
theorem dX7_losePhases_14 : decode cX7_losePhases 14 = .ok (.invokestatic 33, 3) := by decide +kernel
theorem dX7_losePhases_17 : decode cX7_losePhases 17 = .ok (.ifCond .ne 6, 3) := by decide +kernel
theorem dX7_losePhases_20 : decode cX7_losePhases 20 = .ok (.bipush (-2), 2) := by decide +kernel
theorem dX7_losePhases_22 : decode cX7_losePhases 22 = .ok (.ireturn, 1) := by decide +kernel
theorem dX7_losePhases_23 : decode cX7_losePhases 23 = .ok (.aload_n 0, 1) := by decide +kernel
theorem dX7_losePhases_24 : decode cX7_losePhases 24 = .ok (.iload_n 1, 1) := by decide +kernel
theorem dX7_losePhases_25 : decode cX7_losePhases 25 = .ok (.bipush 7, 2) := by decide +kernel
theorem dX7_losePhases_27 : decode cX7_losePhases 27 = .ok (.invokevirtual 53, 3) := by decide +kernel
theorem dX7_losePhases_30 : decode cX7_losePhases 30 = .ok (.istore_n 3, 1) := by decide +kernel
theorem dX7_losePhases_31 : decode cX7_losePhases 31 = .ok (.aload_n 0, 1) := by decide +kernel
theorem dX7_losePhases_32 : decode cX7_losePhases 32 = .ok (.iconst 2, 1) := by decide +kernel
theorem dX7_losePhases_33 : decode cX7_losePhases 33 = .ok (.iload_n 1, 1) := by decide +kernel
theorem dX7_losePhases_34 : decode cX7_losePhases 34 = .ok (.iload_n 2, 1) := by decide +kernel
theorem dX7_losePhases_35 : decode cX7_losePhases 35 = .ok (.invokevirtual 111, 3) := by decide +kernel
theorem dX7_losePhases_38 : decode cX7_losePhases 38 = .ok (.istore 4, 2) := by decide +kernel
theorem dX7_losePhases_40 : decode cX7_losePhases 40 = .ok (.iload 4, 2) := by decide +kernel
theorem dX7_losePhases_42 : decode cX7_losePhases 42 = .ok (.ifCond .ge 8, 3) := by decide +kernel
theorem dX7_losePhases_45 : decode cX7_losePhases 45 = .ok (.iload 4, 2) := by decide +kernel
theorem dX7_losePhases_47 : decode cX7_losePhases 47 = .ok (.goto 4, 3) := by decide +kernel
theorem dX7_losePhases_50 : decode cX7_losePhases 50 = .ok (.iload_n 3, 1) := by decide +kernel
theorem dX7_losePhases_51 : decode cX7_losePhases 51 = .ok (.ireturn, 1) := by decide +kernel
theorem dX7_reset_0 : decode cX7_reset 0 = .ok (.aload_n 0, 1) := by decide +kernel
theorem dX7_reset_1 : decode cX7_reset 1 = .ok (.iconst 3, 1) := by decide +kernel
theorem dX7_reset_2 : decode cX7_reset 2 = .ok (.iload_n 1, 1) := by decide +kernel
theorem dX7_reset_3 : decode cX7_reset 3 = .ok (.iconst 0, 1) := by decide +kernel
theorem dX7_reset_4 : decode cX7_reset 4 = .ok (.invokevirtual 111, 3) := by decide +kernel
theorem dX7_reset_7 : decode cX7_reset 7 = .ok (.istore_n 2, 1) := by decide +kernel
theorem dX7_reset_8 : decode cX7_reset 8 = .ok (.iload_n 2, 1) := by decide +kernel
theorem dX7_reset_9 : decode cX7_reset 9 = .ok (.ifCond .ge 7, 3) := by decide +kernel
theorem dX7_reset_12 : decode cX7_reset 12 = .ok (.iload_n 2, 1) := by decide +kernel
theorem dX7_reset_13 : decode cX7_reset 13 = .ok (.goto 10, 3) := by decide +kernel
theorem dX7_reset_16 : decode cX7_reset 16 = .ok (.aload_n 0, 1) := by decide +kernel
theorem dX7_reset_17 : decode cX7_reset 17 = .ok (.iload_n 1, 1) := by decide +kernel
theorem dX7_reset_18 : decode cX7_reset 18 = .ok (.bipush 6, 2) := by decide +kernel
theorem dX7_reset_20 : decode cX7_reset 20 = .ok (.invokevirtual 53, 3) := by decide +kernel
theorem dX7_reset_23 : decode cX7_reset 23 = .ok (.ireturn, 1) := by decide +kernel
theorem dX7_carryOutItems_0 : decode cX7_carryOutItems 0 = .ok (.aload_n 0, 1) := by decide +kernel
theorem dX7_carryOutItems_1 : decode cX7_carryOutItems 1 = .ok (.getfield 7, 3) := by decide +kernel
theorem dX7_carryOutItems_4 : decode cX7_carryOutItems 4 = .ok (.iconst 4, 1) := by decide +kernel
theorem dX7_carryOutItems_5 : decode cX7_carryOutItems 5 = .ok (.iaload, 1) := by decide +kernel
theorem dX7_carryOutItems_6 : decode cX7_carryOutItems 6 = .ok (.ifCond .le 163, 3) := by decide +kernel
theorem dX7_carryOutItems_9 : decode cX7_carryOutItems 9 = .ok (.aload_n 0, 1) := by decide +kernel
theorem dX7_carryOutItems_10 : decode cX7_carryOutItems 10 = .ok (.getfield 7, 3) := by decide +kernel
theorem dX7_carryOutItems_13 : decode cX7_carryOutItems 13 = .ok (.sipush 168, 3) := by decide +kernel
theorem dX7_carryOutItems_16 : decode cX7_carryOutItems 16 = .ok (.iaload, 1) := by decide +kernel
theorem dX7_carryOutItems_17 : decode cX7_carryOutItems 17 = .ok (.aload_n 0, 1) := by decide +kernel
theorem dX7_carryOutItems_18 : decode cX7_carryOutItems 18 = .ok (.getfield 7, 3) := by decide +kernel
theorem dX7_carryOutItems_21 : decode cX7_carryOutItems 21 = .ok (.iconst 1, 1) := by decide +kernel
theorem dX7_carryOutItems_22 : decode cX7_carryOutItems 22 = .ok (.iaload, 1) := by decide +kernel
theorem dX7_carryOutItems_23 : decode cX7_carryOutItems 23 = .ok (.if_icmp .gt 146, 3) := by decide +kernel
theorem dX7_carryOutItems_26 : decode cX7_carryOutItems 26 = .ok (.aload_n 0, 1) := by decide +kernel
theorem dX7_carryOutItems_27 : decode cX7_carryOutItems 27 = .ok (.getfield 7, 3) := by decide +kernel
theorem dX7_carryOutItems_30 : decode cX7_carryOutItems 30 = .ok (.sipush 169, 3) := by decide +kernel
theorem dX7_carryOutItems_33 : decode cX7_carryOutItems 33 = .ok (.iaload, 1) := by decide +kernel
theorem dX7_carryOutItems_34 : decode cX7_carryOutItems 34 = .ok (.istore_n 1, 1) := by decide +kernel
theorem dX7_carryOutItems_35 : decode cX7_carryOutItems 35 = .ok (.aload_n 0, 1) := by decide +kernel
theorem dX7_carryOutItems_36 : decode cX7_carryOutItems 36 = .ok (.getfield 7, 3) := by decide +kernel
theorem dX7_carryOutItems_39 : decode cX7_carryOutItems 39 = .ok (.sipush 170, 3) := by decide +kernel
theorem dX7_carryOutItems_42 : decode cX7_carryOutItems 42 = .ok (.iaload, 1) := by decide +kernel
theorem dX7_carryOutItems_43 : decode cX7_carryOutItems 43 = .ok (.istore_n 2, 1) := by decide +kernel
theorem dX7_carryOutItems_44 : decode cX7_carryOutItems 44 = .ok (.aload_n 0, 1) := by decide +kernel
theorem dX7_carryOutItems_45 : decode cX7_carryOutItems 45 = .ok (.getfield 7, 3) := by decide +kernel
theorem dX7_carryOutItems_48 : decode cX7_carryOutItems 48 = .ok (.sipush 171, 3) := by decide +kernel
theorem dX7_carryOutItems_51 : decode cX7_carryOutItems 51 = .ok (.iaload, 1) := by decide +kernel
theorem dX7_carryOutItems_52 : decode cX7_carryOutItems 52 = .ok (.istore_n 3, 1) := by decide +kernel
theorem dX7_carryOutItems_53 : decode cX7_carryOutItems 53 = .ok (.aload_n 0, 1) := by decide +kernel
theorem dX7_carryOutItems_54 : decode cX7_carryOutItems 54 = .ok (.getfield 7, 3) := by decide +kernel
theorem dX7_carryOutItems_57 : decode cX7_carryOutItems 57 = .ok (.iconst 4, 1) := by decide +kernel
theorem dX7_carryOutItems_58 : decode cX7_carryOutItems 58 = .ok (.dup2, 1) := by decide +kernel
theorem dX7_carryOutItems_59 : decode cX7_carryOutItems 59 = .ok (.iaload, 1) := by decide +kernel
theorem dX7_carryOutItems_60 : decode cX7_carryOutItems 60 = .ok (.iconst 1, 1) := by decide +kernel
theorem dX7_carryOutItems_61 : decode cX7_carryOutItems 61 = .ok (.isub, 1) := by decide +kernel
theorem dX7_carryOutItems_62 : decode cX7_carryOutItems 62 = .ok (.iastore, 1) := by decide +kernel
theorem dX7_carryOutItems_63 : decode cX7_carryOutItems 63 = .ok (.sipush 168, 3) := by decide +kernel
theorem dX7_carryOutItems_66 : decode cX7_carryOutItems 66 = .ok (.istore 4, 2) := by decide +kernel
theorem dX7_carryOutItems_68 : decode cX7_carryOutItems 68 = .ok (.iload 4, 2) := by decide +kernel
theorem dX7_carryOutItems_70 : decode cX7_carryOutItems 70 = .ok (.sipush 168, 3) := by decide +kernel
theorem dX7_carryOutItems_73 : decode cX7_carryOutItems 73 = .ok (.iconst 4, 1) := by decide +kernel
theorem dX7_carryOutItems_74 : decode cX7_carryOutItems 74 = .ok (.aload_n 0, 1) := by decide +kernel
theorem dX7_carryOutItems_75 : decode cX7_carryOutItems 75 = .ok (.getfield 7, 3) := by decide +kernel
theorem dX7_carryOutItems_78 : decode cX7_carryOutItems 78 = .ok (.iconst 4, 1) := by decide +kernel
theorem dX7_carryOutItems_79 : decode cX7_carryOutItems 79 = .ok (.iaload, 1) := by decide +kernel
theorem dX7_carryOutItems_80 : decode cX7_carryOutItems 80 = .ok (.imul, 1) := by decide +kernel
theorem dX7_carryOutItems_81 : decode cX7_carryOutItems 81 = .ok (.iadd, 1) := by decide +kernel
theorem dX7_carryOutItems_82 : decode cX7_carryOutItems 82 = .ok (.if_icmp .ge 25, 3) := by decide +kernel
theorem dX7_carryOutItems_85 : decode cX7_carryOutItems 85 = .ok (.aload_n 0, 1) := by decide +kernel
theorem dX7_carryOutItems_86 : decode cX7_carryOutItems 86 = .ok (.getfield 7, 3) := by decide +kernel
theorem dX7_carryOutItems_89 : decode cX7_carryOutItems 89 = .ok (.iload 4, 2) := by decide +kernel
theorem dX7_carryOutItems_91 : decode cX7_carryOutItems 91 = .ok (.aload_n 0, 1) := by decide +kernel
theorem dX7_carryOutItems_92 : decode cX7_carryOutItems 92 = .ok (.getfield 7, 3) := by decide +kernel
theorem dX7_carryOutItems_95 : decode cX7_carryOutItems 95 = .ok (.iload 4, 2) := by decide +kernel
theorem dX7_carryOutItems_97 : decode cX7_carryOutItems 97 = .ok (.iconst 4, 1) := by decide +kernel
theorem dX7_carryOutItems_98 : decode cX7_carryOutItems 98 = .ok (.iadd, 1) := by decide +kernel
theorem dX7_carryOutItems_99 : decode cX7_carryOutItems 99 = .ok (.iaload, 1) := by decide +kernel
theorem dX7_carryOutItems_100 : decode cX7_carryOutItems 100 = .ok (.iastore, 1) := by decide +kernel
theorem dX7_carryOutItems_101 : decode cX7_carryOutItems 101 = .ok (.iinc 4 1, 3) := by decide +kernel
theorem dX7_carryOutItems_104 : decode cX7_carryOutItems 104 = .ok (.goto (-36), 3) := by decide +kernel
theorem dX7_carryOutItems_107 : decode cX7_carryOutItems 107 = .ok (.aload_n 0, 1) := by decide +kernel
theorem dX7_carryOutItems_108 : decode cX7_carryOutItems 108 = .ok (.iload_n 1, 1) := by decide +kernel
theorem dX7_carryOutItems_109 : decode cX7_carryOutItems 109 = .ok (.iload_n 2, 1) := by decide +kernel
theorem dX7_carryOutItems_110 : decode cX7_carryOutItems 110 = .ok (.iload_n 3, 1) := by decide +kernel
theorem dX7_carryOutItems_111 : decode cX7_carryOutItems 111 = .ok (.invokevirtual 105, 3) := by decide +kernel
theorem dX7_carryOutItems_114 : decode cX7_carryOutItems 114 = .ok (.istore 4, 2) := by decide +kernel
theorem dX7_carryOutItems_116 : decode cX7_carryOutItems 116 = .ok (.iload 4, 2) := by decide +kernel
theorem dX7_carryOutItems_118 : decode cX7_carryOutItems 118 = .ok (.ifCond .ne 13, 3) := by decide +kernel
theorem dX7_carryOutItems_121 : decode cX7_carryOutItems 121 = .ok (.aload_n 0, 1) := by decide +kernel
theorem dX7_carryOutItems_122 : decode cX7_carryOutItems 122 = .ok (.iload_n 1, 1) := by decide +kernel
theorem dX7_carryOutItems_123 : decode cX7_carryOutItems 123 = .ok (.iload_n 2, 1) := by decide +kernel
theorem dX7_carryOutItems_124 : decode cX7_carryOutItems 124 = .ok (.iload_n 3, 1) := by decide +kernel
theorem dX7_carryOutItems_125 : decode cX7_carryOutItems 125 = .ok (.invokevirtual 108, 3) := by decide +kernel
theorem dX7_carryOutItems_128 : decode cX7_carryOutItems 128 = .ok (.goto 38, 3) := by decide +kernel
theorem dX7_carryOutItems_131 : decode cX7_carryOutItems 131 = .ok (.iload 4, 2) := by decide +kernel
theorem dX7_carryOutItems_133 : decode cX7_carryOutItems 133 = .ok (.bipush (-4), 2) := by decide +kernel
theorem dX7_carryOutItems_135 : decode cX7_carryOutItems 135 = .ok (.if_icmp .eq 31, 3) := by decide +kernel
theorem dX7_carryOutItems_138 : decode cX7_carryOutItems 138 = .ok (.aload_n 0, 1) := by decide +kernel
theorem dX7_carryOutItems_139 : decode cX7_carryOutItems 139 = .ok (.getfield 7, 3) := by decide +kernel
theorem dX7_carryOutItems_142 : decode cX7_carryOutItems 142 = .ok (.iconst 5, 1) := by decide +kernel
theorem dX7_carryOutItems_143 : decode cX7_carryOutItems 143 = .ok (.dup2, 1) := by decide +kernel
theorem dX7_carryOutItems_144 : decode cX7_carryOutItems 144 = .ok (.iaload, 1) := by decide +kernel
theorem dX7_carryOutItems_145 : decode cX7_carryOutItems 145 = .ok (.iconst 1, 1) := by decide +kernel
theorem dX7_carryOutItems_146 : decode cX7_carryOutItems 146 = .ok (.iadd, 1) := by decide +kernel
theorem dX7_carryOutItems_147 : decode cX7_carryOutItems 147 = .ok (.iastore, 1) := by decide +kernel
theorem dX7_carryOutItems_148 : decode cX7_carryOutItems 148 = .ok (.aload_n 0, 1) := by decide +kernel
theorem dX7_carryOutItems_149 : decode cX7_carryOutItems 149 = .ok (.iload 4, 2) := by decide +kernel
theorem dX7_carryOutItems_151 : decode cX7_carryOutItems 151 = .ok (.ifCond .le 8, 3) := by decide +kernel
theorem dX7_carryOutItems_154 : decode cX7_carryOutItems 154 = .ok (.iload 4, 2) := by decide +kernel
theorem dX7_carryOutItems_156 : decode cX7_carryOutItems 156 = .ok (.goto 7, 3) := by decide +kernel
theorem dX7_carryOutItems_159 : decode cX7_carryOutItems 159 = .ok (.aload_n 0, 1) := by decide +kernel
theorem dX7_carryOutItems_160 : decode cX7_carryOutItems 160 = .ok (.getfield 30, 3) := by decide +kernel
theorem dX7_carryOutItems_163 : decode cX7_carryOutItems 163 = .ok (.putfield 30, 3) := by decide +kernel
theorem dX7_carryOutItems_166 : decode cX7_carryOutItems 166 = .ok (.goto (-166), 3) := by decide +kernel
theorem dX7_carryOutItems_169 : decode cX7_carryOutItems 169 = .ok (.return_, 1) := by decide +kernel
theorem dX7_startOne_0 : decode cX7_startOne 0 = .ok (.iconst 0, 1) := by decide +kernel
theorem dX7_startOne_1 : decode cX7_startOne 1 = .ok (.istore_n 1, 1) := by decide +kernel
theorem dX7_startOne_2 : decode cX7_startOne 2 = .ok (.aload_n 0, 1) := by decide +kernel
theorem dX7_startOne_3 : decode cX7_startOne 3 = .ok (.iconst 0, 1) := by decide +kernel
theorem dX7_startOne_4 : decode cX7_startOne 4 = .ok (.invokevirtual 80, 3) := by decide +kernel
theorem dX7_startOne_7 : decode cX7_startOne 7 = .ok (.istore_n 2, 1) := by decide +kernel
theorem dX7_startOne_8 : decode cX7_startOne 8 = .ok (.iload_n 2, 1) := by decide +kernel
theorem dX7_startOne_9 : decode cX7_startOne 9 = .ok (.bipush (-4), 2) := by decide +kernel
theorem dX7_startOne_11 : decode cX7_startOne 11 = .ok (.if_icmp .eq 23, 3) := by decide +kernel
theorem dX7_startOne_14 : decode cX7_startOne 14 = .ok (.aload_n 0, 1) := by decide +kernel
theorem dX7_startOne_15 : decode cX7_startOne 15 = .ok (.iload_n 2, 1) := by decide +kernel
theorem dX7_startOne_16 : decode cX7_startOne 16 = .ok (.invokevirtual 92, 3) := by decide +kernel
theorem dX7_startOne_19 : decode cX7_startOne 19 = .ok (.ifCond .eq 15, 3) := by decide +kernel
theorem dX7_startOne_22 : decode cX7_startOne 22 = .ok (.iinc 1 1, 3) := by decide +kernel
theorem dX7_startOne_25 : decode cX7_startOne 25 = .ok (.aload_n 0, 1) := by decide +kernel
theorem dX7_startOne_26 : decode cX7_startOne 26 = .ok (.iload_n 1, 1) := by decide +kernel
theorem dX7_startOne_27 : decode cX7_startOne 27 = .ok (.invokevirtual 80, 3) := by decide +kernel
theorem dX7_startOne_30 : decode cX7_startOne 30 = .ok (.istore_n 2, 1) := by decide +kernel
theorem dX7_startOne_31 : decode cX7_startOne 31 = .ok (.goto (-23), 3) := by decide +kernel
theorem dX7_startOne_34 : decode cX7_startOne 34 = .ok (.iload_n 2, 1) := by decide +kernel
theorem dX7_startOne_35 : decode cX7_startOne 35 = .ok (.bipush (-4), 2) := by decide +kernel
theorem dX7_startOne_37 : decode cX7_startOne 37 = .ok (.if_icmp .ne 5, 3) := by decide +kernel
theorem dX7_startOne_40 : decode cX7_startOne 40 = .ok (.iconst 0, 1) := by decide +kernel
theorem dX7_startOne_41 : decode cX7_startOne 41 = .ok (.ireturn, 1) := by decide +kernel
theorem dX7_startOne_42 : decode cX7_startOne 42 = .ok (.iconst 0, 1) := by decide +kernel
theorem dX7_startOne_43 : decode cX7_startOne 43 = .ok (.istore_n 3, 1) := by decide +kernel
theorem dX7_startOne_44 : decode cX7_startOne 44 = .ok (.iload_n 3, 1) := by decide +kernel
theorem dX7_startOne_45 : decode cX7_startOne 45 = .ok (.aload_n 0, 1) := by decide +kernel
theorem dX7_startOne_46 : decode cX7_startOne 46 = .ok (.getfield 7, 3) := by decide +kernel
theorem dX7_startOne_49 : decode cX7_startOne 49 = .ok (.iconst 0, 1) := by decide +kernel
theorem dX7_startOne_50 : decode cX7_startOne 50 = .ok (.iaload, 1) := by decide +kernel
theorem dX7_startOne_51 : decode cX7_startOne 51 = .ok (.if_icmp .ge 34, 3) := by decide +kernel
theorem dX7_startOne_54 : decode cX7_startOne 54 = .ok (.aload_n 0, 1) := by decide +kernel
theorem dX7_startOne_55 : decode cX7_startOne 55 = .ok (.iload_n 3, 1) := by decide +kernel
theorem dX7_startOne_56 : decode cX7_startOne 56 = .ok (.invokevirtual 70, 3) := by decide +kernel
theorem dX7_startOne_59 : decode cX7_startOne 59 = .ok (.ifCond .eq 20, 3) := by decide +kernel
theorem dX7_startOne_62 : decode cX7_startOne 62 = .ok (.aload_n 0, 1) := by decide +kernel
theorem dX7_startOne_63 : decode cX7_startOne 63 = .ok (.iload_n 3, 1) := by decide +kernel
theorem dX7_startOne_64 : decode cX7_startOne 64 = .ok (.invokevirtual 77, 3) := by decide +kernel
theorem dX7_startOne_67 : decode cX7_startOne 67 = .ok (.iload_n 1, 1) := by decide +kernel
theorem dX7_startOne_68 : decode cX7_startOne 68 = .ok (.if_icmp .ge 11, 3) := by decide +kernel
theorem dX7_startOne_71 : decode cX7_startOne 71 = .ok (.aload_n 0, 1) := by decide +kernel
theorem dX7_startOne_72 : decode cX7_startOne 72 = .ok (.iload_n 3, 1) := by decide +kernel
theorem dX7_startOne_73 : decode cX7_startOne 73 = .ok (.bipush 18, 2) := by decide +kernel
theorem dX7_startOne_75 : decode cX7_startOne 75 = .ok (.iconst 1, 1) := by decide +kernel
theorem dX7_startOne_76 : decode cX7_startOne 76 = .ok (.invokevirtual 95, 3) := by decide +kernel
theorem dX7_startOne_79 : decode cX7_startOne 79 = .ok (.iinc 3 1, 3) := by decide +kernel
theorem dX7_startOne_82 : decode cX7_startOne 82 = .ok (.goto (-38), 3) := by decide +kernel
theorem dX7_startOne_85 : decode cX7_startOne 85 = .ok (.aload_n 0, 1) := by decide +kernel
theorem dX7_startOne_86 : decode cX7_startOne 86 = .ok (.iload_n 2, 1) := by decide +kernel
theorem dX7_startOne_87 : decode cX7_startOne 87 = .ok (.iconst 5, 1) := by decide +kernel
theorem dX7_startOne_88 : decode cX7_startOne 88 = .ok (.iconst 2, 1) := by decide +kernel
theorem dX7_startOne_89 : decode cX7_startOne 89 = .ok (.invokevirtual 45, 3) := by decide +kernel
theorem dX7_startOne_92 : decode cX7_startOne 92 = .ok (.aload_n 0, 1) := by decide +kernel
theorem dX7_startOne_93 : decode cX7_startOne 93 = .ok (.iload_n 2, 1) := by decide +kernel
theorem dX7_startOne_94 : decode cX7_startOne 94 = .ok (.bipush 8, 2) := by decide +kernel
theorem dX7_startOne_96 : decode cX7_startOne 96 = .ok (.iconst 0, 1) := by decide +kernel
theorem dX7_startOne_97 : decode cX7_startOne 97 = .ok (.invokevirtual 45, 3) := by decide +kernel
theorem dX7_startOne_100 : decode cX7_startOne 100 = .ok (.aload_n 0, 1) := by decide +kernel
theorem dX7_startOne_101 : decode cX7_startOne 101 = .ok (.iload_n 2, 1) := by decide +kernel
theorem dX7_startOne_102 : decode cX7_startOne 102 = .ok (.bipush 14, 2) := by decide +kernel
theorem dX7_startOne_104 : decode cX7_startOne 104 = .ok (.iconst 1, 1) := by decide +kernel
theorem dX7_startOne_105 : decode cX7_startOne 105 = .ok (.invokevirtual 95, 3) := by decide +kernel
theorem dX7_startOne_108 : decode cX7_startOne 108 = .ok (.aload_n 0, 1) := by decide +kernel
theorem dX7_startOne_109 : decode cX7_startOne 109 = .ok (.iload_n 2, 1) := by decide +kernel
theorem dX7_startOne_110 : decode cX7_startOne 110 = .ok (.iconst 1, 1) := by decide +kernel
theorem dX7_startOne_111 : decode cX7_startOne 111 = .ok (.invokevirtual 98, 3) := by decide +kernel
theorem dX7_startOne_114 : decode cX7_startOne 114 = .ok (.iconst 1, 1) := by decide +kernel
theorem dX7_startOne_115 : decode cX7_startOne 115 = .ok (.ireturn, 1) := by decide +kernel
theorem dX7_goesOn_0 : decode cX7_goesOn 0 = .ok (.aload_n 0, 1) := by decide +kernel
theorem dX7_goesOn_1 : decode cX7_goesOn 1 = .ok (.iload_n 1, 1) := by decide +kernel
theorem dX7_goesOn_2 : decode cX7_goesOn 2 = .ok (.invokevirtual 114, 3) := by decide +kernel
theorem dX7_goesOn_5 : decode cX7_goesOn 5 = .ok (.istore_n 2, 1) := by decide +kernel
theorem dX7_goesOn_6 : decode cX7_goesOn 6 = .ok (.aload_n 0, 1) := by decide +kernel
theorem dX7_goesOn_7 : decode cX7_goesOn 7 = .ok (.iload_n 1, 1) := by decide +kernel
theorem dX7_goesOn_8 : decode cX7_goesOn 8 = .ok (.bipush 16, 2) := by decide +kernel
theorem dX7_goesOn_10 : decode cX7_goesOn 10 = .ok (.iload_n 2, 1) := by decide +kernel
theorem dX7_goesOn_11 : decode cX7_goesOn 11 = .ok (.ifCond .eq 7, 3) := by decide +kernel
theorem dX7_goesOn_14 : decode cX7_goesOn 14 = .ok (.iconst 1, 1) := by decide +kernel
theorem dX7_goesOn_15 : decode cX7_goesOn 15 = .ok (.goto 4, 3) := by decide +kernel
theorem dX7_goesOn_18 : decode cX7_goesOn 18 = .ok (.iconst 0, 1) := by decide +kernel
theorem dX7_goesOn_19 : decode cX7_goesOn 19 = .ok (.invokevirtual 95, 3) := by decide +kernel
theorem dX7_goesOn_22 : decode cX7_goesOn 22 = .ok (.aload_n 0, 1) := by decide +kernel
theorem dX7_goesOn_23 : decode cX7_goesOn 23 = .ok (.iload_n 1, 1) := by decide +kernel
theorem dX7_goesOn_24 : decode cX7_goesOn 24 = .ok (.bipush 17, 2) := by decide +kernel
theorem dX7_goesOn_26 : decode cX7_goesOn 26 = .ok (.aload_n 0, 1) := by decide +kernel
theorem dX7_goesOn_27 : decode cX7_goesOn 27 = .ok (.iload_n 1, 1) := by decide +kernel
theorem dX7_goesOn_28 : decode cX7_goesOn 28 = .ok (.invokevirtual 70, 3) := by decide +kernel
theorem dX7_goesOn_31 : decode cX7_goesOn 31 = .ok (.ifCond .eq 7, 3) := by decide +kernel
theorem dX7_goesOn_34 : decode cX7_goesOn 34 = .ok (.iconst 1, 1) := by decide +kernel
theorem dX7_goesOn_35 : decode cX7_goesOn 35 = .ok (.goto 4, 3) := by decide +kernel
theorem dX7_goesOn_38 : decode cX7_goesOn 38 = .ok (.iconst 0, 1) := by decide +kernel
theorem dX7_goesOn_39 : decode cX7_goesOn 39 = .ok (.invokevirtual 95, 3) := by decide +kernel
theorem dX7_goesOn_42 : decode cX7_goesOn 42 = .ok (.aload_n 0, 1) := by decide +kernel
theorem dX7_goesOn_43 : decode cX7_goesOn 43 = .ok (.iload_n 1, 1) := by decide +kernel
theorem dX7_goesOn_44 : decode cX7_goesOn 44 = .ok (.invokevirtual 89, 3) := by decide +kernel
theorem dX7_goesOn_47 : decode cX7_goesOn 47 = .ok (.istore_n 3, 1) := by decide +kernel
theorem dX7_goesOn_48 : decode cX7_goesOn 48 = .ok (.iload_n 3, 1) := by decide +kernel
theorem dX7_goesOn_49 : decode cX7_goesOn 49 = .ok (.iload_n 3, 1) := by decide +kernel
theorem dX7_goesOn_50 : decode cX7_goesOn 50 = .ok (.imul, 1) := by decide +kernel
theorem dX7_goesOn_51 : decode cX7_goesOn 51 = .ok (.bipush 10, 2) := by decide +kernel
theorem dX7_goesOn_53 : decode cX7_goesOn 53 = .ok (.idiv, 1) := by decide +kernel
theorem dX7_goesOn_54 : decode cX7_goesOn 54 = .ok (.aload_n 0, 1) := by decide +kernel
theorem dX7_goesOn_55 : decode cX7_goesOn 55 = .ok (.iload_n 1, 1) := by decide +kernel
theorem dX7_goesOn_56 : decode cX7_goesOn 56 = .ok (.bipush 7, 2) := by decide +kernel
theorem dX7_goesOn_58 : decode cX7_goesOn 58 = .ok (.invokevirtual 53, 3) := by decide +kernel
theorem dX7_goesOn_61 : decode cX7_goesOn 61 = .ok (.ifCond .ne 7, 3) := by decide +kernel
theorem dX7_goesOn_64 : decode cX7_goesOn 64 = .ok (.iconst 1, 1) := by decide +kernel
theorem dX7_goesOn_65 : decode cX7_goesOn 65 = .ok (.goto 4, 3) := by decide +kernel
theorem dX7_goesOn_68 : decode cX7_goesOn 68 = .ok (.iconst 2, 1) := by decide +kernel
theorem dX7_goesOn_69 : decode cX7_goesOn 69 = .ok (.imul, 1) := by decide +kernel
theorem dX7_goesOn_70 : decode cX7_goesOn 70 = .ok (.istore 4, 2) := by decide +kernel
theorem dX7_goesOn_72 : decode cX7_goesOn 72 = .ok (.aload_n 0, 1) := by decide +kernel
theorem dX7_goesOn_73 : decode cX7_goesOn 73 = .ok (.iload_n 1, 1) := by decide +kernel
theorem dX7_goesOn_74 : decode cX7_goesOn 74 = .ok (.bipush 12, 2) := by decide +kernel
theorem dX7_goesOn_76 : decode cX7_goesOn 76 = .ok (.iload 4, 2) := by decide +kernel
theorem dX7_goesOn_78 : decode cX7_goesOn 78 = .ok (.invokevirtual 95, 3) := by decide +kernel
theorem dX7_goesOn_81 : decode cX7_goesOn 81 = .ok (.aload_n 0, 1) := by decide +kernel
theorem dX7_goesOn_82 : decode cX7_goesOn 82 = .ok (.iload_n 1, 1) := by decide +kernel
theorem dX7_goesOn_83 : decode cX7_goesOn 83 = .ok (.bipush 6, 2) := by decide +kernel
theorem dX7_goesOn_85 : decode cX7_goesOn 85 = .ok (.iload 4, 2) := by decide +kernel
theorem dX7_goesOn_87 : decode cX7_goesOn 87 = .ok (.invokevirtual 95, 3) := by decide +kernel
theorem dX7_goesOn_90 : decode cX7_goesOn 90 = .ok (.aload_n 0, 1) := by decide +kernel
theorem dX7_goesOn_91 : decode cX7_goesOn 91 = .ok (.iload_n 1, 1) := by decide +kernel
theorem dX7_goesOn_92 : decode cX7_goesOn 92 = .ok (.bipush 6, 2) := by decide +kernel
theorem dX7_goesOn_94 : decode cX7_goesOn 94 = .ok (.invokevirtual 53, 3) := by decide +kernel
theorem dX7_goesOn_97 : decode cX7_goesOn 97 = .ok (.aload_n 0, 1) := by decide +kernel
theorem dX7_goesOn_98 : decode cX7_goesOn 98 = .ok (.iload_n 2, 1) := by decide +kernel
theorem dX7_goesOn_99 : decode cX7_goesOn 99 = .ok (.invokevirtual 117, 3) := by decide +kernel
theorem dX7_goesOn_102 : decode cX7_goesOn 102 = .ok (.imul, 1) := by decide +kernel
theorem dX7_goesOn_103 : decode cX7_goesOn 103 = .ok (.sipush 1000, 3) := by decide +kernel
theorem dX7_goesOn_106 : decode cX7_goesOn 106 = .ok (.idiv, 1) := by decide +kernel
theorem dX7_goesOn_107 : decode cX7_goesOn 107 = .ok (.istore 5, 2) := by decide +kernel
theorem dX7_goesOn_109 : decode cX7_goesOn 109 = .ok (.aload_n 0, 1) := by decide +kernel
theorem dX7_goesOn_110 : decode cX7_goesOn 110 = .ok (.iload_n 1, 1) := by decide +kernel
theorem dX7_goesOn_111 : decode cX7_goesOn 111 = .ok (.bipush 13, 2) := by decide +kernel
theorem dX7_goesOn_113 : decode cX7_goesOn 113 = .ok (.iload 5, 2) := by decide +kernel
theorem dX7_goesOn_115 : decode cX7_goesOn 115 = .ok (.invokevirtual 95, 3) := by decide +kernel
theorem dX7_goesOn_118 : decode cX7_goesOn 118 = .ok (.aload_n 0, 1) := by decide +kernel
theorem dX7_goesOn_119 : decode cX7_goesOn 119 = .ok (.iload_n 1, 1) := by decide +kernel
theorem dX7_goesOn_120 : decode cX7_goesOn 120 = .ok (.bipush 6, 2) := by decide +kernel
theorem dX7_goesOn_122 : decode cX7_goesOn 122 = .ok (.iload 5, 2) := by decide +kernel
theorem dX7_goesOn_124 : decode cX7_goesOn 124 = .ok (.ineg, 1) := by decide +kernel
theorem dX7_goesOn_125 : decode cX7_goesOn 125 = .ok (.invokevirtual 95, 3) := by decide +kernel
theorem dX7_goesOn_128 : decode cX7_goesOn 128 = .ok (.aload_n 0, 1) := by decide +kernel
theorem dX7_goesOn_129 : decode cX7_goesOn 129 = .ok (.iload_n 1, 1) := by decide +kernel
theorem dX7_goesOn_130 : decode cX7_goesOn 130 = .ok (.iconst 5, 1) := by decide +kernel
theorem dX7_goesOn_131 : decode cX7_goesOn 131 = .ok (.invokevirtual 53, 3) := by decide +kernel
theorem dX7_goesOn_134 : decode cX7_goesOn 134 = .ok (.iconst 3, 1) := by decide +kernel
theorem dX7_goesOn_135 : decode cX7_goesOn 135 = .ok (.if_icmp .ne 17, 3) := by decide +kernel
theorem dX7_goesOn_138 : decode cX7_goesOn 138 = .ok (.aload_n 0, 1) := by decide +kernel
theorem dX7_goesOn_139 : decode cX7_goesOn 139 = .ok (.iload_n 1, 1) := by decide +kernel
theorem dX7_goesOn_140 : decode cX7_goesOn 140 = .ok (.bipush 7, 2) := by decide +kernel
theorem dX7_goesOn_142 : decode cX7_goesOn 142 = .ok (.invokevirtual 53, 3) := by decide +kernel
theorem dX7_goesOn_145 : decode cX7_goesOn 145 = .ok (.ifCond .eq 7, 3) := by decide +kernel
theorem dX7_goesOn_148 : decode cX7_goesOn 148 = .ok (.iconst 1, 1) := by decide +kernel
theorem dX7_goesOn_149 : decode cX7_goesOn 149 = .ok (.goto 4, 3) := by decide +kernel
theorem dX7_goesOn_152 : decode cX7_goesOn 152 = .ok (.iconst 0, 1) := by decide +kernel
theorem dX7_goesOn_153 : decode cX7_goesOn 153 = .ok (.istore 6, 2) := by decide +kernel
theorem dX7_goesOn_155 : decode cX7_goesOn 155 = .ok (.aload_n 0, 1) := by decide +kernel
theorem dX7_goesOn_156 : decode cX7_goesOn 156 = .ok (.iload_n 1, 1) := by decide +kernel
theorem dX7_goesOn_157 : decode cX7_goesOn 157 = .ok (.bipush 10, 2) := by decide +kernel
theorem dX7_goesOn_159 : decode cX7_goesOn 159 = .ok (.iload 6, 2) := by decide +kernel
theorem dX7_goesOn_161 : decode cX7_goesOn 161 = .ok (.ifCond .eq 15, 3) := by decide +kernel
theorem dX7_goesOn_164 : decode cX7_goesOn 164 = .ok (.aload_n 0, 1) := by decide +kernel
theorem dX7_goesOn_165 : decode cX7_goesOn 165 = .ok (.iload_n 1, 1) := by decide +kernel
theorem dX7_goesOn_166 : decode cX7_goesOn 166 = .ok (.bipush 10, 2) := by decide +kernel
theorem dX7_goesOn_168 : decode cX7_goesOn 168 = .ok (.invokevirtual 53, 3) := by decide +kernel
theorem dX7_goesOn_171 : decode cX7_goesOn 171 = .ok (.iconst 1, 1) := by decide +kernel
theorem dX7_goesOn_172 : decode cX7_goesOn 172 = .ok (.iadd, 1) := by decide +kernel
theorem dX7_goesOn_173 : decode cX7_goesOn 173 = .ok (.goto 4, 3) := by decide +kernel
theorem dX7_goesOn_176 : decode cX7_goesOn 176 = .ok (.iconst 0, 1) := by decide +kernel
theorem dX7_goesOn_177 : decode cX7_goesOn 177 = .ok (.invokevirtual 45, 3) := by decide +kernel
theorem dX7_goesOn_180 : decode cX7_goesOn 180 = .ok (.iload_n 2, 1) := by decide +kernel
theorem dX7_goesOn_181 : decode cX7_goesOn 181 = .ok (.ifCond .ne 4, 3) := by decide +kernel
theorem dX7_goesOn_184 : decode cX7_goesOn 184 = .ok (.return_, 1) := by decide +kernel
theorem dX7_goesOn_185 : decode cX7_goesOn 185 = .ok (.aload_n 0, 1) := by decide +kernel
theorem dX7_goesOn_186 : decode cX7_goesOn 186 = .ok (.iload_n 1, 1) := by decide +kernel
theorem dX7_goesOn_187 : decode cX7_goesOn 187 = .ok (.bipush 6, 2) := by decide +kernel
theorem dX7_goesOn_189 : decode cX7_goesOn 189 = .ok (.invokevirtual 53, 3) := by decide +kernel
theorem dX7_goesOn_192 : decode cX7_goesOn 192 = .ok (.aload_n 0, 1) := by decide +kernel
theorem dX7_goesOn_193 : decode cX7_goesOn 193 = .ok (.iload_n 1, 1) := by decide +kernel
theorem dX7_goesOn_194 : decode cX7_goesOn 194 = .ok (.iconst 3, 1) := by decide +kernel
theorem dX7_goesOn_195 : decode cX7_goesOn 195 = .ok (.invokevirtual 53, 3) := by decide +kernel
theorem dX7_goesOn_198 : decode cX7_goesOn 198 = .ok (.if_icmp .le 12, 3) := by decide +kernel
theorem dX7_goesOn_201 : decode cX7_goesOn 201 = .ok (.aload_n 0, 1) := by decide +kernel
theorem dX7_goesOn_202 : decode cX7_goesOn 202 = .ok (.iload_n 1, 1) := by decide +kernel
theorem dX7_goesOn_203 : decode cX7_goesOn 203 = .ok (.iconst 2, 1) := by decide +kernel
theorem dX7_goesOn_204 : decode cX7_goesOn 204 = .ok (.invokevirtual 102, 3) := by decide +kernel
theorem dX7_goesOn_207 : decode cX7_goesOn 207 = .ok (.goto 70, 3) := by decide +kernel
theorem dX7_goesOn_210 : decode cX7_goesOn 210 = .ok (.aload_n 0, 1) := by decide +kernel
theorem dX7_goesOn_211 : decode cX7_goesOn 211 = .ok (.iload_n 1, 1) := by decide +kernel
theorem dX7_goesOn_212 : decode cX7_goesOn 212 = .ok (.bipush 10, 2) := by decide +kernel
theorem dX7_goesOn_214 : decode cX7_goesOn 214 = .ok (.invokevirtual 53, 3) := by decide +kernel
theorem dX7_goesOn_217 : decode cX7_goesOn 217 = .ok (.iconst 3, 1) := by decide +kernel
theorem dX7_goesOn_218 : decode cX7_goesOn 218 = .ok (.if_icmp .ne 12, 3) := by decide +kernel
theorem dX7_goesOn_221 : decode cX7_goesOn 221 = .ok (.aload_n 0, 1) := by decide +kernel
theorem dX7_goesOn_222 : decode cX7_goesOn 222 = .ok (.iload_n 1, 1) := by decide +kernel
theorem dX7_goesOn_223 : decode cX7_goesOn 223 = .ok (.iconst 4, 1) := by decide +kernel
theorem dX7_goesOn_224 : decode cX7_goesOn 224 = .ok (.invokevirtual 102, 3) := by decide +kernel
theorem dX7_goesOn_227 : decode cX7_goesOn 227 = .ok (.goto 50, 3) := by decide +kernel
theorem dX7_goesOn_230 : decode cX7_goesOn 230 = .ok (.aload_n 0, 1) := by decide +kernel
theorem dX7_goesOn_231 : decode cX7_goesOn 231 = .ok (.iload_n 1, 1) := by decide +kernel
theorem dX7_goesOn_232 : decode cX7_goesOn 232 = .ok (.iconst 5, 1) := by decide +kernel
theorem dX7_goesOn_233 : decode cX7_goesOn 233 = .ok (.invokevirtual 53, 3) := by decide +kernel
theorem dX7_goesOn_236 : decode cX7_goesOn 236 = .ok (.iconst 2, 1) := by decide +kernel
theorem dX7_goesOn_237 : decode cX7_goesOn 237 = .ok (.if_icmp .ne 40, 3) := by decide +kernel
theorem dX7_goesOn_240 : decode cX7_goesOn 240 = .ok (.aload_n 0, 1) := by decide +kernel
theorem dX7_goesOn_241 : decode cX7_goesOn 241 = .ok (.iload_n 1, 1) := by decide +kernel
theorem dX7_goesOn_242 : decode cX7_goesOn 242 = .ok (.bipush 8, 2) := by decide +kernel
theorem dX7_goesOn_244 : decode cX7_goesOn 244 = .ok (.iconst 1, 1) := by decide +kernel
theorem dX7_goesOn_245 : decode cX7_goesOn 245 = .ok (.invokevirtual 95, 3) := by decide +kernel
theorem dX7_goesOn_248 : decode cX7_goesOn 248 = .ok (.aload_n 0, 1) := by decide +kernel
theorem dX7_goesOn_249 : decode cX7_goesOn 249 = .ok (.iload_n 1, 1) := by decide +kernel
theorem dX7_goesOn_250 : decode cX7_goesOn 250 = .ok (.bipush 8, 2) := by decide +kernel
theorem dX7_goesOn_252 : decode cX7_goesOn 252 = .ok (.invokevirtual 53, 3) := by decide +kernel
theorem dX7_goesOn_255 : decode cX7_goesOn 255 = .ok (.aload_n 0, 1) := by decide +kernel
theorem dX7_goesOn_256 : decode cX7_goesOn 256 = .ok (.iload_n 1, 1) := by decide +kernel
theorem dX7_goesOn_257 : decode cX7_goesOn 257 = .ok (.iconst 1, 1) := by decide +kernel
theorem dX7_goesOn_258 : decode cX7_goesOn 258 = .ok (.invokevirtual 53, 3) := by decide +kernel
theorem dX7_goesOn_261 : decode cX7_goesOn 261 = .ok (.if_icmp .ne 16, 3) := by decide +kernel
theorem dX7_goesOn_264 : decode cX7_goesOn 264 = .ok (.aload_n 0, 1) := by decide +kernel
theorem dX7_goesOn_265 : decode cX7_goesOn 265 = .ok (.iload_n 1, 1) := by decide +kernel
theorem dX7_goesOn_266 : decode cX7_goesOn 266 = .ok (.iconst 5, 1) := by decide +kernel
theorem dX7_goesOn_267 : decode cX7_goesOn 267 = .ok (.iconst 3, 1) := by decide +kernel
theorem dX7_goesOn_268 : decode cX7_goesOn 268 = .ok (.invokevirtual 45, 3) := by decide +kernel
theorem dX7_goesOn_271 : decode cX7_goesOn 271 = .ok (.aload_n 0, 1) := by decide +kernel
theorem dX7_goesOn_272 : decode cX7_goesOn 272 = .ok (.iload_n 1, 1) := by decide +kernel
theorem dX7_goesOn_273 : decode cX7_goesOn 273 = .ok (.iconst 2, 1) := by decide +kernel
theorem dX7_goesOn_274 : decode cX7_goesOn 274 = .ok (.invokevirtual 98, 3) := by decide +kernel
theorem dX7_goesOn_277 : decode cX7_goesOn 277 = .ok (.return_, 1) := by decide +kernel
theorem dX7_pass_0 : decode cX7_pass 0 = .ok (.iload_n 1, 1) := by decide +kernel
theorem dX7_pass_1 : decode cX7_pass 1 = .ok (.iconst 1, 1) := by decide +kernel
theorem dX7_pass_2 : decode cX7_pass 2 = .ok (.bipush 60, 2) := by decide +kernel
theorem dX7_pass_4 : decode cX7_pass 4 = .ok (.invokestatic 33, 3) := by decide +kernel
theorem dX7_pass_7 : decode cX7_pass 7 = .ok (.ifCond .ne 6, 3) := by decide +kernel
theorem dX7_pass_10 : decode cX7_pass 10 = .ok (.bipush (-2), 2) := by decide +kernel
theorem dX7_pass_12 : decode cX7_pass 12 = .ok (.ireturn, 1) := by decide +kernel
theorem dX7_pass_13 : decode cX7_pass 13 = .ok (.aload_n 0, 1) := by decide +kernel
theorem dX7_pass_14 : decode cX7_pass 14 = .ok (.invokevirtual 42, 3) := by decide +kernel
theorem dX7_pass_17 : decode cX7_pass 17 = .ok (.iconst 0, 1) := by decide +kernel
theorem dX7_pass_18 : decode cX7_pass 18 = .ok (.istore_n 2, 1) := by decide +kernel
theorem dX7_pass_19 : decode cX7_pass 19 = .ok (.iconst 0, 1) := by decide +kernel
theorem dX7_pass_20 : decode cX7_pass 20 = .ok (.istore_n 3, 1) := by decide +kernel
theorem dX7_pass_21 : decode cX7_pass 21 = .ok (.iload_n 3, 1) := by decide +kernel
theorem dX7_pass_22 : decode cX7_pass 22 = .ok (.iload_n 1, 1) := by decide +kernel
theorem dX7_pass_23 : decode cX7_pass 23 = .ok (.if_icmp .ge 56, 3) := by decide +kernel
theorem dX7_pass_26 : decode cX7_pass 26 = .ok (.aload_n 0, 1) := by decide +kernel
theorem dX7_pass_27 : decode cX7_pass 27 = .ok (.invokevirtual 121, 3) := by decide +kernel
theorem dX7_pass_30 : decode cX7_pass 30 = .ok (.iload_n 2, 1) := by decide +kernel
theorem dX7_pass_31 : decode cX7_pass 31 = .ok (.aload_n 0, 1) := by decide +kernel
theorem dX7_pass_32 : decode cX7_pass 32 = .ok (.invokevirtual 124, 3) := by decide +kernel
theorem dX7_pass_35 : decode cX7_pass 35 = .ok (.iadd, 1) := by decide +kernel
theorem dX7_pass_36 : decode cX7_pass 36 = .ok (.istore_n 2, 1) := by decide +kernel
theorem dX7_pass_37 : decode cX7_pass 37 = .ok (.iconst 0, 1) := by decide +kernel
theorem dX7_pass_38 : decode cX7_pass 38 = .ok (.istore 4, 2) := by decide +kernel
theorem dX7_pass_40 : decode cX7_pass 40 = .ok (.iload 4, 2) := by decide +kernel
theorem dX7_pass_42 : decode cX7_pass 42 = .ok (.aload_n 0, 1) := by decide +kernel
theorem dX7_pass_43 : decode cX7_pass 43 = .ok (.getfield 7, 3) := by decide +kernel
theorem dX7_pass_46 : decode cX7_pass 46 = .ok (.iconst 0, 1) := by decide +kernel
theorem dX7_pass_47 : decode cX7_pass 47 = .ok (.iaload, 1) := by decide +kernel
theorem dX7_pass_48 : decode cX7_pass 48 = .ok (.if_icmp .ge 15, 3) := by decide +kernel
theorem dX7_pass_51 : decode cX7_pass 51 = .ok (.aload_n 0, 1) := by decide +kernel
theorem dX7_pass_52 : decode cX7_pass 52 = .ok (.iload 4, 2) := by decide +kernel
theorem dX7_pass_54 : decode cX7_pass 54 = .ok (.invokevirtual 128, 3) := by decide +kernel
theorem dX7_pass_57 : decode cX7_pass 57 = .ok (.iinc 4 1, 3) := by decide +kernel
theorem dX7_pass_60 : decode cX7_pass 60 = .ok (.goto (-20), 3) := by decide +kernel
theorem dX7_pass_63 : decode cX7_pass 63 = .ok (.aload_n 0, 1) := by decide +kernel
theorem dX7_pass_64 : decode cX7_pass 64 = .ok (.getfield 7, 3) := by decide +kernel
theorem dX7_pass_67 : decode cX7_pass 67 = .ok (.iconst 1, 1) := by decide +kernel
theorem dX7_pass_68 : decode cX7_pass 68 = .ok (.dup2, 1) := by decide +kernel
theorem dX7_pass_69 : decode cX7_pass 69 = .ok (.iaload, 1) := by decide +kernel
theorem dX7_pass_70 : decode cX7_pass 70 = .ok (.iconst 1, 1) := by decide +kernel
theorem dX7_pass_71 : decode cX7_pass 71 = .ok (.iadd, 1) := by decide +kernel
theorem dX7_pass_72 : decode cX7_pass 72 = .ok (.iastore, 1) := by decide +kernel
theorem dX7_pass_73 : decode cX7_pass 73 = .ok (.iinc 3 1, 3) := by decide +kernel
theorem dX7_pass_76 : decode cX7_pass 76 = .ok (.goto (-55), 3) := by decide +kernel
theorem dX7_pass_79 : decode cX7_pass 79 = .ok (.iload_n 2, 1) := by decide +kernel
theorem dX7_pass_80 : decode cX7_pass 80 = .ok (.ireturn, 1) := by decide +kernel
theorem dX7_type_0 : decode cX7_type 0 = .ok (.aload_n 0, 1) := by decide +kernel
theorem dX7_type_1 : decode cX7_type 1 = .ok (.getfield 132, 3) := by decide +kernel
theorem dX7_type_4 : decode cX7_type 4 = .ok (.bipush 80, 2) := by decide +kernel
theorem dX7_type_6 : decode cX7_type 6 = .ok (.if_icmp .ne 9, 3) := by decide +kernel
theorem dX7_type_9 : decode cX7_type 9 = .ok (.aload_n 0, 1) := by decide +kernel
theorem dX7_type_10 : decode cX7_type 10 = .ok (.iconst 5, 1) := by decide +kernel
theorem dX7_type_11 : decode cX7_type 11 = .ok (.invokevirtual 38, 3) := by decide +kernel
theorem dX7_type_14 : decode cX7_type 14 = .ok (.ireturn, 1) := by decide +kernel
theorem dX7_type_15 : decode cX7_type 15 = .ok (.aload_n 0, 1) := by decide +kernel
theorem dX7_type_16 : decode cX7_type 16 = .ok (.getfield 19, 3) := by decide +kernel
theorem dX7_type_19 : decode cX7_type 19 = .ok (.aload_n 0, 1) := by decide +kernel
theorem dX7_type_20 : decode cX7_type 20 = .ok (.getfield 132, 3) := by decide +kernel
theorem dX7_type_23 : decode cX7_type 23 = .ok (.iload_n 1, 1) := by decide +kernel
theorem dX7_type_24 : decode cX7_type 24 = .ok (.castore, 1) := by decide +kernel
theorem dX7_type_25 : decode cX7_type 25 = .ok (.aload_n 0, 1) := by decide +kernel
theorem dX7_type_26 : decode cX7_type 26 = .ok (.dup, 1) := by decide +kernel
theorem dX7_type_27 : decode cX7_type 27 = .ok (.getfield 132, 3) := by decide +kernel
theorem dX7_type_30 : decode cX7_type 30 = .ok (.iconst 1, 1) := by decide +kernel
theorem dX7_type_31 : decode cX7_type 31 = .ok (.iadd, 1) := by decide +kernel
theorem dX7_type_32 : decode cX7_type 32 = .ok (.putfield 132, 3) := by decide +kernel
theorem dX7_type_35 : decode cX7_type 35 = .ok (.aload_n 0, 1) := by decide +kernel
theorem dX7_type_36 : decode cX7_type 36 = .ok (.getfield 132, 3) := by decide +kernel
theorem dX7_type_39 : decode cX7_type 39 = .ok (.ireturn, 1) := by decide +kernel
theorem dX7_clearText_0 : decode cX7_clearText 0 = .ok (.aload_n 0, 1) := by decide +kernel
theorem dX7_clearText_1 : decode cX7_clearText 1 = .ok (.getfield 132, 3) := by decide +kernel
theorem dX7_clearText_4 : decode cX7_clearText 4 = .ok (.istore_n 1, 1) := by decide +kernel
theorem dX7_clearText_5 : decode cX7_clearText 5 = .ok (.aload_n 0, 1) := by decide +kernel
theorem dX7_clearText_6 : decode cX7_clearText 6 = .ok (.iconst 0, 1) := by decide +kernel
theorem dX7_clearText_7 : decode cX7_clearText 7 = .ok (.putfield 132, 3) := by decide +kernel
theorem dX7_clearText_10 : decode cX7_clearText 10 = .ok (.iload_n 1, 1) := by decide +kernel
theorem dX7_clearText_11 : decode cX7_clearText 11 = .ok (.ireturn, 1) := by decide +kernel
theorem dX7_end_0 : decode cX7_end 0 = .ok (.aload_n 0, 1) := by decide +kernel
theorem dX7_end_1 : decode cX7_end 1 = .ok (.getfield 135, 3) := by decide +kernel
theorem dX7_end_4 : decode cX7_end 4 = .ok (.istore_n 1, 1) := by decide +kernel
theorem dX7_end_5 : decode cX7_end 5 = .ok (.iload_n 1, 1) := by decide +kernel
theorem dX7_end_6 : decode cX7_end 6 = .ok (.aload_n 0, 1) := by decide +kernel
theorem dX7_end_7 : decode cX7_end 7 = .ok (.getfield 132, 3) := by decide +kernel
theorem dX7_end_10 : decode cX7_end 10 = .ok (.if_icmp .ge 31, 3) := by decide +kernel
theorem dX7_end_13 : decode cX7_end 13 = .ok (.aload_n 0, 1) := by decide +kernel
theorem dX7_end_14 : decode cX7_end 14 = .ok (.getfield 19, 3) := by decide +kernel
theorem dX7_end_17 : decode cX7_end 17 = .ok (.iload_n 1, 1) := by decide +kernel
theorem dX7_end_18 : decode cX7_end 18 = .ok (.caload, 1) := by decide +kernel
theorem dX7_end_19 : decode cX7_end 19 = .ok (.bipush 32, 2) := by decide +kernel
theorem dX7_end_21 : decode cX7_end 21 = .ok (.if_icmp .eq 20, 3) := by decide +kernel
theorem dX7_end_24 : decode cX7_end 24 = .ok (.aload_n 0, 1) := by decide +kernel
theorem dX7_end_25 : decode cX7_end 25 = .ok (.getfield 19, 3) := by decide +kernel
theorem dX7_end_28 : decode cX7_end 28 = .ok (.iload_n 1, 1) := by decide +kernel
theorem dX7_end_29 : decode cX7_end 29 = .ok (.caload, 1) := by decide +kernel
theorem dX7_end_30 : decode cX7_end 30 = .ok (.bipush 59, 2) := by decide +kernel
theorem dX7_end_32 : decode cX7_end 32 = .ok (.if_icmp .eq 9, 3) := by decide +kernel
theorem dX7_end_35 : decode cX7_end 35 = .ok (.iinc 1 1, 3) := by decide +kernel
theorem dX7_end_38 : decode cX7_end 38 = .ok (.goto (-33), 3) := by decide +kernel
theorem dX7_end_41 : decode cX7_end 41 = .ok (.iload_n 1, 1) := by decide +kernel
theorem dX7_end_42 : decode cX7_end 42 = .ok (.ireturn, 1) := by decide +kernel
theorem dX7_timeAt_0 : decode cX7_timeAt 0 = .ok (.iload_n 1, 1) := by decide +kernel
theorem dX7_timeAt_1 : decode cX7_timeAt 1 = .ok (.aload_n 0, 1) := by decide +kernel
theorem dX7_timeAt_2 : decode cX7_timeAt 2 = .ok (.getfield 135, 3) := by decide +kernel
theorem dX7_timeAt_5 : decode cX7_timeAt 5 = .ok (.isub, 1) := by decide +kernel
theorem dX7_timeAt_6 : decode cX7_timeAt 6 = .ok (.istore_n 3, 1) := by decide +kernel
theorem dX7_timeAt_7 : decode cX7_timeAt 7 = .ok (.iload_n 3, 1) := by decide +kernel
theorem dX7_timeAt_8 : decode cX7_timeAt 8 = .ok (.iconst 1, 1) := by decide +kernel
theorem dX7_timeAt_9 : decode cX7_timeAt 9 = .ok (.iconst 4, 1) := by decide +kernel
theorem dX7_timeAt_10 : decode cX7_timeAt 10 = .ok (.invokestatic 33, 3) := by decide +kernel
theorem dX7_timeAt_13 : decode cX7_timeAt 13 = .ok (.ifCond .eq 22, 3) := by decide +kernel
theorem dX7_timeAt_16 : decode cX7_timeAt 16 = .ok (.iload_n 3, 1) := by decide +kernel
theorem dX7_timeAt_17 : decode cX7_timeAt 17 = .ok (.iconst 1, 1) := by decide +kernel
theorem dX7_timeAt_18 : decode cX7_timeAt 18 = .ok (.if_icmp .le 20, 3) := by decide +kernel
theorem dX7_timeAt_21 : decode cX7_timeAt 21 = .ok (.aload_n 0, 1) := by decide +kernel
theorem dX7_timeAt_22 : decode cX7_timeAt 22 = .ok (.getfield 19, 3) := by decide +kernel
theorem dX7_timeAt_25 : decode cX7_timeAt 25 = .ok (.aload_n 0, 1) := by decide +kernel
theorem dX7_timeAt_26 : decode cX7_timeAt 26 = .ok (.getfield 135, 3) := by decide +kernel
theorem dX7_timeAt_29 : decode cX7_timeAt 29 = .ok (.caload, 1) := by decide +kernel
theorem dX7_timeAt_30 : decode cX7_timeAt 30 = .ok (.bipush 48, 2) := by decide +kernel
theorem dX7_timeAt_32 : decode cX7_timeAt 32 = .ok (.if_icmp .ne 6, 3) := by decide +kernel
theorem dX7_timeAt_35 : decode cX7_timeAt 35 = .ok (.bipush (-4), 2) := by decide +kernel
theorem dX7_timeAt_37 : decode cX7_timeAt 37 = .ok (.ireturn, 1) := by decide +kernel
theorem dX7_timeAt_38 : decode cX7_timeAt 38 = .ok (.iconst 0, 1) := by decide +kernel
theorem dX7_timeAt_39 : decode cX7_timeAt 39 = .ok (.istore 4, 2) := by decide +kernel
theorem dX7_timeAt_41 : decode cX7_timeAt 41 = .ok (.aload_n 0, 1) := by decide +kernel
theorem dX7_timeAt_42 : decode cX7_timeAt 42 = .ok (.getfield 135, 3) := by decide +kernel
theorem dX7_timeAt_45 : decode cX7_timeAt 45 = .ok (.istore 5, 2) := by decide +kernel
theorem dX7_timeAt_47 : decode cX7_timeAt 47 = .ok (.iload 5, 2) := by decide +kernel
theorem dX7_timeAt_49 : decode cX7_timeAt 49 = .ok (.iload_n 1, 1) := by decide +kernel
theorem dX7_timeAt_50 : decode cX7_timeAt 50 = .ok (.if_icmp .ge 47, 3) := by decide +kernel
theorem dX7_timeAt_53 : decode cX7_timeAt 53 = .ok (.aload_n 0, 1) := by decide +kernel
theorem dX7_timeAt_54 : decode cX7_timeAt 54 = .ok (.getfield 19, 3) := by decide +kernel
theorem dX7_timeAt_57 : decode cX7_timeAt 57 = .ok (.iload 5, 2) := by decide +kernel
theorem dX7_timeAt_59 : decode cX7_timeAt 59 = .ok (.caload, 1) := by decide +kernel
theorem dX7_timeAt_60 : decode cX7_timeAt 60 = .ok (.bipush 48, 2) := by decide +kernel
theorem dX7_timeAt_62 : decode cX7_timeAt 62 = .ok (.bipush 57, 2) := by decide +kernel
theorem dX7_timeAt_64 : decode cX7_timeAt 64 = .ok (.invokestatic 33, 3) := by decide +kernel
theorem dX7_timeAt_67 : decode cX7_timeAt 67 = .ok (.ifCond .ne 6, 3) := by decide +kernel
theorem dX7_timeAt_70 : decode cX7_timeAt 70 = .ok (.bipush (-4), 2) := by decide +kernel
theorem dX7_timeAt_72 : decode cX7_timeAt 72 = .ok (.ireturn, 1) := by decide +kernel
theorem dX7_timeAt_73 : decode cX7_timeAt 73 = .ok (.bipush 10, 2) := by decide +kernel
theorem dX7_timeAt_75 : decode cX7_timeAt 75 = .ok (.iload 4, 2) := by decide +kernel
theorem dX7_timeAt_77 : decode cX7_timeAt 77 = .ok (.imul, 1) := by decide +kernel
theorem dX7_timeAt_78 : decode cX7_timeAt 78 = .ok (.aload_n 0, 1) := by decide +kernel
theorem dX7_timeAt_79 : decode cX7_timeAt 79 = .ok (.getfield 19, 3) := by decide +kernel
theorem dX7_timeAt_82 : decode cX7_timeAt 82 = .ok (.iload 5, 2) := by decide +kernel
theorem dX7_timeAt_84 : decode cX7_timeAt 84 = .ok (.caload, 1) := by decide +kernel
theorem dX7_timeAt_85 : decode cX7_timeAt 85 = .ok (.iadd, 1) := by decide +kernel
theorem dX7_timeAt_86 : decode cX7_timeAt 86 = .ok (.bipush 48, 2) := by decide +kernel
theorem dX7_timeAt_88 : decode cX7_timeAt 88 = .ok (.isub, 1) := by decide +kernel
theorem dX7_timeAt_89 : decode cX7_timeAt 89 = .ok (.istore 4, 2) := by decide +kernel
theorem dX7_timeAt_91 : decode cX7_timeAt 91 = .ok (.iinc 5 1, 3) := by decide +kernel
theorem dX7_timeAt_94 : decode cX7_timeAt 94 = .ok (.goto (-47), 3) := by decide +kernel
theorem dX7_timeAt_97 : decode cX7_timeAt 97 = .ok (.iload 4, 2) := by decide +kernel
theorem dX7_timeAt_99 : decode cX7_timeAt 99 = .ok (.iload_n 2, 1) := by decide +kernel
theorem dX7_timeAt_100 : decode cX7_timeAt 100 = .ok (.if_icmp .ge 8, 3) := by decide +kernel
theorem dX7_timeAt_103 : decode cX7_timeAt 103 = .ok (.bipush (-4), 2) := by decide +kernel
theorem dX7_timeAt_105 : decode cX7_timeAt 105 = .ok (.goto 5, 3) := by decide +kernel
theorem dX7_timeAt_108 : decode cX7_timeAt 108 = .ok (.iload 4, 2) := by decide +kernel
theorem dX7_timeAt_110 : decode cX7_timeAt 110 = .ok (.ireturn, 1) := by decide +kernel
theorem dX7_isWord_0 : decode cX7_isWord 0 = .ok (.iload_n 1, 1) := by decide +kernel
theorem dX7_isWord_1 : decode cX7_isWord 1 = .ok (.aload_n 0, 1) := by decide +kernel
theorem dX7_isWord_2 : decode cX7_isWord 2 = .ok (.getfield 135, 3) := by decide +kernel
theorem dX7_isWord_5 : decode cX7_isWord 5 = .ok (.isub, 1) := by decide +kernel
theorem dX7_isWord_6 : decode cX7_isWord 6 = .ok (.iload_n 2, 1) := by decide +kernel
theorem dX7_isWord_7 : decode cX7_isWord 7 = .ok (.if_icmp .ne 48, 3) := by decide +kernel
theorem dX7_isWord_10 : decode cX7_isWord 10 = .ok (.aload_n 0, 1) := by decide +kernel
theorem dX7_isWord_11 : decode cX7_isWord 11 = .ok (.getfield 19, 3) := by decide +kernel
theorem dX7_isWord_14 : decode cX7_isWord 14 = .ok (.aload_n 0, 1) := by decide +kernel
theorem dX7_isWord_15 : decode cX7_isWord 15 = .ok (.getfield 135, 3) := by decide +kernel
theorem dX7_isWord_18 : decode cX7_isWord 18 = .ok (.caload, 1) := by decide +kernel
theorem dX7_isWord_19 : decode cX7_isWord 19 = .ok (.iload_n 3, 1) := by decide +kernel
theorem dX7_isWord_20 : decode cX7_isWord 20 = .ok (.if_icmp .ne 35, 3) := by decide +kernel
theorem dX7_isWord_23 : decode cX7_isWord 23 = .ok (.aload_n 0, 1) := by decide +kernel
theorem dX7_isWord_24 : decode cX7_isWord 24 = .ok (.getfield 19, 3) := by decide +kernel
theorem dX7_isWord_27 : decode cX7_isWord 27 = .ok (.aload_n 0, 1) := by decide +kernel
theorem dX7_isWord_28 : decode cX7_isWord 28 = .ok (.getfield 135, 3) := by decide +kernel
theorem dX7_isWord_31 : decode cX7_isWord 31 = .ok (.iconst 1, 1) := by decide +kernel
theorem dX7_isWord_32 : decode cX7_isWord 32 = .ok (.iadd, 1) := by decide +kernel
theorem dX7_isWord_33 : decode cX7_isWord 33 = .ok (.caload, 1) := by decide +kernel
theorem dX7_isWord_34 : decode cX7_isWord 34 = .ok (.iload 4, 2) := by decide +kernel
theorem dX7_isWord_36 : decode cX7_isWord 36 = .ok (.if_icmp .ne 19, 3) := by decide +kernel
theorem dX7_isWord_39 : decode cX7_isWord 39 = .ok (.aload_n 0, 1) := by decide +kernel
theorem dX7_isWord_40 : decode cX7_isWord 40 = .ok (.getfield 19, 3) := by decide +kernel
theorem dX7_isWord_43 : decode cX7_isWord 43 = .ok (.aload_n 0, 1) := by decide +kernel
theorem dX7_isWord_44 : decode cX7_isWord 44 = .ok (.getfield 135, 3) := by decide +kernel
theorem dX7_isWord_47 : decode cX7_isWord 47 = .ok (.iconst 2, 1) := by decide +kernel
theorem dX7_isWord_48 : decode cX7_isWord 48 = .ok (.iadd, 1) := by decide +kernel
theorem dX7_isWord_49 : decode cX7_isWord 49 = .ok (.caload, 1) := by decide +kernel
theorem dX7_isWord_50 : decode cX7_isWord 50 = .ok (.iload 5, 2) := by decide +kernel
theorem dX7_isWord_52 : decode cX7_isWord 52 = .ok (.if_icmp .eq 5, 3) := by decide +kernel
theorem dX7_isWord_55 : decode cX7_isWord 55 = .ok (.iconst 0, 1) := by decide +kernel
theorem dX7_isWord_56 : decode cX7_isWord 56 = .ok (.ireturn, 1) := by decide +kernel
theorem dX7_isWord_57 : decode cX7_isWord 57 = .ok (.iload_n 2, 1) := by decide +kernel
theorem dX7_isWord_58 : decode cX7_isWord 58 = .ok (.iconst 4, 1) := by decide +kernel
theorem dX7_isWord_59 : decode cX7_isWord 59 = .ok (.if_icmp .lt 19, 3) := by decide +kernel
theorem dX7_isWord_62 : decode cX7_isWord 62 = .ok (.aload_n 0, 1) := by decide +kernel
theorem dX7_isWord_63 : decode cX7_isWord 63 = .ok (.getfield 19, 3) := by decide +kernel
theorem dX7_isWord_66 : decode cX7_isWord 66 = .ok (.aload_n 0, 1) := by decide +kernel
theorem dX7_isWord_67 : decode cX7_isWord 67 = .ok (.getfield 135, 3) := by decide +kernel
theorem dX7_isWord_70 : decode cX7_isWord 70 = .ok (.iconst 3, 1) := by decide +kernel
theorem dX7_isWord_71 : decode cX7_isWord 71 = .ok (.iadd, 1) := by decide +kernel
theorem dX7_isWord_72 : decode cX7_isWord 72 = .ok (.caload, 1) := by decide +kernel
theorem dX7_isWord_73 : decode cX7_isWord 73 = .ok (.iload 6, 2) := by decide +kernel
theorem dX7_isWord_75 : decode cX7_isWord 75 = .ok (.if_icmp .ne 28, 3) := by decide +kernel
theorem dX7_isWord_78 : decode cX7_isWord 78 = .ok (.iload_n 2, 1) := by decide +kernel
theorem dX7_isWord_79 : decode cX7_isWord 79 = .ok (.iconst 5, 1) := by decide +kernel
theorem dX7_isWord_80 : decode cX7_isWord 80 = .ok (.if_icmp .lt 19, 3) := by decide +kernel
theorem dX7_isWord_83 : decode cX7_isWord 83 = .ok (.aload_n 0, 1) := by decide +kernel
theorem dX7_isWord_84 : decode cX7_isWord 84 = .ok (.getfield 19, 3) := by decide +kernel
theorem dX7_isWord_87 : decode cX7_isWord 87 = .ok (.aload_n 0, 1) := by decide +kernel
theorem dX7_isWord_88 : decode cX7_isWord 88 = .ok (.getfield 135, 3) := by decide +kernel
theorem dX7_isWord_91 : decode cX7_isWord 91 = .ok (.iconst 4, 1) := by decide +kernel
theorem dX7_isWord_92 : decode cX7_isWord 92 = .ok (.iadd, 1) := by decide +kernel
theorem dX7_isWord_93 : decode cX7_isWord 93 = .ok (.caload, 1) := by decide +kernel
theorem dX7_isWord_94 : decode cX7_isWord 94 = .ok (.iload 7, 2) := by decide +kernel
theorem dX7_isWord_96 : decode cX7_isWord 96 = .ok (.if_icmp .ne 7, 3) := by decide +kernel
theorem dX7_isWord_99 : decode cX7_isWord 99 = .ok (.iconst 1, 1) := by decide +kernel
theorem dX7_isWord_100 : decode cX7_isWord 100 = .ok (.goto 4, 3) := by decide +kernel
theorem dX7_isWord_103 : decode cX7_isWord 103 = .ok (.iconst 0, 1) := by decide +kernel
theorem dX7_isWord_104 : decode cX7_isWord 104 = .ok (.ireturn, 1) := by decide +kernel
theorem dX7_wordAt_0 : decode cX7_wordAt 0 = .ok (.aload_n 0, 1) := by decide +kernel
theorem dX7_wordAt_1 : decode cX7_wordAt 1 = .ok (.iload_n 1, 1) := by decide +kernel
theorem dX7_wordAt_2 : decode cX7_wordAt 2 = .ok (.iconst 5, 1) := by decide +kernel
theorem dX7_wordAt_3 : decode cX7_wordAt 3 = .ok (.bipush 115, 2) := by decide +kernel
theorem dX7_wordAt_5 : decode cX7_wordAt 5 = .ok (.bipush 116, 2) := by decide +kernel
theorem dX7_wordAt_7 : decode cX7_wordAt 7 = .ok (.bipush 97, 2) := by decide +kernel
theorem dX7_wordAt_9 : decode cX7_wordAt 9 = .ok (.bipush 114, 2) := by decide +kernel
theorem dX7_wordAt_11 : decode cX7_wordAt 11 = .ok (.bipush 116, 2) := by decide +kernel
theorem dX7_wordAt_13 : decode cX7_wordAt 13 = .ok (.invokevirtual 138, 3) := by decide +kernel
theorem dX7_wordAt_16 : decode cX7_wordAt 16 = .ok (.ifCond .eq 5, 3) := by decide +kernel
theorem dX7_wordAt_19 : decode cX7_wordAt 19 = .ok (.iconst 0, 1) := by decide +kernel
theorem dX7_wordAt_20 : decode cX7_wordAt 20 = .ok (.ireturn, 1) := by decide +kernel
theorem dX7_wordAt_21 : decode cX7_wordAt 21 = .ok (.aload_n 0, 1) := by decide +kernel
theorem dX7_wordAt_22 : decode cX7_wordAt 22 = .ok (.iload_n 1, 1) := by decide +kernel
theorem dX7_wordAt_23 : decode cX7_wordAt 23 = .ok (.iconst 4, 1) := by decide +kernel
theorem dX7_wordAt_24 : decode cX7_wordAt 24 = .ok (.bipush 115, 2) := by decide +kernel
theorem dX7_wordAt_26 : decode cX7_wordAt 26 = .ok (.bipush 116, 2) := by decide +kernel
theorem dX7_wordAt_28 : decode cX7_wordAt 28 = .ok (.bipush 111, 2) := by decide +kernel
theorem dX7_wordAt_30 : decode cX7_wordAt 30 = .ok (.bipush 112, 2) := by decide +kernel
theorem dX7_wordAt_32 : decode cX7_wordAt 32 = .ok (.iconst 0, 1) := by decide +kernel
theorem dX7_wordAt_33 : decode cX7_wordAt 33 = .ok (.invokevirtual 138, 3) := by decide +kernel
theorem dX7_wordAt_36 : decode cX7_wordAt 36 = .ok (.ifCond .eq 5, 3) := by decide +kernel
theorem dX7_wordAt_39 : decode cX7_wordAt 39 = .ok (.iconst 1, 1) := by decide +kernel
theorem dX7_wordAt_40 : decode cX7_wordAt 40 = .ok (.ireturn, 1) := by decide +kernel
theorem dX7_wordAt_41 : decode cX7_wordAt 41 = .ok (.aload_n 0, 1) := by decide +kernel
theorem dX7_wordAt_42 : decode cX7_wordAt 42 = .ok (.iload_n 1, 1) := by decide +kernel
theorem dX7_wordAt_43 : decode cX7_wordAt 43 = .ok (.iconst 4, 1) := by decide +kernel
theorem dX7_wordAt_44 : decode cX7_wordAt 44 = .ok (.bipush 108, 2) := by decide +kernel
theorem dX7_wordAt_46 : decode cX7_wordAt 46 = .ok (.bipush 111, 2) := by decide +kernel
theorem dX7_wordAt_48 : decode cX7_wordAt 48 = .ok (.bipush 115, 2) := by decide +kernel
theorem dX7_wordAt_50 : decode cX7_wordAt 50 = .ok (.bipush 101, 2) := by decide +kernel
theorem dX7_wordAt_52 : decode cX7_wordAt 52 = .ok (.iconst 0, 1) := by decide +kernel
theorem dX7_wordAt_53 : decode cX7_wordAt 53 = .ok (.invokevirtual 138, 3) := by decide +kernel
theorem dX7_wordAt_56 : decode cX7_wordAt 56 = .ok (.ifCond .eq 5, 3) := by decide +kernel
theorem dX7_wordAt_59 : decode cX7_wordAt 59 = .ok (.iconst 2, 1) := by decide +kernel
theorem dX7_wordAt_60 : decode cX7_wordAt 60 = .ok (.ireturn, 1) := by decide +kernel
theorem dX7_wordAt_61 : decode cX7_wordAt 61 = .ok (.aload_n 0, 1) := by decide +kernel
theorem dX7_wordAt_62 : decode cX7_wordAt 62 = .ok (.iload_n 1, 1) := by decide +kernel
theorem dX7_wordAt_63 : decode cX7_wordAt 63 = .ok (.iconst 5, 1) := by decide +kernel
theorem dX7_wordAt_64 : decode cX7_wordAt 64 = .ok (.bipush 114, 2) := by decide +kernel
theorem dX7_wordAt_66 : decode cX7_wordAt 66 = .ok (.bipush 101, 2) := by decide +kernel
theorem dX7_wordAt_68 : decode cX7_wordAt 68 = .ok (.bipush 115, 2) := by decide +kernel
theorem dX7_wordAt_70 : decode cX7_wordAt 70 = .ok (.bipush 101, 2) := by decide +kernel
theorem dX7_wordAt_72 : decode cX7_wordAt 72 = .ok (.bipush 116, 2) := by decide +kernel
theorem dX7_wordAt_74 : decode cX7_wordAt 74 = .ok (.invokevirtual 138, 3) := by decide +kernel
theorem dX7_wordAt_77 : decode cX7_wordAt 77 = .ok (.ifCond .eq 5, 3) := by decide +kernel
theorem dX7_wordAt_80 : decode cX7_wordAt 80 = .ok (.iconst 3, 1) := by decide +kernel
theorem dX7_wordAt_81 : decode cX7_wordAt 81 = .ok (.ireturn, 1) := by decide +kernel
theorem dX7_wordAt_82 : decode cX7_wordAt 82 = .ok (.aload_n 0, 1) := by decide +kernel
theorem dX7_wordAt_83 : decode cX7_wordAt 83 = .ok (.iload_n 1, 1) := by decide +kernel
theorem dX7_wordAt_84 : decode cX7_wordAt 84 = .ok (.iconst 3, 1) := by decide +kernel
theorem dX7_wordAt_85 : decode cX7_wordAt 85 = .ok (.bipush 102, 2) := by decide +kernel
theorem dX7_wordAt_87 : decode cX7_wordAt 87 = .ok (.bipush 97, 2) := by decide +kernel
theorem dX7_wordAt_89 : decode cX7_wordAt 89 = .ok (.bipush 110, 2) := by decide +kernel
theorem dX7_wordAt_91 : decode cX7_wordAt 91 = .ok (.iconst 0, 1) := by decide +kernel
theorem dX7_wordAt_92 : decode cX7_wordAt 92 = .ok (.iconst 0, 1) := by decide +kernel
theorem dX7_wordAt_93 : decode cX7_wordAt 93 = .ok (.invokevirtual 138, 3) := by decide +kernel
theorem dX7_wordAt_96 : decode cX7_wordAt 96 = .ok (.ifCond .eq 7, 3) := by decide +kernel
theorem dX7_wordAt_99 : decode cX7_wordAt 99 = .ok (.iconst 4, 1) := by decide +kernel
theorem dX7_wordAt_100 : decode cX7_wordAt 100 = .ok (.goto 5, 3) := by decide +kernel
theorem dX7_wordAt_103 : decode cX7_wordAt 103 = .ok (.bipush (-4), 2) := by decide +kernel
theorem dX7_wordAt_105 : decode cX7_wordAt 105 = .ok (.ireturn, 1) := by decide +kernel
theorem dX7_digitAt_0 : decode cX7_digitAt 0 = .ok (.iload_n 1, 1) := by decide +kernel
theorem dX7_digitAt_1 : decode cX7_digitAt 1 = .ok (.aload_n 0, 1) := by decide +kernel
theorem dX7_digitAt_2 : decode cX7_digitAt 2 = .ok (.getfield 135, 3) := by decide +kernel
theorem dX7_digitAt_5 : decode cX7_digitAt 5 = .ok (.isub, 1) := by decide +kernel
theorem dX7_digitAt_6 : decode cX7_digitAt 6 = .ok (.iconst 1, 1) := by decide +kernel
theorem dX7_digitAt_7 : decode cX7_digitAt 7 = .ok (.if_icmp .ne 39, 3) := by decide +kernel
theorem dX7_digitAt_10 : decode cX7_digitAt 10 = .ok (.aload_n 0, 1) := by decide +kernel
theorem dX7_digitAt_11 : decode cX7_digitAt 11 = .ok (.getfield 19, 3) := by decide +kernel
theorem dX7_digitAt_14 : decode cX7_digitAt 14 = .ok (.aload_n 0, 1) := by decide +kernel
theorem dX7_digitAt_15 : decode cX7_digitAt 15 = .ok (.getfield 135, 3) := by decide +kernel
theorem dX7_digitAt_18 : decode cX7_digitAt 18 = .ok (.caload, 1) := by decide +kernel
theorem dX7_digitAt_19 : decode cX7_digitAt 19 = .ok (.bipush 48, 2) := by decide +kernel
theorem dX7_digitAt_21 : decode cX7_digitAt 21 = .ok (.bipush 48, 2) := by decide +kernel
theorem dX7_digitAt_23 : decode cX7_digitAt 23 = .ok (.iload_n 2, 1) := by decide +kernel
theorem dX7_digitAt_24 : decode cX7_digitAt 24 = .ok (.iadd, 1) := by decide +kernel
theorem dX7_digitAt_25 : decode cX7_digitAt 25 = .ok (.invokestatic 33, 3) := by decide +kernel
theorem dX7_digitAt_28 : decode cX7_digitAt 28 = .ok (.ifCond .eq 18, 3) := by decide +kernel
theorem dX7_digitAt_31 : decode cX7_digitAt 31 = .ok (.aload_n 0, 1) := by decide +kernel
theorem dX7_digitAt_32 : decode cX7_digitAt 32 = .ok (.getfield 19, 3) := by decide +kernel
theorem dX7_digitAt_35 : decode cX7_digitAt 35 = .ok (.aload_n 0, 1) := by decide +kernel
theorem dX7_digitAt_36 : decode cX7_digitAt 36 = .ok (.getfield 135, 3) := by decide +kernel
theorem dX7_digitAt_39 : decode cX7_digitAt 39 = .ok (.caload, 1) := by decide +kernel
theorem dX7_digitAt_40 : decode cX7_digitAt 40 = .ok (.bipush 48, 2) := by decide +kernel
theorem dX7_digitAt_42 : decode cX7_digitAt 42 = .ok (.isub, 1) := by decide +kernel
theorem dX7_digitAt_43 : decode cX7_digitAt 43 = .ok (.goto 5, 3) := by decide +kernel
theorem dX7_digitAt_46 : decode cX7_digitAt 46 = .ok (.bipush (-4), 2) := by decide +kernel
theorem dX7_digitAt_48 : decode cX7_digitAt 48 = .ok (.ireturn, 1) := by decide +kernel
theorem dX7_takesBlank_0 : decode cX7_takesBlank 0 = .ok (.aload_n 0, 1) := by decide +kernel
theorem dX7_takesBlank_1 : decode cX7_takesBlank 1 = .ok (.getfield 135, 3) := by decide +kernel
theorem dX7_takesBlank_4 : decode cX7_takesBlank 4 = .ok (.aload_n 0, 1) := by decide +kernel
theorem dX7_takesBlank_5 : decode cX7_takesBlank 5 = .ok (.getfield 132, 3) := by decide +kernel
theorem dX7_takesBlank_8 : decode cX7_takesBlank 8 = .ok (.if_icmp .ge 17, 3) := by decide +kernel
theorem dX7_takesBlank_11 : decode cX7_takesBlank 11 = .ok (.aload_n 0, 1) := by decide +kernel
theorem dX7_takesBlank_12 : decode cX7_takesBlank 12 = .ok (.getfield 19, 3) := by decide +kernel
theorem dX7_takesBlank_15 : decode cX7_takesBlank 15 = .ok (.aload_n 0, 1) := by decide +kernel
theorem dX7_takesBlank_16 : decode cX7_takesBlank 16 = .ok (.getfield 135, 3) := by decide +kernel
theorem dX7_takesBlank_19 : decode cX7_takesBlank 19 = .ok (.caload, 1) := by decide +kernel
theorem dX7_takesBlank_20 : decode cX7_takesBlank 20 = .ok (.bipush 32, 2) := by decide +kernel
theorem dX7_takesBlank_22 : decode cX7_takesBlank 22 = .ok (.if_icmp .eq 5, 3) := by decide +kernel
theorem dX7_takesBlank_25 : decode cX7_takesBlank 25 = .ok (.iconst 0, 1) := by decide +kernel
theorem dX7_takesBlank_26 : decode cX7_takesBlank 26 = .ok (.ireturn, 1) := by decide +kernel
theorem dX7_takesBlank_27 : decode cX7_takesBlank 27 = .ok (.aload_n 0, 1) := by decide +kernel
theorem dX7_takesBlank_28 : decode cX7_takesBlank 28 = .ok (.dup, 1) := by decide +kernel
theorem dX7_takesBlank_29 : decode cX7_takesBlank 29 = .ok (.getfield 135, 3) := by decide +kernel
theorem dX7_takesBlank_32 : decode cX7_takesBlank 32 = .ok (.iconst 1, 1) := by decide +kernel
theorem dX7_takesBlank_33 : decode cX7_takesBlank 33 = .ok (.iadd, 1) := by decide +kernel
theorem dX7_takesBlank_34 : decode cX7_takesBlank 34 = .ok (.putfield 135, 3) := by decide +kernel
theorem dX7_takesBlank_37 : decode cX7_takesBlank 37 = .ok (.iconst 1, 1) := by decide +kernel
theorem dX7_takesBlank_38 : decode cX7_takesBlank 38 = .ok (.ireturn, 1) := by decide +kernel
theorem dX7_readsItem_0 : decode cX7_readsItem 0 = .ok (.iconst 4, 1) := by decide +kernel
theorem dX7_readsItem_1 : decode cX7_readsItem 1 = .ok (.aload_n 0, 1) := by decide +kernel
theorem dX7_readsItem_2 : decode cX7_readsItem 2 = .ok (.getfield 142, 3) := by decide +kernel
theorem dX7_readsItem_5 : decode cX7_readsItem 5 = .ok (.imul, 1) := by decide +kernel
theorem dX7_readsItem_6 : decode cX7_readsItem 6 = .ok (.istore_n 1, 1) := by decide +kernel
theorem dX7_readsItem_7 : decode cX7_readsItem 7 = .ok (.aload_n 0, 1) := by decide +kernel
theorem dX7_readsItem_8 : decode cX7_readsItem 8 = .ok (.invokevirtual 145, 3) := by decide +kernel
theorem dX7_readsItem_11 : decode cX7_readsItem 11 = .ok (.istore_n 2, 1) := by decide +kernel
theorem dX7_readsItem_12 : decode cX7_readsItem 12 = .ok (.aload_n 0, 1) := by decide +kernel
theorem dX7_readsItem_13 : decode cX7_readsItem 13 = .ok (.getfield 23, 3) := by decide +kernel
theorem dX7_readsItem_16 : decode cX7_readsItem 16 = .ok (.iload_n 1, 1) := by decide +kernel
theorem dX7_readsItem_17 : decode cX7_readsItem 17 = .ok (.aload_n 0, 1) := by decide +kernel
theorem dX7_readsItem_18 : decode cX7_readsItem 18 = .ok (.iload_n 2, 1) := by decide +kernel
theorem dX7_readsItem_19 : decode cX7_readsItem 19 = .ok (.aload_n 0, 1) := by decide +kernel
theorem dX7_readsItem_20 : decode cX7_readsItem 20 = .ok (.getfield 142, 3) := by decide +kernel
theorem dX7_readsItem_23 : decode cX7_readsItem 23 = .ok (.ifCond .ne 7, 3) := by decide +kernel
theorem dX7_readsItem_26 : decode cX7_readsItem 26 = .ok (.iconst 0, 1) := by decide +kernel
theorem dX7_readsItem_27 : decode cX7_readsItem 27 = .ok (.goto 11, 3) := by decide +kernel
theorem dX7_readsItem_30 : decode cX7_readsItem 30 = .ok (.aload_n 0, 1) := by decide +kernel
theorem dX7_readsItem_31 : decode cX7_readsItem 31 = .ok (.getfield 23, 3) := by decide +kernel
theorem dX7_readsItem_34 : decode cX7_readsItem 34 = .ok (.iload_n 1, 1) := by decide +kernel
theorem dX7_readsItem_35 : decode cX7_readsItem 35 = .ok (.iconst 4, 1) := by decide +kernel
theorem dX7_readsItem_36 : decode cX7_readsItem 36 = .ok (.isub, 1) := by decide +kernel
theorem dX7_readsItem_37 : decode cX7_readsItem 37 = .ok (.iaload, 1) := by decide +kernel
theorem dX7_readsItem_38 : decode cX7_readsItem 38 = .ok (.invokevirtual 148, 3) := by decide +kernel
theorem dX7_readsItem_41 : decode cX7_readsItem 41 = .ok (.iastore, 1) := by decide +kernel
theorem dX7_readsItem_42 : decode cX7_readsItem 42 = .ok (.aload_n 0, 1) := by decide +kernel
theorem dX7_readsItem_43 : decode cX7_readsItem 43 = .ok (.getfield 23, 3) := by decide +kernel
theorem dX7_readsItem_46 : decode cX7_readsItem 46 = .ok (.iload_n 1, 1) := by decide +kernel
theorem dX7_readsItem_47 : decode cX7_readsItem 47 = .ok (.iaload, 1) := by decide +kernel
theorem dX7_readsItem_48 : decode cX7_readsItem 48 = .ok (.bipush (-4), 2) := by decide +kernel
theorem dX7_readsItem_50 : decode cX7_readsItem 50 = .ok (.if_icmp .ne 5, 3) := by decide +kernel
theorem dX7_readsItem_53 : decode cX7_readsItem 53 = .ok (.iconst 0, 1) := by decide +kernel
theorem dX7_readsItem_54 : decode cX7_readsItem 54 = .ok (.ireturn, 1) := by decide +kernel
theorem dX7_readsItem_55 : decode cX7_readsItem 55 = .ok (.aload_n 0, 1) := by decide +kernel
theorem dX7_readsItem_56 : decode cX7_readsItem 56 = .ok (.iload_n 2, 1) := by decide +kernel
theorem dX7_readsItem_57 : decode cX7_readsItem 57 = .ok (.putfield 135, 3) := by decide +kernel
theorem dX7_readsItem_60 : decode cX7_readsItem 60 = .ok (.aload_n 0, 1) := by decide +kernel
theorem dX7_readsItem_61 : decode cX7_readsItem 61 = .ok (.invokevirtual 151, 3) := by decide +kernel
theorem dX7_readsItem_64 : decode cX7_readsItem 64 = .ok (.ifCond .ne 5, 3) := by decide +kernel
theorem dX7_readsItem_67 : decode cX7_readsItem 67 = .ok (.iconst 0, 1) := by decide +kernel
theorem dX7_readsItem_68 : decode cX7_readsItem 68 = .ok (.ireturn, 1) := by decide +kernel
theorem dX7_readsItem_69 : decode cX7_readsItem 69 = .ok (.aload_n 0, 1) := by decide +kernel
theorem dX7_readsItem_70 : decode cX7_readsItem 70 = .ok (.invokevirtual 145, 3) := by decide +kernel
theorem dX7_readsItem_73 : decode cX7_readsItem 73 = .ok (.istore_n 2, 1) := by decide +kernel
theorem dX7_readsItem_74 : decode cX7_readsItem 74 = .ok (.aload_n 0, 1) := by decide +kernel
theorem dX7_readsItem_75 : decode cX7_readsItem 75 = .ok (.getfield 23, 3) := by decide +kernel
theorem dX7_readsItem_78 : decode cX7_readsItem 78 = .ok (.iload_n 1, 1) := by decide +kernel
theorem dX7_readsItem_79 : decode cX7_readsItem 79 = .ok (.iconst 1, 1) := by decide +kernel
theorem dX7_readsItem_80 : decode cX7_readsItem 80 = .ok (.iadd, 1) := by decide +kernel
theorem dX7_readsItem_81 : decode cX7_readsItem 81 = .ok (.aload_n 0, 1) := by decide +kernel
theorem dX7_readsItem_82 : decode cX7_readsItem 82 = .ok (.iload_n 2, 1) := by decide +kernel
theorem dX7_readsItem_83 : decode cX7_readsItem 83 = .ok (.invokevirtual 155, 3) := by decide +kernel
theorem dX7_readsItem_86 : decode cX7_readsItem 86 = .ok (.iastore, 1) := by decide +kernel
theorem dX7_readsItem_87 : decode cX7_readsItem 87 = .ok (.aload_n 0, 1) := by decide +kernel
theorem dX7_readsItem_88 : decode cX7_readsItem 88 = .ok (.getfield 23, 3) := by decide +kernel
theorem dX7_readsItem_91 : decode cX7_readsItem 91 = .ok (.iload_n 1, 1) := by decide +kernel
theorem dX7_readsItem_92 : decode cX7_readsItem 92 = .ok (.iconst 1, 1) := by decide +kernel
theorem dX7_readsItem_93 : decode cX7_readsItem 93 = .ok (.iadd, 1) := by decide +kernel
theorem dX7_readsItem_94 : decode cX7_readsItem 94 = .ok (.iaload, 1) := by decide +kernel
theorem dX7_readsItem_95 : decode cX7_readsItem 95 = .ok (.bipush (-4), 2) := by decide +kernel
theorem dX7_readsItem_97 : decode cX7_readsItem 97 = .ok (.if_icmp .ne 5, 3) := by decide +kernel
theorem dX7_readsItem_100 : decode cX7_readsItem 100 = .ok (.iconst 0, 1) := by decide +kernel
theorem dX7_readsItem_101 : decode cX7_readsItem 101 = .ok (.ireturn, 1) := by decide +kernel
theorem dX7_readsItem_102 : decode cX7_readsItem 102 = .ok (.aload_n 0, 1) := by decide +kernel
theorem dX7_readsItem_103 : decode cX7_readsItem 103 = .ok (.iload_n 2, 1) := by decide +kernel
theorem dX7_readsItem_104 : decode cX7_readsItem 104 = .ok (.putfield 135, 3) := by decide +kernel
theorem dX7_readsItem_107 : decode cX7_readsItem 107 = .ok (.aload_n 0, 1) := by decide +kernel
theorem dX7_readsItem_108 : decode cX7_readsItem 108 = .ok (.invokevirtual 151, 3) := by decide +kernel
theorem dX7_readsItem_111 : decode cX7_readsItem 111 = .ok (.ifCond .ne 5, 3) := by decide +kernel
theorem dX7_readsItem_114 : decode cX7_readsItem 114 = .ok (.iconst 0, 1) := by decide +kernel
theorem dX7_readsItem_115 : decode cX7_readsItem 115 = .ok (.ireturn, 1) := by decide +kernel
theorem dX7_readsItem_116 : decode cX7_readsItem 116 = .ok (.aload_n 0, 1) := by decide +kernel
theorem dX7_readsItem_117 : decode cX7_readsItem 117 = .ok (.invokevirtual 145, 3) := by decide +kernel
theorem dX7_readsItem_120 : decode cX7_readsItem 120 = .ok (.istore_n 2, 1) := by decide +kernel
theorem dX7_readsItem_121 : decode cX7_readsItem 121 = .ok (.aload_n 0, 1) := by decide +kernel
theorem dX7_readsItem_122 : decode cX7_readsItem 122 = .ok (.getfield 23, 3) := by decide +kernel
theorem dX7_readsItem_125 : decode cX7_readsItem 125 = .ok (.iload_n 1, 1) := by decide +kernel
theorem dX7_readsItem_126 : decode cX7_readsItem 126 = .ok (.iconst 2, 1) := by decide +kernel
theorem dX7_readsItem_127 : decode cX7_readsItem 127 = .ok (.iadd, 1) := by decide +kernel
theorem dX7_readsItem_128 : decode cX7_readsItem 128 = .ok (.aload_n 0, 1) := by decide +kernel
theorem dX7_readsItem_129 : decode cX7_readsItem 129 = .ok (.iload_n 2, 1) := by decide +kernel
theorem dX7_readsItem_130 : decode cX7_readsItem 130 = .ok (.aload_n 0, 1) := by decide +kernel
theorem dX7_readsItem_131 : decode cX7_readsItem 131 = .ok (.getfield 23, 3) := by decide +kernel
theorem dX7_readsItem_134 : decode cX7_readsItem 134 = .ok (.iload_n 1, 1) := by decide +kernel
theorem dX7_readsItem_135 : decode cX7_readsItem 135 = .ok (.iconst 1, 1) := by decide +kernel
theorem dX7_readsItem_136 : decode cX7_readsItem 136 = .ok (.iadd, 1) := by decide +kernel
theorem dX7_readsItem_137 : decode cX7_readsItem 137 = .ok (.iaload, 1) := by decide +kernel
theorem dX7_readsItem_138 : decode cX7_readsItem 138 = .ok (.iconst 4, 1) := by decide +kernel
theorem dX7_readsItem_139 : decode cX7_readsItem 139 = .ok (.if_icmp .ne 7, 3) := by decide +kernel
theorem dX7_readsItem_142 : decode cX7_readsItem 142 = .ok (.iconst 1, 1) := by decide +kernel
theorem dX7_readsItem_143 : decode cX7_readsItem 143 = .ok (.goto 5, 3) := by decide +kernel
theorem dX7_readsItem_146 : decode cX7_readsItem 146 = .ok (.bipush 7, 2) := by decide +kernel
theorem dX7_readsItem_148 : decode cX7_readsItem 148 = .ok (.invokevirtual 158, 3) := by decide +kernel
theorem dX7_readsItem_151 : decode cX7_readsItem 151 = .ok (.iastore, 1) := by decide +kernel
theorem dX7_readsItem_152 : decode cX7_readsItem 152 = .ok (.aload_n 0, 1) := by decide +kernel
theorem dX7_readsItem_153 : decode cX7_readsItem 153 = .ok (.getfield 23, 3) := by decide +kernel
theorem dX7_readsItem_156 : decode cX7_readsItem 156 = .ok (.iload_n 1, 1) := by decide +kernel
theorem dX7_readsItem_157 : decode cX7_readsItem 157 = .ok (.iconst 2, 1) := by decide +kernel
theorem dX7_readsItem_158 : decode cX7_readsItem 158 = .ok (.iadd, 1) := by decide +kernel
theorem dX7_readsItem_159 : decode cX7_readsItem 159 = .ok (.iaload, 1) := by decide +kernel
theorem dX7_readsItem_160 : decode cX7_readsItem 160 = .ok (.bipush (-4), 2) := by decide +kernel
theorem dX7_readsItem_162 : decode cX7_readsItem 162 = .ok (.if_icmp .ne 5, 3) := by decide +kernel
theorem dX7_readsItem_165 : decode cX7_readsItem 165 = .ok (.iconst 0, 1) := by decide +kernel
theorem dX7_readsItem_166 : decode cX7_readsItem 166 = .ok (.ireturn, 1) := by decide +kernel
theorem dX7_readsItem_167 : decode cX7_readsItem 167 = .ok (.aload_n 0, 1) := by decide +kernel
theorem dX7_readsItem_168 : decode cX7_readsItem 168 = .ok (.iload_n 2, 1) := by decide +kernel
theorem dX7_readsItem_169 : decode cX7_readsItem 169 = .ok (.putfield 135, 3) := by decide +kernel
theorem dX7_readsItem_172 : decode cX7_readsItem 172 = .ok (.aload_n 0, 1) := by decide +kernel
theorem dX7_readsItem_173 : decode cX7_readsItem 173 = .ok (.getfield 23, 3) := by decide +kernel
theorem dX7_readsItem_176 : decode cX7_readsItem 176 = .ok (.iload_n 1, 1) := by decide +kernel
theorem dX7_readsItem_177 : decode cX7_readsItem 177 = .ok (.iconst 3, 1) := by decide +kernel
theorem dX7_readsItem_178 : decode cX7_readsItem 178 = .ok (.iadd, 1) := by decide +kernel
theorem dX7_readsItem_179 : decode cX7_readsItem 179 = .ok (.bipush (-4), 2) := by decide +kernel
theorem dX7_readsItem_181 : decode cX7_readsItem 181 = .ok (.iastore, 1) := by decide +kernel
theorem dX7_readsItem_182 : decode cX7_readsItem 182 = .ok (.aload_n 0, 1) := by decide +kernel
theorem dX7_readsItem_183 : decode cX7_readsItem 183 = .ok (.getfield 23, 3) := by decide +kernel
theorem dX7_readsItem_186 : decode cX7_readsItem 186 = .ok (.iload_n 1, 1) := by decide +kernel
theorem dX7_readsItem_187 : decode cX7_readsItem 187 = .ok (.iconst 1, 1) := by decide +kernel
theorem dX7_readsItem_188 : decode cX7_readsItem 188 = .ok (.iadd, 1) := by decide +kernel
theorem dX7_readsItem_189 : decode cX7_readsItem 189 = .ok (.iaload, 1) := by decide +kernel
theorem dX7_readsItem_190 : decode cX7_readsItem 190 = .ok (.iconst 2, 1) := by decide +kernel
theorem dX7_readsItem_191 : decode cX7_readsItem 191 = .ok (.if_icmp .ne 52, 3) := by decide +kernel
theorem dX7_readsItem_194 : decode cX7_readsItem 194 = .ok (.aload_n 0, 1) := by decide +kernel
theorem dX7_readsItem_195 : decode cX7_readsItem 195 = .ok (.invokevirtual 151, 3) := by decide +kernel
theorem dX7_readsItem_198 : decode cX7_readsItem 198 = .ok (.ifCond .ne 5, 3) := by decide +kernel
theorem dX7_readsItem_201 : decode cX7_readsItem 201 = .ok (.iconst 0, 1) := by decide +kernel
theorem dX7_readsItem_202 : decode cX7_readsItem 202 = .ok (.ireturn, 1) := by decide +kernel
theorem dX7_readsItem_203 : decode cX7_readsItem 203 = .ok (.aload_n 0, 1) := by decide +kernel
theorem dX7_readsItem_204 : decode cX7_readsItem 204 = .ok (.invokevirtual 145, 3) := by decide +kernel
theorem dX7_readsItem_207 : decode cX7_readsItem 207 = .ok (.istore_n 2, 1) := by decide +kernel
theorem dX7_readsItem_208 : decode cX7_readsItem 208 = .ok (.aload_n 0, 1) := by decide +kernel
theorem dX7_readsItem_209 : decode cX7_readsItem 209 = .ok (.getfield 23, 3) := by decide +kernel
theorem dX7_readsItem_212 : decode cX7_readsItem 212 = .ok (.iload_n 1, 1) := by decide +kernel
theorem dX7_readsItem_213 : decode cX7_readsItem 213 = .ok (.iconst 3, 1) := by decide +kernel
theorem dX7_readsItem_214 : decode cX7_readsItem 214 = .ok (.iadd, 1) := by decide +kernel
theorem dX7_readsItem_215 : decode cX7_readsItem 215 = .ok (.aload_n 0, 1) := by decide +kernel
theorem dX7_readsItem_216 : decode cX7_readsItem 216 = .ok (.iload_n 2, 1) := by decide +kernel
theorem dX7_readsItem_217 : decode cX7_readsItem 217 = .ok (.bipush 7, 2) := by decide +kernel
theorem dX7_readsItem_219 : decode cX7_readsItem 219 = .ok (.invokevirtual 158, 3) := by decide +kernel
theorem dX7_readsItem_222 : decode cX7_readsItem 222 = .ok (.iastore, 1) := by decide +kernel
theorem dX7_readsItem_223 : decode cX7_readsItem 223 = .ok (.aload_n 0, 1) := by decide +kernel
theorem dX7_readsItem_224 : decode cX7_readsItem 224 = .ok (.getfield 23, 3) := by decide +kernel
theorem dX7_readsItem_227 : decode cX7_readsItem 227 = .ok (.iload_n 1, 1) := by decide +kernel
theorem dX7_readsItem_228 : decode cX7_readsItem 228 = .ok (.iconst 3, 1) := by decide +kernel
theorem dX7_readsItem_229 : decode cX7_readsItem 229 = .ok (.iadd, 1) := by decide +kernel
theorem dX7_readsItem_230 : decode cX7_readsItem 230 = .ok (.iaload, 1) := by decide +kernel
theorem dX7_readsItem_231 : decode cX7_readsItem 231 = .ok (.bipush (-4), 2) := by decide +kernel
theorem dX7_readsItem_233 : decode cX7_readsItem 233 = .ok (.if_icmp .ne 5, 3) := by decide +kernel
theorem dX7_readsItem_236 : decode cX7_readsItem 236 = .ok (.iconst 0, 1) := by decide +kernel
theorem dX7_readsItem_237 : decode cX7_readsItem 237 = .ok (.ireturn, 1) := by decide +kernel
theorem dX7_readsItem_238 : decode cX7_readsItem 238 = .ok (.aload_n 0, 1) := by decide +kernel
theorem dX7_readsItem_239 : decode cX7_readsItem 239 = .ok (.iload_n 2, 1) := by decide +kernel
theorem dX7_readsItem_240 : decode cX7_readsItem 240 = .ok (.putfield 135, 3) := by decide +kernel
theorem dX7_readsItem_243 : decode cX7_readsItem 243 = .ok (.aload_n 0, 1) := by decide +kernel
theorem dX7_readsItem_244 : decode cX7_readsItem 244 = .ok (.dup, 1) := by decide +kernel
theorem dX7_readsItem_245 : decode cX7_readsItem 245 = .ok (.getfield 142, 3) := by decide +kernel
theorem dX7_readsItem_248 : decode cX7_readsItem 248 = .ok (.iconst 1, 1) := by decide +kernel
theorem dX7_readsItem_249 : decode cX7_readsItem 249 = .ok (.iadd, 1) := by decide +kernel
theorem dX7_readsItem_250 : decode cX7_readsItem 250 = .ok (.putfield 142, 3) := by decide +kernel
theorem dX7_readsItem_253 : decode cX7_readsItem 253 = .ok (.aload_n 0, 1) := by decide +kernel
theorem dX7_readsItem_254 : decode cX7_readsItem 254 = .ok (.getfield 135, 3) := by decide +kernel
theorem dX7_readsItem_257 : decode cX7_readsItem 257 = .ok (.aload_n 0, 1) := by decide +kernel
theorem dX7_readsItem_258 : decode cX7_readsItem 258 = .ok (.getfield 132, 3) := by decide +kernel
theorem dX7_readsItem_261 : decode cX7_readsItem 261 = .ok (.if_icmp .eq 17, 3) := by decide +kernel
theorem dX7_readsItem_264 : decode cX7_readsItem 264 = .ok (.aload_n 0, 1) := by decide +kernel
theorem dX7_readsItem_265 : decode cX7_readsItem 265 = .ok (.getfield 19, 3) := by decide +kernel
theorem dX7_readsItem_268 : decode cX7_readsItem 268 = .ok (.aload_n 0, 1) := by decide +kernel
theorem dX7_readsItem_269 : decode cX7_readsItem 269 = .ok (.getfield 135, 3) := by decide +kernel
theorem dX7_readsItem_272 : decode cX7_readsItem 272 = .ok (.caload, 1) := by decide +kernel
theorem dX7_readsItem_273 : decode cX7_readsItem 273 = .ok (.bipush 59, 2) := by decide +kernel
theorem dX7_readsItem_275 : decode cX7_readsItem 275 = .ok (.if_icmp .ne 7, 3) := by decide +kernel
theorem dX7_readsItem_278 : decode cX7_readsItem 278 = .ok (.iconst 1, 1) := by decide +kernel
theorem dX7_readsItem_279 : decode cX7_readsItem 279 = .ok (.goto 4, 3) := by decide +kernel
theorem dX7_readsItem_282 : decode cX7_readsItem 282 = .ok (.iconst 0, 1) := by decide +kernel
theorem dX7_readsItem_283 : decode cX7_readsItem 283 = .ok (.ireturn, 1) := by decide +kernel
theorem dX7_readTimetable_0 : decode cX7_readTimetable 0 = .ok (.aload_n 0, 1) := by decide +kernel
theorem dX7_readTimetable_1 : decode cX7_readTimetable 1 = .ok (.iconst 0, 1) := by decide +kernel
theorem dX7_readTimetable_2 : decode cX7_readTimetable 2 = .ok (.putfield 135, 3) := by decide +kernel
theorem dX7_readTimetable_5 : decode cX7_readTimetable 5 = .ok (.aload_n 0, 1) := by decide +kernel
theorem dX7_readTimetable_6 : decode cX7_readTimetable 6 = .ok (.iconst 0, 1) := by decide +kernel
theorem dX7_readTimetable_7 : decode cX7_readTimetable 7 = .ok (.putfield 142, 3) := by decide +kernel
theorem dX7_readTimetable_10 : decode cX7_readTimetable 10 = .ok (.iconst 1, 1) := by decide +kernel
theorem dX7_readTimetable_11 : decode cX7_readTimetable 11 = .ok (.istore_n 1, 1) := by decide +kernel
theorem dX7_readTimetable_12 : decode cX7_readTimetable 12 = .ok (.iload_n 1, 1) := by decide +kernel
theorem dX7_readTimetable_13 : decode cX7_readTimetable 13 = .ok (.ifCond .eq 56, 3) := by decide +kernel
theorem dX7_readTimetable_16 : decode cX7_readTimetable 16 = .ok (.aload_n 0, 1) := by decide +kernel
theorem dX7_readTimetable_17 : decode cX7_readTimetable 17 = .ok (.invokevirtual 161, 3) := by decide +kernel
theorem dX7_readTimetable_20 : decode cX7_readTimetable 20 = .ok (.ifCond .ne 11, 3) := by decide +kernel
theorem dX7_readTimetable_23 : decode cX7_readTimetable 23 = .ok (.bipush (-100), 2) := by decide +kernel
theorem dX7_readTimetable_25 : decode cX7_readTimetable 25 = .ok (.aload_n 0, 1) := by decide +kernel
theorem dX7_readTimetable_26 : decode cX7_readTimetable 26 = .ok (.getfield 135, 3) := by decide +kernel
theorem dX7_readTimetable_29 : decode cX7_readTimetable 29 = .ok (.isub, 1) := by decide +kernel
theorem dX7_readTimetable_30 : decode cX7_readTimetable 30 = .ok (.ireturn, 1) := by decide +kernel
theorem dX7_readTimetable_31 : decode cX7_readTimetable 31 = .ok (.aload_n 0, 1) := by decide +kernel
theorem dX7_readTimetable_32 : decode cX7_readTimetable 32 = .ok (.getfield 135, 3) := by decide +kernel
theorem dX7_readTimetable_35 : decode cX7_readTimetable 35 = .ok (.aload_n 0, 1) := by decide +kernel
theorem dX7_readTimetable_36 : decode cX7_readTimetable 36 = .ok (.getfield 132, 3) := by decide +kernel
theorem dX7_readTimetable_39 : decode cX7_readTimetable 39 = .ok (.if_icmp .ge 7, 3) := by decide +kernel
theorem dX7_readTimetable_42 : decode cX7_readTimetable 42 = .ok (.iconst 1, 1) := by decide +kernel
theorem dX7_readTimetable_43 : decode cX7_readTimetable 43 = .ok (.goto 4, 3) := by decide +kernel
theorem dX7_readTimetable_46 : decode cX7_readTimetable 46 = .ok (.iconst 0, 1) := by decide +kernel
theorem dX7_readTimetable_47 : decode cX7_readTimetable 47 = .ok (.istore_n 1, 1) := by decide +kernel
theorem dX7_readTimetable_48 : decode cX7_readTimetable 48 = .ok (.aload_n 0, 1) := by decide +kernel
theorem dX7_readTimetable_49 : decode cX7_readTimetable 49 = .ok (.dup, 1) := by decide +kernel
theorem dX7_readTimetable_50 : decode cX7_readTimetable 50 = .ok (.getfield 135, 3) := by decide +kernel
theorem dX7_readTimetable_53 : decode cX7_readTimetable 53 = .ok (.iload_n 1, 1) := by decide +kernel
theorem dX7_readTimetable_54 : decode cX7_readTimetable 54 = .ok (.ifCond .eq 7, 3) := by decide +kernel
theorem dX7_readTimetable_57 : decode cX7_readTimetable 57 = .ok (.iconst 1, 1) := by decide +kernel
theorem dX7_readTimetable_58 : decode cX7_readTimetable 58 = .ok (.goto 4, 3) := by decide +kernel
theorem dX7_readTimetable_61 : decode cX7_readTimetable 61 = .ok (.iconst 0, 1) := by decide +kernel
theorem dX7_readTimetable_62 : decode cX7_readTimetable 62 = .ok (.iadd, 1) := by decide +kernel
theorem dX7_readTimetable_63 : decode cX7_readTimetable 63 = .ok (.putfield 135, 3) := by decide +kernel
theorem dX7_readTimetable_66 : decode cX7_readTimetable 66 = .ok (.goto (-54), 3) := by decide +kernel
theorem dX7_readTimetable_69 : decode cX7_readTimetable 69 = .ok (.aload_n 0, 1) := by decide +kernel
theorem dX7_readTimetable_70 : decode cX7_readTimetable 70 = .ok (.invokevirtual 42, 3) := by decide +kernel
theorem dX7_readTimetable_73 : decode cX7_readTimetable 73 = .ok (.aload_n 0, 1) := by decide +kernel
theorem dX7_readTimetable_74 : decode cX7_readTimetable 74 = .ok (.getfield 7, 3) := by decide +kernel
theorem dX7_readTimetable_77 : decode cX7_readTimetable 77 = .ok (.iconst 4, 1) := by decide +kernel
theorem dX7_readTimetable_78 : decode cX7_readTimetable 78 = .ok (.aload_n 0, 1) := by decide +kernel
theorem dX7_readTimetable_79 : decode cX7_readTimetable 79 = .ok (.getfield 142, 3) := by decide +kernel
theorem dX7_readTimetable_82 : decode cX7_readTimetable 82 = .ok (.iastore, 1) := by decide +kernel
theorem dX7_readTimetable_83 : decode cX7_readTimetable 83 = .ok (.iconst 0, 1) := by decide +kernel
theorem dX7_readTimetable_84 : decode cX7_readTimetable 84 = .ok (.istore_n 2, 1) := by decide +kernel
theorem dX7_readTimetable_85 : decode cX7_readTimetable 85 = .ok (.iload_n 2, 1) := by decide +kernel
theorem dX7_readTimetable_86 : decode cX7_readTimetable 86 = .ok (.iconst 4, 1) := by decide +kernel
theorem dX7_readTimetable_87 : decode cX7_readTimetable 87 = .ok (.aload_n 0, 1) := by decide +kernel
theorem dX7_readTimetable_88 : decode cX7_readTimetable 88 = .ok (.getfield 142, 3) := by decide +kernel
theorem dX7_readTimetable_91 : decode cX7_readTimetable 91 = .ok (.imul, 1) := by decide +kernel
theorem dX7_readTimetable_92 : decode cX7_readTimetable 92 = .ok (.if_icmp .ge 42, 3) := by decide +kernel
theorem dX7_readTimetable_95 : decode cX7_readTimetable 95 = .ok (.aload_n 0, 1) := by decide +kernel
theorem dX7_readTimetable_96 : decode cX7_readTimetable 96 = .ok (.getfield 7, 3) := by decide +kernel
theorem dX7_readTimetable_99 : decode cX7_readTimetable 99 = .ok (.sipush 168, 3) := by decide +kernel
theorem dX7_readTimetable_102 : decode cX7_readTimetable 102 = .ok (.iload_n 2, 1) := by decide +kernel
theorem dX7_readTimetable_103 : decode cX7_readTimetable 103 = .ok (.iadd, 1) := by decide +kernel
theorem dX7_readTimetable_104 : decode cX7_readTimetable 104 = .ok (.aload_n 0, 1) := by decide +kernel
theorem dX7_readTimetable_105 : decode cX7_readTimetable 105 = .ok (.getfield 23, 3) := by decide +kernel
theorem dX7_readTimetable_108 : decode cX7_readTimetable 108 = .ok (.iload_n 2, 1) := by decide +kernel
theorem dX7_readTimetable_109 : decode cX7_readTimetable 109 = .ok (.iaload, 1) := by decide +kernel
theorem dX7_readTimetable_110 : decode cX7_readTimetable 110 = .ok (.iload_n 2, 1) := by decide +kernel
theorem dX7_readTimetable_111 : decode cX7_readTimetable 111 = .ok (.iconst 4, 1) := by decide +kernel
theorem dX7_readTimetable_112 : decode cX7_readTimetable 112 = .ok (.irem, 1) := by decide +kernel
theorem dX7_readTimetable_113 : decode cX7_readTimetable 113 = .ok (.ifCond .ne 12, 3) := by decide +kernel
theorem dX7_readTimetable_116 : decode cX7_readTimetable 116 = .ok (.aload_n 0, 1) := by decide +kernel
theorem dX7_readTimetable_117 : decode cX7_readTimetable 117 = .ok (.getfield 7, 3) := by decide +kernel
theorem dX7_readTimetable_120 : decode cX7_readTimetable 120 = .ok (.iconst 1, 1) := by decide +kernel
theorem dX7_readTimetable_121 : decode cX7_readTimetable 121 = .ok (.iaload, 1) := by decide +kernel
theorem dX7_readTimetable_122 : decode cX7_readTimetable 122 = .ok (.goto 4, 3) := by decide +kernel
theorem dX7_readTimetable_125 : decode cX7_readTimetable 125 = .ok (.iconst 0, 1) := by decide +kernel
theorem dX7_readTimetable_126 : decode cX7_readTimetable 126 = .ok (.iadd, 1) := by decide +kernel
theorem dX7_readTimetable_127 : decode cX7_readTimetable 127 = .ok (.iastore, 1) := by decide +kernel
theorem dX7_readTimetable_128 : decode cX7_readTimetable 128 = .ok (.iinc 2 1, 3) := by decide +kernel
theorem dX7_readTimetable_131 : decode cX7_readTimetable 131 = .ok (.goto (-46), 3) := by decide +kernel
theorem dX7_readTimetable_134 : decode cX7_readTimetable 134 = .ok (.aload_n 0, 1) := by decide +kernel
theorem dX7_readTimetable_135 : decode cX7_readTimetable 135 = .ok (.getfield 142, 3) := by decide +kernel
theorem dX7_readTimetable_138 : decode cX7_readTimetable 138 = .ok (.ireturn, 1) := by decide +kernel
theorem dX7_item_0 : decode cX7_item 0 = .ok (.iload_n 1, 1) := by decide +kernel
theorem dX7_item_1 : decode cX7_item 1 = .ok (.ifCond .lt 12, 3) := by decide +kernel
theorem dX7_item_4 : decode cX7_item 4 = .ok (.iload_n 2, 1) := by decide +kernel
theorem dX7_item_5 : decode cX7_item 5 = .ok (.iconst 0, 1) := by decide +kernel
theorem dX7_item_6 : decode cX7_item 6 = .ok (.iconst 3, 1) := by decide +kernel
theorem dX7_item_7 : decode cX7_item 7 = .ok (.invokestatic 33, 3) := by decide +kernel
theorem dX7_item_10 : decode cX7_item 10 = .ok (.ifCond .ne 6, 3) := by decide +kernel
theorem dX7_item_13 : decode cX7_item 13 = .ok (.bipush (-2), 2) := by decide +kernel
theorem dX7_item_15 : decode cX7_item 15 = .ok (.ireturn, 1) := by decide +kernel
theorem dX7_item_16 : decode cX7_item 16 = .ok (.iload_n 1, 1) := by decide +kernel
theorem dX7_item_17 : decode cX7_item 17 = .ok (.aload_n 0, 1) := by decide +kernel
theorem dX7_item_18 : decode cX7_item 18 = .ok (.getfield 7, 3) := by decide +kernel
theorem dX7_item_21 : decode cX7_item 21 = .ok (.iconst 4, 1) := by decide +kernel
theorem dX7_item_22 : decode cX7_item 22 = .ok (.iaload, 1) := by decide +kernel
theorem dX7_item_23 : decode cX7_item 23 = .ok (.if_icmp .lt 6, 3) := by decide +kernel
theorem dX7_item_26 : decode cX7_item 26 = .ok (.bipush (-4), 2) := by decide +kernel
theorem dX7_item_28 : decode cX7_item 28 = .ok (.ireturn, 1) := by decide +kernel
theorem dX7_item_29 : decode cX7_item 29 = .ok (.aload_n 0, 1) := by decide +kernel
theorem dX7_item_30 : decode cX7_item 30 = .ok (.getfield 7, 3) := by decide +kernel
theorem dX7_item_33 : decode cX7_item 33 = .ok (.sipush 168, 3) := by decide +kernel
theorem dX7_item_36 : decode cX7_item 36 = .ok (.iconst 4, 1) := by decide +kernel
theorem dX7_item_37 : decode cX7_item 37 = .ok (.iload_n 1, 1) := by decide +kernel
theorem dX7_item_38 : decode cX7_item 38 = .ok (.imul, 1) := by decide +kernel
theorem dX7_item_39 : decode cX7_item 39 = .ok (.iadd, 1) := by decide +kernel
theorem dX7_item_40 : decode cX7_item 40 = .ok (.iload_n 2, 1) := by decide +kernel
theorem dX7_item_41 : decode cX7_item 41 = .ok (.iadd, 1) := by decide +kernel
theorem dX7_item_42 : decode cX7_item 42 = .ok (.iaload, 1) := by decide +kernel
theorem dX7_item_43 : decode cX7_item 43 = .ok (.istore_n 3, 1) := by decide +kernel
theorem dX7_item_44 : decode cX7_item 44 = .ok (.iload_n 2, 1) := by decide +kernel
theorem dX7_item_45 : decode cX7_item 45 = .ok (.ifCond .ne 14, 3) := by decide +kernel
theorem dX7_item_48 : decode cX7_item 48 = .ok (.iload_n 3, 1) := by decide +kernel
theorem dX7_item_49 : decode cX7_item 49 = .ok (.aload_n 0, 1) := by decide +kernel
theorem dX7_item_50 : decode cX7_item 50 = .ok (.getfield 7, 3) := by decide +kernel
theorem dX7_item_53 : decode cX7_item 53 = .ok (.iconst 1, 1) := by decide +kernel
theorem dX7_item_54 : decode cX7_item 54 = .ok (.iaload, 1) := by decide +kernel
theorem dX7_item_55 : decode cX7_item 55 = .ok (.isub, 1) := by decide +kernel
theorem dX7_item_56 : decode cX7_item 56 = .ok (.goto 4, 3) := by decide +kernel
theorem dX7_item_59 : decode cX7_item 59 = .ok (.iload_n 3, 1) := by decide +kernel
theorem dX7_item_60 : decode cX7_item 60 = .ok (.ireturn, 1) := by decide +kernel
theorem dX7_undo_0 : decode cX7_undo 0 = .ok (.aload_n 0, 1) := by decide +kernel
theorem dX7_undo_1 : decode cX7_undo 1 = .ok (.getfield 26, 3) := by decide +kernel
theorem dX7_undo_4 : decode cX7_undo 4 = .ok (.ifCond .ne 6, 3) := by decide +kernel
theorem dX7_undo_7 : decode cX7_undo 7 = .ok (.bipush (-4), 2) := by decide +kernel
theorem dX7_undo_9 : decode cX7_undo 9 = .ok (.ireturn, 1) := by decide +kernel
theorem dX7_undo_10 : decode cX7_undo 10 = .ok (.aload_n 0, 1) := by decide +kernel
theorem dX7_undo_11 : decode cX7_undo 11 = .ok (.dup, 1) := by decide +kernel
theorem dX7_undo_12 : decode cX7_undo 12 = .ok (.getfield 26, 3) := by decide +kernel
theorem dX7_undo_15 : decode cX7_undo 15 = .ok (.iconst 1, 1) := by decide +kernel
theorem dX7_undo_16 : decode cX7_undo 16 = .ok (.isub, 1) := by decide +kernel
theorem dX7_undo_17 : decode cX7_undo 17 = .ok (.putfield 26, 3) := by decide +kernel
theorem dX7_undo_20 : decode cX7_undo 20 = .ok (.iconst 0, 1) := by decide +kernel
theorem dX7_undo_21 : decode cX7_undo 21 = .ok (.istore_n 1, 1) := by decide +kernel
theorem dX7_undo_22 : decode cX7_undo 22 = .ok (.iload_n 1, 1) := by decide +kernel
theorem dX7_undo_23 : decode cX7_undo 23 = .ok (.sipush 246, 3) := by decide +kernel
theorem dX7_undo_26 : decode cX7_undo 26 = .ok (.if_icmp .ge 30, 3) := by decide +kernel
theorem dX7_undo_29 : decode cX7_undo 29 = .ok (.aload_n 0, 1) := by decide +kernel
theorem dX7_undo_30 : decode cX7_undo 30 = .ok (.getfield 7, 3) := by decide +kernel
theorem dX7_undo_33 : decode cX7_undo 33 = .ok (.iload_n 1, 1) := by decide +kernel
theorem dX7_undo_34 : decode cX7_undo 34 = .ok (.aload_n 0, 1) := by decide +kernel
theorem dX7_undo_35 : decode cX7_undo 35 = .ok (.getfield 13, 3) := by decide +kernel
theorem dX7_undo_38 : decode cX7_undo 38 = .ok (.sipush 246, 3) := by decide +kernel
theorem dX7_undo_41 : decode cX7_undo 41 = .ok (.aload_n 0, 1) := by decide +kernel
theorem dX7_undo_42 : decode cX7_undo 42 = .ok (.getfield 26, 3) := by decide +kernel
theorem dX7_undo_45 : decode cX7_undo 45 = .ok (.imul, 1) := by decide +kernel
theorem dX7_undo_46 : decode cX7_undo 46 = .ok (.iload_n 1, 1) := by decide +kernel
theorem dX7_undo_47 : decode cX7_undo 47 = .ok (.iadd, 1) := by decide +kernel
theorem dX7_undo_48 : decode cX7_undo 48 = .ok (.iaload, 1) := by decide +kernel
theorem dX7_undo_49 : decode cX7_undo 49 = .ok (.iastore, 1) := by decide +kernel
theorem dX7_undo_50 : decode cX7_undo 50 = .ok (.iinc 1 1, 3) := by decide +kernel
theorem dX7_undo_53 : decode cX7_undo 53 = .ok (.goto (-31), 3) := by decide +kernel
theorem dX7_undo_56 : decode cX7_undo 56 = .ok (.aload_n 0, 1) := by decide +kernel
theorem dX7_undo_57 : decode cX7_undo 57 = .ok (.getfield 26, 3) := by decide +kernel
theorem dX7_undo_60 : decode cX7_undo 60 = .ok (.ireturn, 1) := by decide +kernel
theorem dX7_keep_0 : decode cX7_keep 0 = .ok (.iconst 0, 1) := by decide +kernel
theorem dX7_keep_1 : decode cX7_keep 1 = .ok (.istore_n 1, 1) := by decide +kernel
theorem dX7_keep_2 : decode cX7_keep 2 = .ok (.iload_n 1, 1) := by decide +kernel
theorem dX7_keep_3 : decode cX7_keep 3 = .ok (.sipush 246, 3) := by decide +kernel
theorem dX7_keep_6 : decode cX7_keep 6 = .ok (.if_icmp .ge 21, 3) := by decide +kernel
theorem dX7_keep_9 : decode cX7_keep 9 = .ok (.aload_n 0, 1) := by decide +kernel
theorem dX7_keep_10 : decode cX7_keep 10 = .ok (.getfield 16, 3) := by decide +kernel
theorem dX7_keep_13 : decode cX7_keep 13 = .ok (.iload_n 1, 1) := by decide +kernel
theorem dX7_keep_14 : decode cX7_keep 14 = .ok (.aload_n 0, 1) := by decide +kernel
theorem dX7_keep_15 : decode cX7_keep 15 = .ok (.getfield 7, 3) := by decide +kernel
theorem dX7_keep_18 : decode cX7_keep 18 = .ok (.iload_n 1, 1) := by decide +kernel
theorem dX7_keep_19 : decode cX7_keep 19 = .ok (.iaload, 1) := by decide +kernel
theorem dX7_keep_20 : decode cX7_keep 20 = .ok (.iastore, 1) := by decide +kernel
theorem dX7_keep_21 : decode cX7_keep 21 = .ok (.iinc 1 1, 3) := by decide +kernel
theorem dX7_keep_24 : decode cX7_keep 24 = .ok (.goto (-22), 3) := by decide +kernel
theorem dX7_keep_27 : decode cX7_keep 27 = .ok (.aload_n 0, 1) := by decide +kernel
theorem dX7_keep_28 : decode cX7_keep 28 = .ok (.iconst 1, 1) := by decide +kernel
theorem dX7_keep_29 : decode cX7_keep 29 = .ok (.putfield 164, 3) := by decide +kernel
theorem dX7_keep_32 : decode cX7_keep 32 = .ok (.aload_n 0, 1) := by decide +kernel
theorem dX7_keep_33 : decode cX7_keep 33 = .ok (.getfield 7, 3) := by decide +kernel
theorem dX7_keep_36 : decode cX7_keep 36 = .ok (.iconst 1, 1) := by decide +kernel
theorem dX7_keep_37 : decode cX7_keep 37 = .ok (.iaload, 1) := by decide +kernel
theorem dX7_keep_38 : decode cX7_keep 38 = .ok (.ireturn, 1) := by decide +kernel
theorem dX7_restore_0 : decode cX7_restore 0 = .ok (.aload_n 0, 1) := by decide +kernel
theorem dX7_restore_1 : decode cX7_restore 1 = .ok (.getfield 164, 3) := by decide +kernel
theorem dX7_restore_4 : decode cX7_restore 4 = .ok (.ifCond .ne 6, 3) := by decide +kernel
theorem dX7_restore_7 : decode cX7_restore 7 = .ok (.bipush (-4), 2) := by decide +kernel
theorem dX7_restore_9 : decode cX7_restore 9 = .ok (.ireturn, 1) := by decide +kernel
theorem dX7_restore_10 : decode cX7_restore 10 = .ok (.aload_n 0, 1) := by decide +kernel
theorem dX7_restore_11 : decode cX7_restore 11 = .ok (.invokevirtual 42, 3) := by decide +kernel
theorem dX7_restore_14 : decode cX7_restore 14 = .ok (.iconst 0, 1) := by decide +kernel
theorem dX7_restore_15 : decode cX7_restore 15 = .ok (.istore_n 1, 1) := by decide +kernel
theorem dX7_restore_16 : decode cX7_restore 16 = .ok (.iload_n 1, 1) := by decide +kernel
theorem dX7_restore_17 : decode cX7_restore 17 = .ok (.sipush 246, 3) := by decide +kernel
theorem dX7_restore_20 : decode cX7_restore 20 = .ok (.if_icmp .ge 21, 3) := by decide +kernel
theorem dX7_restore_23 : decode cX7_restore 23 = .ok (.aload_n 0, 1) := by decide +kernel
theorem dX7_restore_24 : decode cX7_restore 24 = .ok (.getfield 7, 3) := by decide +kernel
theorem dX7_restore_27 : decode cX7_restore 27 = .ok (.iload_n 1, 1) := by decide +kernel
theorem dX7_restore_28 : decode cX7_restore 28 = .ok (.aload_n 0, 1) := by decide +kernel
theorem dX7_restore_29 : decode cX7_restore 29 = .ok (.getfield 16, 3) := by decide +kernel
theorem dX7_restore_32 : decode cX7_restore 32 = .ok (.iload_n 1, 1) := by decide +kernel
theorem dX7_restore_33 : decode cX7_restore 33 = .ok (.iaload, 1) := by decide +kernel
theorem dX7_restore_34 : decode cX7_restore 34 = .ok (.iastore, 1) := by decide +kernel
theorem dX7_restore_35 : decode cX7_restore 35 = .ok (.iinc 1 1, 3) := by decide +kernel
theorem dX7_restore_38 : decode cX7_restore 38 = .ok (.goto (-22), 3) := by decide +kernel
theorem dX7_restore_41 : decode cX7_restore 41 = .ok (.aload_n 0, 1) := by decide +kernel
theorem dX7_restore_42 : decode cX7_restore 42 = .ok (.getfield 7, 3) := by decide +kernel
theorem dX7_restore_45 : decode cX7_restore 45 = .ok (.iconst 1, 1) := by decide +kernel
theorem dX7_restore_46 : decode cX7_restore 46 = .ok (.iaload, 1) := by decide +kernel
theorem dX7_restore_47 : decode cX7_restore 47 = .ok (.ireturn, 1) := by decide +kernel
theorem dX7_motor_0 : decode cX7_motor 0 = .ok (.aload_n 0, 1) := by decide +kernel
theorem dX7_motor_1 : decode cX7_motor 1 = .ok (.iload_n 1, 1) := by decide +kernel
theorem dX7_motor_2 : decode cX7_motor 2 = .ok (.invokevirtual 49, 3) := by decide +kernel
theorem dX7_motor_5 : decode cX7_motor 5 = .ok (.ifCond .eq 5, 3) := by decide +kernel
theorem dX7_motor_8 : decode cX7_motor 8 = .ok (.iconst (-1), 1) := by decide +kernel
theorem dX7_motor_9 : decode cX7_motor 9 = .ok (.ireturn, 1) := by decide +kernel
theorem dX7_motor_10 : decode cX7_motor 10 = .ok (.aload_n 0, 1) := by decide +kernel
theorem dX7_motor_11 : decode cX7_motor 11 = .ok (.iload_n 1, 1) := by decide +kernel
theorem dX7_motor_12 : decode cX7_motor 12 = .ok (.iconst 5, 1) := by decide +kernel
theorem dX7_motor_13 : decode cX7_motor 13 = .ok (.invokevirtual 53, 3) := by decide +kernel
theorem dX7_motor_16 : decode cX7_motor 16 = .ok (.istore_n 3, 1) := by decide +kernel
theorem dX7_motor_17 : decode cX7_motor 17 = .ok (.iload_n 2, 1) := by decide +kernel
theorem dX7_motor_18 : decode cX7_motor 18 = .ok (.tableswitch 149 0 12 #[66, 66, 66, 66, 66, 66, 66, 66, 73, 91, 107, 113, 131], 66) := by decide +kernel
theorem dX7_motor_84 : decode cX7_motor 84 = .ok (.aload_n 0, 1) := by decide +kernel
theorem dX7_motor_85 : decode cX7_motor 85 = .ok (.iload_n 1, 1) := by decide +kernel
theorem dX7_motor_86 : decode cX7_motor 86 = .ok (.iload_n 2, 1) := by decide +kernel
theorem dX7_motor_87 : decode cX7_motor 87 = .ok (.invokevirtual 53, 3) := by decide +kernel
theorem dX7_motor_90 : decode cX7_motor 90 = .ok (.ireturn, 1) := by decide +kernel
theorem dX7_motor_91 : decode cX7_motor 91 = .ok (.iload_n 3, 1) := by decide +kernel
theorem dX7_motor_92 : decode cX7_motor 92 = .ok (.iconst 2, 1) := by decide +kernel
theorem dX7_motor_93 : decode cX7_motor 93 = .ok (.if_icmp .ne 13, 3) := by decide +kernel
theorem dX7_motor_96 : decode cX7_motor 96 = .ok (.aload_n 0, 1) := by decide +kernel
theorem dX7_motor_97 : decode cX7_motor 97 = .ok (.iload_n 1, 1) := by decide +kernel
theorem dX7_motor_98 : decode cX7_motor 98 = .ok (.bipush 8, 2) := by decide +kernel
theorem dX7_motor_100 : decode cX7_motor 100 = .ok (.invokevirtual 53, 3) := by decide +kernel
theorem dX7_motor_103 : decode cX7_motor 103 = .ok (.goto 5, 3) := by decide +kernel
theorem dX7_motor_106 : decode cX7_motor 106 = .ok (.bipush (-4), 2) := by decide +kernel
theorem dX7_motor_108 : decode cX7_motor 108 = .ok (.ireturn, 1) := by decide +kernel
theorem dX7_motor_109 : decode cX7_motor 109 = .ok (.iload_n 3, 1) := by decide +kernel
theorem dX7_motor_110 : decode cX7_motor 110 = .ok (.iconst 1, 1) := by decide +kernel
theorem dX7_motor_111 : decode cX7_motor 111 = .ok (.if_icmp .ne 11, 3) := by decide +kernel
theorem dX7_motor_114 : decode cX7_motor 114 = .ok (.aload_n 0, 1) := by decide +kernel
theorem dX7_motor_115 : decode cX7_motor 115 = .ok (.iload_n 1, 1) := by decide +kernel
theorem dX7_motor_116 : decode cX7_motor 116 = .ok (.invokevirtual 67, 3) := by decide +kernel
theorem dX7_motor_119 : decode cX7_motor 119 = .ok (.goto 5, 3) := by decide +kernel
theorem dX7_motor_122 : decode cX7_motor 122 = .ok (.bipush (-4), 2) := by decide +kernel
theorem dX7_motor_124 : decode cX7_motor 124 = .ok (.ireturn, 1) := by decide +kernel
theorem dX7_motor_125 : decode cX7_motor 125 = .ok (.aload_n 0, 1) := by decide +kernel
theorem dX7_motor_126 : decode cX7_motor 126 = .ok (.iload_n 1, 1) := by decide +kernel
theorem dX7_motor_127 : decode cX7_motor 127 = .ok (.invokevirtual 89, 3) := by decide +kernel
theorem dX7_motor_130 : decode cX7_motor 130 = .ok (.ireturn, 1) := by decide +kernel
theorem dX7_motor_131 : decode cX7_motor 131 = .ok (.iload_n 3, 1) := by decide +kernel
theorem dX7_motor_132 : decode cX7_motor 132 = .ok (.iconst 4, 1) := by decide +kernel
theorem dX7_motor_133 : decode cX7_motor 133 = .ok (.if_icmp .ne 13, 3) := by decide +kernel
theorem dX7_motor_136 : decode cX7_motor 136 = .ok (.aload_n 0, 1) := by decide +kernel
theorem dX7_motor_137 : decode cX7_motor 137 = .ok (.iload_n 1, 1) := by decide +kernel
theorem dX7_motor_138 : decode cX7_motor 138 = .ok (.bipush 11, 2) := by decide +kernel
theorem dX7_motor_140 : decode cX7_motor 140 = .ok (.invokevirtual 53, 3) := by decide +kernel
theorem dX7_motor_143 : decode cX7_motor 143 = .ok (.goto 5, 3) := by decide +kernel
theorem dX7_motor_146 : decode cX7_motor 146 = .ok (.bipush (-4), 2) := by decide +kernel
theorem dX7_motor_148 : decode cX7_motor 148 = .ok (.ireturn, 1) := by decide +kernel
theorem dX7_motor_149 : decode cX7_motor 149 = .ok (.aload_n 0, 1) := by decide +kernel
theorem dX7_motor_150 : decode cX7_motor 150 = .ok (.iload_n 1, 1) := by decide +kernel
theorem dX7_motor_151 : decode cX7_motor 151 = .ok (.invokevirtual 83, 3) := by decide +kernel
theorem dX7_motor_154 : decode cX7_motor 154 = .ok (.ifCond .ge 7, 3) := by decide +kernel
theorem dX7_motor_157 : decode cX7_motor 157 = .ok (.iconst 0, 1) := by decide +kernel
theorem dX7_motor_158 : decode cX7_motor 158 = .ok (.goto 8, 3) := by decide +kernel
theorem dX7_motor_161 : decode cX7_motor 161 = .ok (.aload_n 0, 1) := by decide +kernel
theorem dX7_motor_162 : decode cX7_motor 162 = .ok (.iload_n 1, 1) := by decide +kernel
theorem dX7_motor_163 : decode cX7_motor 163 = .ok (.invokevirtual 83, 3) := by decide +kernel
theorem dX7_motor_166 : decode cX7_motor 166 = .ok (.ireturn, 1) := by decide +kernel
theorem dX7_motor_167 : decode cX7_motor 167 = .ok (.bipush (-2), 2) := by decide +kernel
theorem dX7_motor_169 : decode cX7_motor 169 = .ok (.ireturn, 1) := by decide +kernel
theorem dX7_account_0 : decode cX7_account 0 = .ok (.aload_n 0, 1) := by decide +kernel
theorem dX7_account_1 : decode cX7_account 1 = .ok (.iload_n 1, 1) := by decide +kernel
theorem dX7_account_2 : decode cX7_account 2 = .ok (.invokevirtual 49, 3) := by decide +kernel
theorem dX7_account_5 : decode cX7_account 5 = .ok (.ifCond .eq 5, 3) := by decide +kernel
theorem dX7_account_8 : decode cX7_account 8 = .ok (.iconst (-1), 1) := by decide +kernel
theorem dX7_account_9 : decode cX7_account 9 = .ok (.ireturn, 1) := by decide +kernel
theorem dX7_account_10 : decode cX7_account 10 = .ok (.iload_n 2, 1) := by decide +kernel
theorem dX7_account_11 : decode cX7_account 11 = .ok (.iconst 0, 1) := by decide +kernel
theorem dX7_account_12 : decode cX7_account 12 = .ok (.bipush 6, 2) := by decide +kernel
theorem dX7_account_14 : decode cX7_account 14 = .ok (.invokestatic 33, 3) := by decide +kernel
theorem dX7_account_17 : decode cX7_account 17 = .ok (.ifCond .eq 15, 3) := by decide +kernel
theorem dX7_account_20 : decode cX7_account 20 = .ok (.aload_n 0, 1) := by decide +kernel
theorem dX7_account_21 : decode cX7_account 21 = .ok (.iload_n 1, 1) := by decide +kernel
theorem dX7_account_22 : decode cX7_account 22 = .ok (.bipush 12, 2) := by decide +kernel
theorem dX7_account_24 : decode cX7_account 24 = .ok (.iload_n 2, 1) := by decide +kernel
theorem dX7_account_25 : decode cX7_account 25 = .ok (.iadd, 1) := by decide +kernel
theorem dX7_account_26 : decode cX7_account 26 = .ok (.invokevirtual 53, 3) := by decide +kernel
theorem dX7_account_29 : decode cX7_account 29 = .ok (.goto 5, 3) := by decide +kernel
theorem dX7_account_32 : decode cX7_account 32 = .ok (.bipush (-2), 2) := by decide +kernel
theorem dX7_account_34 : decode cX7_account 34 = .ok (.ireturn, 1) := by decide +kernel
theorem dX7_startHeat_0 : decode cX7_startHeat 0 = .ok (.aload_n 0, 1) := by decide +kernel
theorem dX7_startHeat_1 : decode cX7_startHeat 1 = .ok (.iload_n 1, 1) := by decide +kernel
theorem dX7_startHeat_2 : decode cX7_startHeat 2 = .ok (.invokevirtual 49, 3) := by decide +kernel
theorem dX7_startHeat_5 : decode cX7_startHeat 5 = .ok (.ifCond .eq 7, 3) := by decide +kernel
theorem dX7_startHeat_8 : decode cX7_startHeat 8 = .ok (.iconst (-1), 1) := by decide +kernel
theorem dX7_startHeat_9 : decode cX7_startHeat 9 = .ok (.goto 8, 3) := by decide +kernel
theorem dX7_startHeat_12 : decode cX7_startHeat 12 = .ok (.aload_n 0, 1) := by decide +kernel
theorem dX7_startHeat_13 : decode cX7_startHeat 13 = .ok (.iload_n 1, 1) := by decide +kernel
theorem dX7_startHeat_14 : decode cX7_startHeat 14 = .ok (.invokevirtual 86, 3) := by decide +kernel
theorem dX7_startHeat_17 : decode cX7_startHeat 17 = .ok (.ireturn, 1) := by decide +kernel
theorem dX7_coolTime_0 : decode cX7_coolTime 0 = .ok (.aload_n 0, 1) := by decide +kernel
theorem dX7_coolTime_1 : decode cX7_coolTime 1 = .ok (.iload_n 1, 1) := by decide +kernel
theorem dX7_coolTime_2 : decode cX7_coolTime 2 = .ok (.invokevirtual 49, 3) := by decide +kernel
theorem dX7_coolTime_5 : decode cX7_coolTime 5 = .ok (.ifCond .eq 5, 3) := by decide +kernel
theorem dX7_coolTime_8 : decode cX7_coolTime 8 = .ok (.iconst (-1), 1) := by decide +kernel
theorem dX7_coolTime_9 : decode cX7_coolTime 9 = .ok (.ireturn, 1) := by decide +kernel
theorem dX7_coolTime_10 : decode cX7_coolTime 10 = .ok (.aload_n 0, 1) := by decide +kernel
theorem dX7_coolTime_11 : decode cX7_coolTime 11 = .ok (.iload_n 1, 1) := by decide +kernel
theorem dX7_coolTime_12 : decode cX7_coolTime 12 = .ok (.iconst 3, 1) := by decide +kernel
theorem dX7_coolTime_13 : decode cX7_coolTime 13 = .ok (.invokevirtual 53, 3) := by decide +kernel
theorem dX7_coolTime_16 : decode cX7_coolTime 16 = .ok (.aload_n 0, 1) := by decide +kernel
theorem dX7_coolTime_17 : decode cX7_coolTime 17 = .ok (.iload_n 1, 1) := by decide +kernel
theorem dX7_coolTime_18 : decode cX7_coolTime 18 = .ok (.invokevirtual 86, 3) := by decide +kernel
theorem dX7_coolTime_21 : decode cX7_coolTime 21 = .ok (.isub, 1) := by decide +kernel
theorem dX7_coolTime_22 : decode cX7_coolTime 22 = .ok (.istore_n 2, 1) := by decide +kernel
theorem dX7_coolTime_23 : decode cX7_coolTime 23 = .ok (.aload_n 0, 1) := by decide +kernel
theorem dX7_coolTime_24 : decode cX7_coolTime 24 = .ok (.iload_n 1, 1) := by decide +kernel
theorem dX7_coolTime_25 : decode cX7_coolTime 25 = .ok (.bipush 6, 2) := by decide +kernel
theorem dX7_coolTime_27 : decode cX7_coolTime 27 = .ok (.invokevirtual 53, 3) := by decide +kernel
theorem dX7_coolTime_30 : decode cX7_coolTime 30 = .ok (.istore_n 3, 1) := by decide +kernel
theorem dX7_coolTime_31 : decode cX7_coolTime 31 = .ok (.iconst 0, 1) := by decide +kernel
theorem dX7_coolTime_32 : decode cX7_coolTime 32 = .ok (.istore 4, 2) := by decide +kernel
theorem dX7_coolTime_34 : decode cX7_coolTime 34 = .ok (.iload 4, 2) := by decide +kernel
theorem dX7_coolTime_36 : decode cX7_coolTime 36 = .ok (.sipush 999, 3) := by decide +kernel
theorem dX7_coolTime_39 : decode cX7_coolTime 39 = .ok (.if_icmp .ge 28, 3) := by decide +kernel
theorem dX7_coolTime_42 : decode cX7_coolTime 42 = .ok (.iload_n 3, 1) := by decide +kernel
theorem dX7_coolTime_43 : decode cX7_coolTime 43 = .ok (.iload_n 2, 1) := by decide +kernel
theorem dX7_coolTime_44 : decode cX7_coolTime 44 = .ok (.if_icmp .le 23, 3) := by decide +kernel
theorem dX7_coolTime_47 : decode cX7_coolTime 47 = .ok (.iload_n 3, 1) := by decide +kernel
theorem dX7_coolTime_48 : decode cX7_coolTime 48 = .ok (.iload_n 3, 1) := by decide +kernel
theorem dX7_coolTime_49 : decode cX7_coolTime 49 = .ok (.aload_n 0, 1) := by decide +kernel
theorem dX7_coolTime_50 : decode cX7_coolTime 50 = .ok (.iconst 0, 1) := by decide +kernel
theorem dX7_coolTime_51 : decode cX7_coolTime 51 = .ok (.invokevirtual 117, 3) := by decide +kernel
theorem dX7_coolTime_54 : decode cX7_coolTime 54 = .ok (.imul, 1) := by decide +kernel
theorem dX7_coolTime_55 : decode cX7_coolTime 55 = .ok (.sipush 1000, 3) := by decide +kernel
theorem dX7_coolTime_58 : decode cX7_coolTime 58 = .ok (.idiv, 1) := by decide +kernel
theorem dX7_coolTime_59 : decode cX7_coolTime 59 = .ok (.isub, 1) := by decide +kernel
theorem dX7_coolTime_60 : decode cX7_coolTime 60 = .ok (.istore_n 3, 1) := by decide +kernel
theorem dX7_coolTime_61 : decode cX7_coolTime 61 = .ok (.iinc 4 1, 3) := by decide +kernel
theorem dX7_coolTime_64 : decode cX7_coolTime 64 = .ok (.goto (-30), 3) := by decide +kernel
theorem dX7_coolTime_67 : decode cX7_coolTime 67 = .ok (.iload_n 3, 1) := by decide +kernel
theorem dX7_coolTime_68 : decode cX7_coolTime 68 = .ok (.iload_n 2, 1) := by decide +kernel
theorem dX7_coolTime_69 : decode cX7_coolTime 69 = .ok (.if_icmp .le 8, 3) := by decide +kernel
theorem dX7_coolTime_72 : decode cX7_coolTime 72 = .ok (.bipush (-4), 2) := by decide +kernel
theorem dX7_coolTime_74 : decode cX7_coolTime 74 = .ok (.goto 5, 3) := by decide +kernel
theorem dX7_coolTime_77 : decode cX7_coolTime 77 = .ok (.iload 4, 2) := by decide +kernel
theorem dX7_coolTime_79 : decode cX7_coolTime 79 = .ok (.ireturn, 1) := by decide +kernel
theorem dX7_runTime_0 : decode cX7_runTime 0 = .ok (.aload_n 0, 1) := by decide +kernel
theorem dX7_runTime_1 : decode cX7_runTime 1 = .ok (.iload_n 1, 1) := by decide +kernel
theorem dX7_runTime_2 : decode cX7_runTime 2 = .ok (.invokevirtual 49, 3) := by decide +kernel
theorem dX7_runTime_5 : decode cX7_runTime 5 = .ok (.ifCond .eq 5, 3) := by decide +kernel
theorem dX7_runTime_8 : decode cX7_runTime 8 = .ok (.iconst (-1), 1) := by decide +kernel
theorem dX7_runTime_9 : decode cX7_runTime 9 = .ok (.ireturn, 1) := by decide +kernel
theorem dX7_runTime_10 : decode cX7_runTime 10 = .ok (.aload_n 0, 1) := by decide +kernel
theorem dX7_runTime_11 : decode cX7_runTime 11 = .ok (.iload_n 1, 1) := by decide +kernel
theorem dX7_runTime_12 : decode cX7_runTime 12 = .ok (.bipush 6, 2) := by decide +kernel
theorem dX7_runTime_14 : decode cX7_runTime 14 = .ok (.invokevirtual 53, 3) := by decide +kernel
theorem dX7_runTime_17 : decode cX7_runTime 17 = .ok (.istore_n 2, 1) := by decide +kernel
theorem dX7_runTime_18 : decode cX7_runTime 18 = .ok (.iconst 1, 1) := by decide +kernel
theorem dX7_runTime_19 : decode cX7_runTime 19 = .ok (.istore_n 3, 1) := by decide +kernel
theorem dX7_runTime_20 : decode cX7_runTime 20 = .ok (.iload_n 3, 1) := by decide +kernel
theorem dX7_runTime_21 : decode cX7_runTime 21 = .ok (.sipush 999, 3) := by decide +kernel
theorem dX7_runTime_24 : decode cX7_runTime 24 = .ok (.if_icmp .gt 54, 3) := by decide +kernel
theorem dX7_runTime_27 : decode cX7_runTime 27 = .ok (.iload_n 2, 1) := by decide +kernel
theorem dX7_runTime_28 : decode cX7_runTime 28 = .ok (.aload_n 0, 1) := by decide +kernel
theorem dX7_runTime_29 : decode cX7_runTime 29 = .ok (.iload_n 1, 1) := by decide +kernel
theorem dX7_runTime_30 : decode cX7_runTime 30 = .ok (.iconst 0, 1) := by decide +kernel
theorem dX7_runTime_31 : decode cX7_runTime 31 = .ok (.invokevirtual 53, 3) := by decide +kernel
theorem dX7_runTime_34 : decode cX7_runTime 34 = .ok (.aload_n 0, 1) := by decide +kernel
theorem dX7_runTime_35 : decode cX7_runTime 35 = .ok (.iload_n 1, 1) := by decide +kernel
theorem dX7_runTime_36 : decode cX7_runTime 36 = .ok (.iconst 0, 1) := by decide +kernel
theorem dX7_runTime_37 : decode cX7_runTime 37 = .ok (.invokevirtual 53, 3) := by decide +kernel
theorem dX7_runTime_40 : decode cX7_runTime 40 = .ok (.imul, 1) := by decide +kernel
theorem dX7_runTime_41 : decode cX7_runTime 41 = .ok (.bipush 10, 2) := by decide +kernel
theorem dX7_runTime_43 : decode cX7_runTime 43 = .ok (.idiv, 1) := by decide +kernel
theorem dX7_runTime_44 : decode cX7_runTime 44 = .ok (.iadd, 1) := by decide +kernel
theorem dX7_runTime_45 : decode cX7_runTime 45 = .ok (.istore_n 2, 1) := by decide +kernel
theorem dX7_runTime_46 : decode cX7_runTime 46 = .ok (.iload_n 2, 1) := by decide +kernel
theorem dX7_runTime_47 : decode cX7_runTime 47 = .ok (.iload_n 2, 1) := by decide +kernel
theorem dX7_runTime_48 : decode cX7_runTime 48 = .ok (.aload_n 0, 1) := by decide +kernel
theorem dX7_runTime_49 : decode cX7_runTime 49 = .ok (.iconst 1, 1) := by decide +kernel
theorem dX7_runTime_50 : decode cX7_runTime 50 = .ok (.invokevirtual 117, 3) := by decide +kernel
theorem dX7_runTime_53 : decode cX7_runTime 53 = .ok (.imul, 1) := by decide +kernel
theorem dX7_runTime_54 : decode cX7_runTime 54 = .ok (.sipush 1000, 3) := by decide +kernel
theorem dX7_runTime_57 : decode cX7_runTime 57 = .ok (.idiv, 1) := by decide +kernel
theorem dX7_runTime_58 : decode cX7_runTime 58 = .ok (.isub, 1) := by decide +kernel
theorem dX7_runTime_59 : decode cX7_runTime 59 = .ok (.istore_n 2, 1) := by decide +kernel
theorem dX7_runTime_60 : decode cX7_runTime 60 = .ok (.iload_n 2, 1) := by decide +kernel
theorem dX7_runTime_61 : decode cX7_runTime 61 = .ok (.aload_n 0, 1) := by decide +kernel
theorem dX7_runTime_62 : decode cX7_runTime 62 = .ok (.iload_n 1, 1) := by decide +kernel
theorem dX7_runTime_63 : decode cX7_runTime 63 = .ok (.iconst 3, 1) := by decide +kernel
theorem dX7_runTime_64 : decode cX7_runTime 64 = .ok (.invokevirtual 53, 3) := by decide +kernel
theorem dX7_runTime_67 : decode cX7_runTime 67 = .ok (.if_icmp .le 5, 3) := by decide +kernel
theorem dX7_runTime_70 : decode cX7_runTime 70 = .ok (.iload_n 3, 1) := by decide +kernel
theorem dX7_runTime_71 : decode cX7_runTime 71 = .ok (.ireturn, 1) := by decide +kernel
theorem dX7_runTime_72 : decode cX7_runTime 72 = .ok (.iinc 3 1, 3) := by decide +kernel
theorem dX7_runTime_75 : decode cX7_runTime 75 = .ok (.goto (-55), 3) := by decide +kernel
theorem dX7_runTime_78 : decode cX7_runTime 78 = .ok (.bipush (-4), 2) := by decide +kernel
theorem dX7_runTime_80 : decode cX7_runTime 80 = .ok (.ireturn, 1) := by decide +kernel
theorem dX7_longestRamp_0 : decode cX7_longestRamp 0 = .ok (.aload_n 0, 1) := by decide +kernel
theorem dX7_longestRamp_1 : decode cX7_longestRamp 1 = .ok (.iload_n 1, 1) := by decide +kernel
theorem dX7_longestRamp_2 : decode cX7_longestRamp 2 = .ok (.invokevirtual 49, 3) := by decide +kernel
theorem dX7_longestRamp_5 : decode cX7_longestRamp 5 = .ok (.ifCond .eq 5, 3) := by decide +kernel
theorem dX7_longestRamp_8 : decode cX7_longestRamp 8 = .ok (.iconst (-1), 1) := by decide +kernel
theorem dX7_longestRamp_9 : decode cX7_longestRamp 9 = .ok (.ireturn, 1) := by decide +kernel
theorem dX7_longestRamp_10 : decode cX7_longestRamp 10 = .ok (.bipush 30, 2) := by decide +kernel
theorem dX7_longestRamp_12 : decode cX7_longestRamp 12 = .ok (.istore_n 2, 1) := by decide +kernel
theorem dX7_longestRamp_13 : decode cX7_longestRamp 13 = .ok (.iload_n 2, 1) := by decide +kernel
theorem dX7_longestRamp_14 : decode cX7_longestRamp 14 = .ok (.iconst 2, 1) := by decide +kernel
theorem dX7_longestRamp_15 : decode cX7_longestRamp 15 = .ok (.if_icmp .lt 25, 3) := by decide +kernel
theorem dX7_longestRamp_18 : decode cX7_longestRamp 18 = .ok (.aload_n 0, 1) := by decide +kernel
theorem dX7_longestRamp_19 : decode cX7_longestRamp 19 = .ok (.iload_n 1, 1) := by decide +kernel
theorem dX7_longestRamp_20 : decode cX7_longestRamp 20 = .ok (.iload_n 2, 1) := by decide +kernel
theorem dX7_longestRamp_21 : decode cX7_longestRamp 21 = .ok (.invokevirtual 64, 3) := by decide +kernel
theorem dX7_longestRamp_24 : decode cX7_longestRamp 24 = .ok (.aload_n 0, 1) := by decide +kernel
theorem dX7_longestRamp_25 : decode cX7_longestRamp 25 = .ok (.iload_n 1, 1) := by decide +kernel
theorem dX7_longestRamp_26 : decode cX7_longestRamp 26 = .ok (.invokevirtual 83, 3) := by decide +kernel
theorem dX7_longestRamp_29 : decode cX7_longestRamp 29 = .ok (.if_icmp .gt 5, 3) := by decide +kernel
theorem dX7_longestRamp_32 : decode cX7_longestRamp 32 = .ok (.iload_n 2, 1) := by decide +kernel
theorem dX7_longestRamp_33 : decode cX7_longestRamp 33 = .ok (.ireturn, 1) := by decide +kernel
theorem dX7_longestRamp_34 : decode cX7_longestRamp 34 = .ok (.iinc 2 (-1), 3) := by decide +kernel
theorem dX7_longestRamp_37 : decode cX7_longestRamp 37 = .ok (.goto (-24), 3) := by decide +kernel
theorem dX7_longestRamp_40 : decode cX7_longestRamp 40 = .ok (.bipush (-4), 2) := by decide +kernel
theorem dX7_longestRamp_42 : decode cX7_longestRamp 42 = .ok (.ireturn, 1) := by decide +kernel
theorem dX7_inMode_0 : decode cX7_inMode 0 = .ok (.iconst 0, 1) := by decide +kernel
theorem dX7_inMode_1 : decode cX7_inMode 1 = .ok (.istore_n 2, 1) := by decide +kernel
theorem dX7_inMode_2 : decode cX7_inMode 2 = .ok (.iconst 0, 1) := by decide +kernel
theorem dX7_inMode_3 : decode cX7_inMode 3 = .ok (.istore_n 3, 1) := by decide +kernel
theorem dX7_inMode_4 : decode cX7_inMode 4 = .ok (.iload_n 3, 1) := by decide +kernel
theorem dX7_inMode_5 : decode cX7_inMode 5 = .ok (.aload_n 0, 1) := by decide +kernel
theorem dX7_inMode_6 : decode cX7_inMode 6 = .ok (.getfield 7, 3) := by decide +kernel
theorem dX7_inMode_9 : decode cX7_inMode 9 = .ok (.iconst 0, 1) := by decide +kernel
theorem dX7_inMode_10 : decode cX7_inMode 10 = .ok (.iaload, 1) := by decide +kernel
theorem dX7_inMode_11 : decode cX7_inMode 11 = .ok (.if_icmp .ge 27, 3) := by decide +kernel
theorem dX7_inMode_14 : decode cX7_inMode 14 = .ok (.iload_n 2, 1) := by decide +kernel
theorem dX7_inMode_15 : decode cX7_inMode 15 = .ok (.aload_n 0, 1) := by decide +kernel
theorem dX7_inMode_16 : decode cX7_inMode 16 = .ok (.iload_n 3, 1) := by decide +kernel
theorem dX7_inMode_17 : decode cX7_inMode 17 = .ok (.iconst 5, 1) := by decide +kernel
theorem dX7_inMode_18 : decode cX7_inMode 18 = .ok (.invokevirtual 53, 3) := by decide +kernel
theorem dX7_inMode_21 : decode cX7_inMode 21 = .ok (.iload_n 1, 1) := by decide +kernel
theorem dX7_inMode_22 : decode cX7_inMode 22 = .ok (.if_icmp .ne 7, 3) := by decide +kernel
theorem dX7_inMode_25 : decode cX7_inMode 25 = .ok (.iconst 1, 1) := by decide +kernel
theorem dX7_inMode_26 : decode cX7_inMode 26 = .ok (.goto 4, 3) := by decide +kernel
theorem dX7_inMode_29 : decode cX7_inMode 29 = .ok (.iconst 0, 1) := by decide +kernel
theorem dX7_inMode_30 : decode cX7_inMode 30 = .ok (.iadd, 1) := by decide +kernel
theorem dX7_inMode_31 : decode cX7_inMode 31 = .ok (.istore_n 2, 1) := by decide +kernel
theorem dX7_inMode_32 : decode cX7_inMode 32 = .ok (.iinc 3 1, 3) := by decide +kernel
theorem dX7_inMode_35 : decode cX7_inMode 35 = .ok (.goto (-31), 3) := by decide +kernel
theorem dX7_inMode_38 : decode cX7_inMode 38 = .ok (.iload_n 2, 1) := by decide +kernel
theorem dX7_inMode_39 : decode cX7_inMode 39 = .ok (.ireturn, 1) := by decide +kernel
theorem dX7_sumOf_0 : decode cX7_sumOf 0 = .ok (.iconst 0, 1) := by decide +kernel
theorem dX7_sumOf_1 : decode cX7_sumOf 1 = .ok (.istore_n 2, 1) := by decide +kernel
theorem dX7_sumOf_2 : decode cX7_sumOf 2 = .ok (.iconst 0, 1) := by decide +kernel
theorem dX7_sumOf_3 : decode cX7_sumOf 3 = .ok (.istore_n 3, 1) := by decide +kernel
theorem dX7_sumOf_4 : decode cX7_sumOf 4 = .ok (.iload_n 3, 1) := by decide +kernel
theorem dX7_sumOf_5 : decode cX7_sumOf 5 = .ok (.aload_n 0, 1) := by decide +kernel
theorem dX7_sumOf_6 : decode cX7_sumOf 6 = .ok (.getfield 7, 3) := by decide +kernel
theorem dX7_sumOf_9 : decode cX7_sumOf 9 = .ok (.iconst 0, 1) := by decide +kernel
theorem dX7_sumOf_10 : decode cX7_sumOf 10 = .ok (.iaload, 1) := by decide +kernel
theorem dX7_sumOf_11 : decode cX7_sumOf 11 = .ok (.if_icmp .ge 18, 3) := by decide +kernel
theorem dX7_sumOf_14 : decode cX7_sumOf 14 = .ok (.iload_n 2, 1) := by decide +kernel
theorem dX7_sumOf_15 : decode cX7_sumOf 15 = .ok (.aload_n 0, 1) := by decide +kernel
theorem dX7_sumOf_16 : decode cX7_sumOf 16 = .ok (.iload_n 3, 1) := by decide +kernel
theorem dX7_sumOf_17 : decode cX7_sumOf 17 = .ok (.iload_n 1, 1) := by decide +kernel
theorem dX7_sumOf_18 : decode cX7_sumOf 18 = .ok (.invokevirtual 53, 3) := by decide +kernel
theorem dX7_sumOf_21 : decode cX7_sumOf 21 = .ok (.iadd, 1) := by decide +kernel
theorem dX7_sumOf_22 : decode cX7_sumOf 22 = .ok (.istore_n 2, 1) := by decide +kernel
theorem dX7_sumOf_23 : decode cX7_sumOf 23 = .ok (.iinc 3 1, 3) := by decide +kernel
theorem dX7_sumOf_26 : decode cX7_sumOf 26 = .ok (.goto (-22), 3) := by decide +kernel
theorem dX7_sumOf_29 : decode cX7_sumOf 29 = .ok (.iload_n 2, 1) := by decide +kernel
theorem dX7_sumOf_30 : decode cX7_sumOf 30 = .ok (.ireturn, 1) := by decide +kernel
theorem dX7_allDraw_0 : decode cX7_allDraw 0 = .ok (.iconst 0, 1) := by decide +kernel
theorem dX7_allDraw_1 : decode cX7_allDraw 1 = .ok (.istore_n 1, 1) := by decide +kernel
theorem dX7_allDraw_2 : decode cX7_allDraw 2 = .ok (.iconst 0, 1) := by decide +kernel
theorem dX7_allDraw_3 : decode cX7_allDraw 3 = .ok (.istore_n 2, 1) := by decide +kernel
theorem dX7_allDraw_4 : decode cX7_allDraw 4 = .ok (.iload_n 2, 1) := by decide +kernel
theorem dX7_allDraw_5 : decode cX7_allDraw 5 = .ok (.aload_n 0, 1) := by decide +kernel
theorem dX7_allDraw_6 : decode cX7_allDraw 6 = .ok (.getfield 7, 3) := by decide +kernel
theorem dX7_allDraw_9 : decode cX7_allDraw 9 = .ok (.iconst 0, 1) := by decide +kernel
theorem dX7_allDraw_10 : decode cX7_allDraw 10 = .ok (.iaload, 1) := by decide +kernel
theorem dX7_allDraw_11 : decode cX7_allDraw 11 = .ok (.if_icmp .ge 17, 3) := by decide +kernel
theorem dX7_allDraw_14 : decode cX7_allDraw 14 = .ok (.iload_n 1, 1) := by decide +kernel
theorem dX7_allDraw_15 : decode cX7_allDraw 15 = .ok (.aload_n 0, 1) := by decide +kernel
theorem dX7_allDraw_16 : decode cX7_allDraw 16 = .ok (.iload_n 2, 1) := by decide +kernel
theorem dX7_allDraw_17 : decode cX7_allDraw 17 = .ok (.invokevirtual 89, 3) := by decide +kernel
theorem dX7_allDraw_20 : decode cX7_allDraw 20 = .ok (.iadd, 1) := by decide +kernel
theorem dX7_allDraw_21 : decode cX7_allDraw 21 = .ok (.istore_n 1, 1) := by decide +kernel
theorem dX7_allDraw_22 : decode cX7_allDraw 22 = .ok (.iinc 2 1, 3) := by decide +kernel
theorem dX7_allDraw_25 : decode cX7_allDraw 25 = .ok (.goto (-21), 3) := by decide +kernel
theorem dX7_allDraw_28 : decode cX7_allDraw 28 = .ok (.iload_n 1, 1) := by decide +kernel
theorem dX7_allDraw_29 : decode cX7_allDraw 29 = .ok (.ireturn, 1) := by decide +kernel
theorem dX7_count_0 : decode cX7_count 0 = .ok (.iload_n 1, 1) := by decide +kernel
theorem dX7_count_1 : decode cX7_count 1 = .ok (.tableswitch 184 0 17 #[87, 94, 94, 94, 94, 100, 107, 114, 121, 126, 133, 140, 147, 154, 161, 166, 174, 179], 87) := by decide +kernel
theorem dX7_count_88 : decode cX7_count 88 = .ok (.aload_n 0, 1) := by decide +kernel
theorem dX7_count_89 : decode cX7_count 89 = .ok (.getfield 7, 3) := by decide +kernel
theorem dX7_count_92 : decode cX7_count 92 = .ok (.iconst 0, 1) := by decide +kernel
theorem dX7_count_93 : decode cX7_count 93 = .ok (.iaload, 1) := by decide +kernel
theorem dX7_count_94 : decode cX7_count 94 = .ok (.ireturn, 1) := by decide +kernel
theorem dX7_count_95 : decode cX7_count 95 = .ok (.aload_n 0, 1) := by decide +kernel
theorem dX7_count_96 : decode cX7_count 96 = .ok (.iload_n 1, 1) := by decide +kernel
theorem dX7_count_97 : decode cX7_count 97 = .ok (.invokevirtual 168, 3) := by decide +kernel
theorem dX7_count_100 : decode cX7_count 100 = .ok (.ireturn, 1) := by decide +kernel
theorem dX7_count_101 : decode cX7_count 101 = .ok (.aload_n 0, 1) := by decide +kernel
theorem dX7_count_102 : decode cX7_count 102 = .ok (.getfield 7, 3) := by decide +kernel
theorem dX7_count_105 : decode cX7_count 105 = .ok (.iconst 1, 1) := by decide +kernel
theorem dX7_count_106 : decode cX7_count 106 = .ok (.iaload, 1) := by decide +kernel
theorem dX7_count_107 : decode cX7_count 107 = .ok (.ireturn, 1) := by decide +kernel
theorem dX7_count_108 : decode cX7_count 108 = .ok (.aload_n 0, 1) := by decide +kernel
theorem dX7_count_109 : decode cX7_count 109 = .ok (.getfield 7, 3) := by decide +kernel
theorem dX7_count_112 : decode cX7_count 112 = .ok (.iconst 2, 1) := by decide +kernel
theorem dX7_count_113 : decode cX7_count 113 = .ok (.iaload, 1) := by decide +kernel
theorem dX7_count_114 : decode cX7_count 114 = .ok (.ireturn, 1) := by decide +kernel
theorem dX7_count_115 : decode cX7_count 115 = .ok (.aload_n 0, 1) := by decide +kernel
theorem dX7_count_116 : decode cX7_count 116 = .ok (.getfield 7, 3) := by decide +kernel
theorem dX7_count_119 : decode cX7_count 119 = .ok (.iconst 3, 1) := by decide +kernel
theorem dX7_count_120 : decode cX7_count 120 = .ok (.iaload, 1) := by decide +kernel
theorem dX7_count_121 : decode cX7_count 121 = .ok (.ireturn, 1) := by decide +kernel
theorem dX7_count_122 : decode cX7_count 122 = .ok (.aload_n 0, 1) := by decide +kernel
theorem dX7_count_123 : decode cX7_count 123 = .ok (.getfield 30, 3) := by decide +kernel
theorem dX7_count_126 : decode cX7_count 126 = .ok (.ireturn, 1) := by decide +kernel
theorem dX7_count_127 : decode cX7_count 127 = .ok (.aload_n 0, 1) := by decide +kernel
theorem dX7_count_128 : decode cX7_count 128 = .ok (.getfield 7, 3) := by decide +kernel
theorem dX7_count_131 : decode cX7_count 131 = .ok (.iconst 4, 1) := by decide +kernel
theorem dX7_count_132 : decode cX7_count 132 = .ok (.iaload, 1) := by decide +kernel
theorem dX7_count_133 : decode cX7_count 133 = .ok (.ireturn, 1) := by decide +kernel
theorem dX7_count_134 : decode cX7_count 134 = .ok (.aload_n 0, 1) := by decide +kernel
theorem dX7_count_135 : decode cX7_count 135 = .ok (.getfield 7, 3) := by decide +kernel
theorem dX7_count_138 : decode cX7_count 138 = .ok (.iconst 5, 1) := by decide +kernel
theorem dX7_count_139 : decode cX7_count 139 = .ok (.iaload, 1) := by decide +kernel
theorem dX7_count_140 : decode cX7_count 140 = .ok (.ireturn, 1) := by decide +kernel
theorem dX7_count_141 : decode cX7_count 141 = .ok (.aload_n 0, 1) := by decide +kernel
theorem dX7_count_142 : decode cX7_count 142 = .ok (.bipush 12, 2) := by decide +kernel
theorem dX7_count_144 : decode cX7_count 144 = .ok (.invokevirtual 171, 3) := by decide +kernel
theorem dX7_count_147 : decode cX7_count 147 = .ok (.ireturn, 1) := by decide +kernel
theorem dX7_count_148 : decode cX7_count 148 = .ok (.aload_n 0, 1) := by decide +kernel
theorem dX7_count_149 : decode cX7_count 149 = .ok (.bipush 13, 2) := by decide +kernel
theorem dX7_count_151 : decode cX7_count 151 = .ok (.invokevirtual 171, 3) := by decide +kernel
theorem dX7_count_154 : decode cX7_count 154 = .ok (.ireturn, 1) := by decide +kernel
theorem dX7_count_155 : decode cX7_count 155 = .ok (.aload_n 0, 1) := by decide +kernel
theorem dX7_count_156 : decode cX7_count 156 = .ok (.bipush 6, 2) := by decide +kernel
theorem dX7_count_158 : decode cX7_count 158 = .ok (.invokevirtual 171, 3) := by decide +kernel
theorem dX7_count_161 : decode cX7_count 161 = .ok (.ireturn, 1) := by decide +kernel
theorem dX7_count_162 : decode cX7_count 162 = .ok (.aload_n 0, 1) := by decide +kernel
theorem dX7_count_163 : decode cX7_count 163 = .ok (.invokevirtual 174, 3) := by decide +kernel
theorem dX7_count_166 : decode cX7_count 166 = .ok (.ireturn, 1) := by decide +kernel
theorem dX7_count_167 : decode cX7_count 167 = .ok (.aload_n 0, 1) := by decide +kernel
theorem dX7_count_168 : decode cX7_count 168 = .ok (.getfield 7, 3) := by decide +kernel
theorem dX7_count_171 : decode cX7_count 171 = .ok (.bipush 6, 2) := by decide +kernel
theorem dX7_count_173 : decode cX7_count 173 = .ok (.iaload, 1) := by decide +kernel
theorem dX7_count_174 : decode cX7_count 174 = .ok (.ireturn, 1) := by decide +kernel
theorem dX7_count_175 : decode cX7_count 175 = .ok (.aload_n 0, 1) := by decide +kernel
theorem dX7_count_176 : decode cX7_count 176 = .ok (.getfield 26, 3) := by decide +kernel
theorem dX7_count_179 : decode cX7_count 179 = .ok (.ireturn, 1) := by decide +kernel
theorem dX7_count_180 : decode cX7_count 180 = .ok (.aload_n 0, 1) := by decide +kernel
theorem dX7_count_181 : decode cX7_count 181 = .ok (.getfield 132, 3) := by decide +kernel
theorem dX7_count_184 : decode cX7_count 184 = .ok (.ireturn, 1) := by decide +kernel
theorem dX7_count_185 : decode cX7_count 185 = .ok (.bipush (-2), 2) := by decide +kernel
theorem dX7_count_187 : decode cX7_count 187 = .ok (.ireturn, 1) := by decide +kernel
