theorem dX0_init_0 : decode cX0_init 0 = .ok (.aload_n 0, 1) := by decide +kernel
theorem dX0_init_1 : decode cX0_init 1 = .ok (.invokespecial 3, 3) := by decide +kernel
theorem dX0_init_4 : decode cX0_init 4 = .ok (.aload_n 0, 1) := by decide +kernel
theorem dX0_init_5 : decode cX0_init 5 = .ok (.bipush 10, 2) := by decide +kernel
theorem dX0_init_7 : decode cX0_init 7 = .ok (.newarray .int, 2) := by decide +kernel
theorem dX0_init_9 : decode cX0_init 9 = .ok (.putfield 9, 3) := by decide +kernel
theorem dX0_init_12 : decode cX0_init 12 = .ok (.aload_n 0, 1) := by decide +kernel
theorem dX0_init_13 : decode cX0_init 13 = .ok (.bipush 10, 2) := by decide +kernel
theorem dX0_init_15 : decode cX0_init 15 = .ok (.newarray .int, 2) := by decide +kernel
theorem dX0_init_17 : decode cX0_init 17 = .ok (.putfield 15, 3) := by decide +kernel
theorem dX0_init_20 : decode cX0_init 20 = .ok (.aload_n 0, 1) := by decide +kernel
theorem dX0_init_21 : decode cX0_init 21 = .ok (.bipush 10, 2) := by decide +kernel
theorem dX0_init_23 : decode cX0_init 23 = .ok (.newarray .int, 2) := by decide +kernel
theorem dX0_init_25 : decode cX0_init 25 = .ok (.putfield 18, 3) := by decide +kernel
theorem dX0_init_28 : decode cX0_init 28 = .ok (.return_, 1) := by decide +kernel
theorem dX0_copyFrom_0 : decode cX0_copyFrom 0 = .ok (.aload_n 1, 1) := by decide +kernel
theorem dX0_copyFrom_1 : decode cX0_copyFrom 1 = .ok (.getfield 9, 3) := by decide +kernel
theorem dX0_copyFrom_4 : decode cX0_copyFrom 4 = .ok (.iconst 0, 1) := by decide +kernel
theorem dX0_copyFrom_5 : decode cX0_copyFrom 5 = .ok (.aload_n 0, 1) := by decide +kernel
theorem dX0_copyFrom_6 : decode cX0_copyFrom 6 = .ok (.getfield 9, 3) := by decide +kernel
theorem dX0_copyFrom_9 : decode cX0_copyFrom 9 = .ok (.iconst 0, 1) := by decide +kernel
theorem dX0_copyFrom_10 : decode cX0_copyFrom 10 = .ok (.bipush 10, 2) := by decide +kernel
theorem dX0_copyFrom_12 : decode cX0_copyFrom 12 = .ok (.invokestatic 21, 3) := by decide +kernel
theorem dX0_copyFrom_15 : decode cX0_copyFrom 15 = .ok (.aload_n 1, 1) := by decide +kernel
theorem dX0_copyFrom_16 : decode cX0_copyFrom 16 = .ok (.getfield 15, 3) := by decide +kernel
theorem dX0_copyFrom_19 : decode cX0_copyFrom 19 = .ok (.iconst 0, 1) := by decide +kernel
theorem dX0_copyFrom_20 : decode cX0_copyFrom 20 = .ok (.aload_n 0, 1) := by decide +kernel
theorem dX0_copyFrom_21 : decode cX0_copyFrom 21 = .ok (.getfield 15, 3) := by decide +kernel
theorem dX0_copyFrom_24 : decode cX0_copyFrom 24 = .ok (.iconst 0, 1) := by decide +kernel
theorem dX0_copyFrom_25 : decode cX0_copyFrom 25 = .ok (.bipush 10, 2) := by decide +kernel
theorem dX0_copyFrom_27 : decode cX0_copyFrom 27 = .ok (.invokestatic 21, 3) := by decide +kernel
theorem dX0_copyFrom_30 : decode cX0_copyFrom 30 = .ok (.aload_n 1, 1) := by decide +kernel
theorem dX0_copyFrom_31 : decode cX0_copyFrom 31 = .ok (.getfield 18, 3) := by decide +kernel
theorem dX0_copyFrom_34 : decode cX0_copyFrom 34 = .ok (.iconst 0, 1) := by decide +kernel
theorem dX0_copyFrom_35 : decode cX0_copyFrom 35 = .ok (.aload_n 0, 1) := by decide +kernel
theorem dX0_copyFrom_36 : decode cX0_copyFrom 36 = .ok (.getfield 18, 3) := by decide +kernel
theorem dX0_copyFrom_39 : decode cX0_copyFrom 39 = .ok (.iconst 0, 1) := by decide +kernel
theorem dX0_copyFrom_40 : decode cX0_copyFrom 40 = .ok (.bipush 10, 2) := by decide +kernel
theorem dX0_copyFrom_42 : decode cX0_copyFrom 42 = .ok (.invokestatic 21, 3) := by decide +kernel
theorem dX0_copyFrom_45 : decode cX0_copyFrom 45 = .ok (.aload_n 0, 1) := by decide +kernel
theorem dX0_copyFrom_46 : decode cX0_copyFrom 46 = .ok (.aload_n 1, 1) := by decide +kernel
theorem dX0_copyFrom_47 : decode cX0_copyFrom 47 = .ok (.getfield 27, 3) := by decide +kernel
theorem dX0_copyFrom_50 : decode cX0_copyFrom 50 = .ok (.putfield 27, 3) := by decide +kernel
theorem dX0_copyFrom_53 : decode cX0_copyFrom 53 = .ok (.return_, 1) := by decide +kernel
theorem dX0_add_0 : decode cX0_add 0 = .ok (.aload_n 0, 1) := by decide +kernel
theorem dX0_add_1 : decode cX0_add 1 = .ok (.getfield 27, 3) := by decide +kernel
theorem dX0_add_4 : decode cX0_add 4 = .ok (.bipush 10, 2) := by decide +kernel
theorem dX0_add_6 : decode cX0_add 6 = .ok (.invokestatic 31, 3) := by decide +kernel
theorem dX0_add_9 : decode cX0_add 9 = .ok (.istore 4, 2) := by decide +kernel
theorem dX0_add_11 : decode cX0_add 11 = .ok (.aload_n 0, 1) := by decide +kernel
theorem dX0_add_12 : decode cX0_add 12 = .ok (.getfield 9, 3) := by decide +kernel
theorem dX0_add_15 : decode cX0_add 15 = .ok (.iload 4, 2) := by decide +kernel
theorem dX0_add_17 : decode cX0_add 17 = .ok (.iload_n 1, 1) := by decide +kernel
theorem dX0_add_18 : decode cX0_add 18 = .ok (.iastore, 1) := by decide +kernel
theorem dX0_add_19 : decode cX0_add 19 = .ok (.aload_n 0, 1) := by decide +kernel
theorem dX0_add_20 : decode cX0_add 20 = .ok (.getfield 15, 3) := by decide +kernel
theorem dX0_add_23 : decode cX0_add 23 = .ok (.iload 4, 2) := by decide +kernel
theorem dX0_add_25 : decode cX0_add 25 = .ok (.iload_n 2, 1) := by decide +kernel
theorem dX0_add_26 : decode cX0_add 26 = .ok (.iastore, 1) := by decide +kernel
theorem dX0_add_27 : decode cX0_add 27 = .ok (.aload_n 0, 1) := by decide +kernel
theorem dX0_add_28 : decode cX0_add 28 = .ok (.getfield 18, 3) := by decide +kernel
theorem dX0_add_31 : decode cX0_add 31 = .ok (.iload 4, 2) := by decide +kernel
theorem dX0_add_33 : decode cX0_add 33 = .ok (.iload_n 3, 1) := by decide +kernel
theorem dX0_add_34 : decode cX0_add 34 = .ok (.iastore, 1) := by decide +kernel
theorem dX0_add_35 : decode cX0_add 35 = .ok (.aload_n 0, 1) := by decide +kernel
theorem dX0_add_36 : decode cX0_add 36 = .ok (.dup, 1) := by decide +kernel
theorem dX0_add_37 : decode cX0_add 37 = .ok (.getfield 27, 3) := by decide +kernel
theorem dX0_add_40 : decode cX0_add 40 = .ok (.iconst 1, 1) := by decide +kernel
theorem dX0_add_41 : decode cX0_add 41 = .ok (.iadd, 1) := by decide +kernel
theorem dX0_add_42 : decode cX0_add 42 = .ok (.putfield 27, 3) := by decide +kernel
theorem dX0_add_45 : decode cX0_add 45 = .ok (.return_, 1) := by decide +kernel
theorem dX0_tell_0 : decode cX0_tell 0 = .ok (.iload_n 1, 1) := by decide +kernel
theorem dX0_tell_1 : decode cX0_tell 1 = .ok (.ifCond .lt 16, 3) := by decide +kernel
theorem dX0_tell_4 : decode cX0_tell 4 = .ok (.iload_n 1, 1) := by decide +kernel
theorem dX0_tell_5 : decode cX0_tell 5 = .ok (.aload_n 0, 1) := by decide +kernel
theorem dX0_tell_6 : decode cX0_tell 6 = .ok (.getfield 27, 3) := by decide +kernel
theorem dX0_tell_9 : decode cX0_tell 9 = .ok (.bipush 10, 2) := by decide +kernel
theorem dX0_tell_11 : decode cX0_tell 11 = .ok (.invokestatic 37, 3) := by decide +kernel
theorem dX0_tell_14 : decode cX0_tell 14 = .ok (.if_icmp .lt 6, 3) := by decide +kernel
theorem dX0_tell_17 : decode cX0_tell 17 = .ok (.bipush (-4), 2) := by decide +kernel
theorem dX0_tell_19 : decode cX0_tell 19 = .ok (.ireturn, 1) := by decide +kernel
theorem dX0_tell_20 : decode cX0_tell 20 = .ok (.aload_n 0, 1) := by decide +kernel
theorem dX0_tell_21 : decode cX0_tell 21 = .ok (.getfield 27, 3) := by decide +kernel
theorem dX0_tell_24 : decode cX0_tell 24 = .ok (.iconst 1, 1) := by decide +kernel
theorem dX0_tell_25 : decode cX0_tell 25 = .ok (.isub, 1) := by decide +kernel
theorem dX0_tell_26 : decode cX0_tell 26 = .ok (.iload_n 1, 1) := by decide +kernel
theorem dX0_tell_27 : decode cX0_tell 27 = .ok (.isub, 1) := by decide +kernel
theorem dX0_tell_28 : decode cX0_tell 28 = .ok (.bipush 10, 2) := by decide +kernel
theorem dX0_tell_30 : decode cX0_tell 30 = .ok (.invokestatic 31, 3) := by decide +kernel
theorem dX0_tell_33 : decode cX0_tell 33 = .ok (.istore_n 3, 1) := by decide +kernel
theorem dX0_tell_34 : decode cX0_tell 34 = .ok (.iload_n 2, 1) := by decide +kernel
theorem dX0_tell_35 : decode cX0_tell 35 = .ok (.lookupswitch 39 #[(0, 25), (1, 32)], 25) := by decide +kernel
theorem dX0_tell_60 : decode cX0_tell 60 = .ok (.aload_n 0, 1) := by decide +kernel
theorem dX0_tell_61 : decode cX0_tell 61 = .ok (.getfield 9, 3) := by decide +kernel
theorem dX0_tell_64 : decode cX0_tell 64 = .ok (.iload_n 3, 1) := by decide +kernel
theorem dX0_tell_65 : decode cX0_tell 65 = .ok (.iaload, 1) := by decide +kernel
theorem dX0_tell_66 : decode cX0_tell 66 = .ok (.ireturn, 1) := by decide +kernel
theorem dX0_tell_67 : decode cX0_tell 67 = .ok (.aload_n 0, 1) := by decide +kernel
theorem dX0_tell_68 : decode cX0_tell 68 = .ok (.getfield 15, 3) := by decide +kernel
theorem dX0_tell_71 : decode cX0_tell 71 = .ok (.iload_n 3, 1) := by decide +kernel
theorem dX0_tell_72 : decode cX0_tell 72 = .ok (.iaload, 1) := by decide +kernel
theorem dX0_tell_73 : decode cX0_tell 73 = .ok (.ireturn, 1) := by decide +kernel
theorem dX0_tell_74 : decode cX0_tell 74 = .ok (.aload_n 0, 1) := by decide +kernel
theorem dX0_tell_75 : decode cX0_tell 75 = .ok (.getfield 18, 3) := by decide +kernel
theorem dX0_tell_78 : decode cX0_tell 78 = .ok (.iload_n 3, 1) := by decide +kernel
theorem dX0_tell_79 : decode cX0_tell 79 = .ok (.iaload, 1) := by decide +kernel
theorem dX0_tell_80 : decode cX0_tell 80 = .ok (.ireturn, 1) := by decide +kernel
theorem dX1_init_0 : decode cX1_init 0 = .ok (.aload_n 0, 1) := by decide +kernel
theorem dX1_init_1 : decode cX1_init 1 = .ok (.invokespecial 3, 3) := by decide +kernel
theorem dX1_init_4 : decode cX1_init 4 = .ok (.aload_n 0, 1) := by decide +kernel
theorem dX1_init_5 : decode cX1_init 5 = .ok (.iconst 4, 1) := by decide +kernel
theorem dX1_init_6 : decode cX1_init 6 = .ok (.anewarray 9, 3) := by decide +kernel
theorem dX1_init_9 : decode cX1_init 9 = .ok (.putfield 11, 3) := by decide +kernel
theorem dX1_init_12 : decode cX1_init 12 = .ok (.iconst 0, 1) := by decide +kernel
theorem dX1_init_13 : decode cX1_init 13 = .ok (.istore_n 1, 1) := by decide +kernel
theorem dX1_init_14 : decode cX1_init 14 = .ok (.iload_n 1, 1) := by decide +kernel
theorem dX1_init_15 : decode cX1_init 15 = .ok (.iconst 4, 1) := by decide +kernel
theorem dX1_init_16 : decode cX1_init 16 = .ok (.if_icmp .ge 22, 3) := by decide +kernel
theorem dX1_init_19 : decode cX1_init 19 = .ok (.aload_n 0, 1) := by decide +kernel
theorem dX1_init_20 : decode cX1_init 20 = .ok (.getfield 11, 3) := by decide +kernel
theorem dX1_init_23 : decode cX1_init 23 = .ok (.iload_n 1, 1) := by decide +kernel
theorem dX1_init_24 : decode cX1_init 24 = .ok (.new 9, 3) := by decide +kernel
theorem dX1_init_27 : decode cX1_init 27 = .ok (.dup, 1) := by decide +kernel
theorem dX1_init_28 : decode cX1_init 28 = .ok (.invokespecial 17, 3) := by decide +kernel
theorem dX1_init_31 : decode cX1_init 31 = .ok (.aastore, 1) := by decide +kernel
theorem dX1_init_32 : decode cX1_init 32 = .ok (.iinc 1 1, 3) := by decide +kernel
theorem dX1_init_35 : decode cX1_init 35 = .ok (.goto (-21), 3) := by decide +kernel
theorem dX1_init_38 : decode cX1_init 38 = .ok (.return_, 1) := by decide +kernel
theorem dX1_record_0 : decode cX1_record 0 = .ok (.aload_n 0, 1) := by decide +kernel
theorem dX1_record_1 : decode cX1_record 1 = .ok (.getfield 18, 3) := by decide +kernel
theorem dX1_record_4 : decode cX1_record 4 = .ok (.iconst 4, 1) := by decide +kernel
theorem dX1_record_5 : decode cX1_record 5 = .ok (.if_icmp .lt 7, 3) := by decide +kernel
theorem dX1_record_8 : decode cX1_record 8 = .ok (.aload_n 0, 1) := by decide +kernel
theorem dX1_record_9 : decode cX1_record 9 = .ok (.invokevirtual 22, 3) := by decide +kernel
theorem dX1_record_12 : decode cX1_record 12 = .ok (.aload_n 0, 1) := by decide +kernel
theorem dX1_record_13 : decode cX1_record 13 = .ok (.getfield 11, 3) := by decide +kernel
theorem dX1_record_16 : decode cX1_record 16 = .ok (.aload_n 0, 1) := by decide +kernel
theorem dX1_record_17 : decode cX1_record 17 = .ok (.getfield 18, 3) := by decide +kernel
theorem dX1_record_20 : decode cX1_record 20 = .ok (.aaload, 1) := by decide +kernel
theorem dX1_record_21 : decode cX1_record 21 = .ok (.aload_n 1, 1) := by decide +kernel
theorem dX1_record_22 : decode cX1_record 22 = .ok (.invokevirtual 25, 3) := by decide +kernel
theorem dX1_record_25 : decode cX1_record 25 = .ok (.aload_n 0, 1) := by decide +kernel
theorem dX1_record_26 : decode cX1_record 26 = .ok (.dup, 1) := by decide +kernel
theorem dX1_record_27 : decode cX1_record 27 = .ok (.getfield 18, 3) := by decide +kernel
theorem dX1_record_30 : decode cX1_record 30 = .ok (.iconst 1, 1) := by decide +kernel
theorem dX1_record_31 : decode cX1_record 31 = .ok (.iadd, 1) := by decide +kernel
theorem dX1_record_32 : decode cX1_record 32 = .ok (.putfield 18, 3) := by decide +kernel
theorem dX1_record_35 : decode cX1_record 35 = .ok (.return_, 1) := by decide +kernel
theorem dX1_dropOldest_0 : decode cX1_dropOldest 0 = .ok (.aload_n 0, 1) := by decide +kernel
theorem dX1_dropOldest_1 : decode cX1_dropOldest 1 = .ok (.getfield 11, 3) := by decide +kernel
theorem dX1_dropOldest_4 : decode cX1_dropOldest 4 = .ok (.iconst 0, 1) := by decide +kernel
theorem dX1_dropOldest_5 : decode cX1_dropOldest 5 = .ok (.aaload, 1) := by decide +kernel
theorem dX1_dropOldest_6 : decode cX1_dropOldest 6 = .ok (.astore_n 1, 1) := by decide +kernel
theorem dX1_dropOldest_7 : decode cX1_dropOldest 7 = .ok (.iconst 1, 1) := by decide +kernel
theorem dX1_dropOldest_8 : decode cX1_dropOldest 8 = .ok (.istore_n 2, 1) := by decide +kernel
theorem dX1_dropOldest_9 : decode cX1_dropOldest 9 = .ok (.iload_n 2, 1) := by decide +kernel
theorem dX1_dropOldest_10 : decode cX1_dropOldest 10 = .ok (.iconst 4, 1) := by decide +kernel
theorem dX1_dropOldest_11 : decode cX1_dropOldest 11 = .ok (.if_icmp .ge 23, 3) := by decide +kernel
theorem dX1_dropOldest_14 : decode cX1_dropOldest 14 = .ok (.aload_n 0, 1) := by decide +kernel
theorem dX1_dropOldest_15 : decode cX1_dropOldest 15 = .ok (.getfield 11, 3) := by decide +kernel
theorem dX1_dropOldest_18 : decode cX1_dropOldest 18 = .ok (.iload_n 2, 1) := by decide +kernel
theorem dX1_dropOldest_19 : decode cX1_dropOldest 19 = .ok (.iconst 1, 1) := by decide +kernel
theorem dX1_dropOldest_20 : decode cX1_dropOldest 20 = .ok (.isub, 1) := by decide +kernel
theorem dX1_dropOldest_21 : decode cX1_dropOldest 21 = .ok (.aload_n 0, 1) := by decide +kernel
theorem dX1_dropOldest_22 : decode cX1_dropOldest 22 = .ok (.getfield 11, 3) := by decide +kernel
theorem dX1_dropOldest_25 : decode cX1_dropOldest 25 = .ok (.iload_n 2, 1) := by decide +kernel
theorem dX1_dropOldest_26 : decode cX1_dropOldest 26 = .ok (.aaload, 1) := by decide +kernel
theorem dX1_dropOldest_27 : decode cX1_dropOldest 27 = .ok (.aastore, 1) := by decide +kernel
theorem dX1_dropOldest_28 : decode cX1_dropOldest 28 = .ok (.iinc 2 1, 3) := by decide +kernel
theorem dX1_dropOldest_31 : decode cX1_dropOldest 31 = .ok (.goto (-22), 3) := by decide +kernel
theorem dX1_dropOldest_34 : decode cX1_dropOldest 34 = .ok (.aload_n 0, 1) := by decide +kernel
theorem dX1_dropOldest_35 : decode cX1_dropOldest 35 = .ok (.getfield 11, 3) := by decide +kernel
theorem dX1_dropOldest_38 : decode cX1_dropOldest 38 = .ok (.iconst 3, 1) := by decide +kernel
theorem dX1_dropOldest_39 : decode cX1_dropOldest 39 = .ok (.aload_n 1, 1) := by decide +kernel
theorem dX1_dropOldest_40 : decode cX1_dropOldest 40 = .ok (.aastore, 1) := by decide +kernel
theorem dX1_dropOldest_41 : decode cX1_dropOldest 41 = .ok (.aload_n 0, 1) := by decide +kernel
theorem dX1_dropOldest_42 : decode cX1_dropOldest 42 = .ok (.iconst 3, 1) := by decide +kernel
theorem dX1_dropOldest_43 : decode cX1_dropOldest 43 = .ok (.putfield 18, 3) := by decide +kernel
theorem dX1_dropOldest_46 : decode cX1_dropOldest 46 = .ok (.return_, 1) := by decide +kernel
theorem dX1_takeBack_0 : decode cX1_takeBack 0 = .ok (.aload_n 0, 1) := by decide +kernel
theorem dX1_takeBack_1 : decode cX1_takeBack 1 = .ok (.getfield 18, 3) := by decide +kernel
theorem dX1_takeBack_4 : decode cX1_takeBack 4 = .ok (.iconst 1, 1) := by decide +kernel
theorem dX1_takeBack_5 : decode cX1_takeBack 5 = .ok (.if_icmp .ge 5, 3) := by decide +kernel
theorem dX1_takeBack_8 : decode cX1_takeBack 8 = .ok (.iconst 0, 1) := by decide +kernel
theorem dX1_takeBack_9 : decode cX1_takeBack 9 = .ok (.ireturn, 1) := by decide +kernel
theorem dX1_takeBack_10 : decode cX1_takeBack 10 = .ok (.aload_n 0, 1) := by decide +kernel
theorem dX1_takeBack_11 : decode cX1_takeBack 11 = .ok (.dup, 1) := by decide +kernel
theorem dX1_takeBack_12 : decode cX1_takeBack 12 = .ok (.getfield 18, 3) := by decide +kernel
theorem dX1_takeBack_15 : decode cX1_takeBack 15 = .ok (.iconst 1, 1) := by decide +kernel
theorem dX1_takeBack_16 : decode cX1_takeBack 16 = .ok (.isub, 1) := by decide +kernel
theorem dX1_takeBack_17 : decode cX1_takeBack 17 = .ok (.putfield 18, 3) := by decide +kernel
theorem dX1_takeBack_20 : decode cX1_takeBack 20 = .ok (.aload_n 1, 1) := by decide +kernel
theorem dX1_takeBack_21 : decode cX1_takeBack 21 = .ok (.aload_n 0, 1) := by decide +kernel
theorem dX1_takeBack_22 : decode cX1_takeBack 22 = .ok (.getfield 11, 3) := by decide +kernel
theorem dX1_takeBack_25 : decode cX1_takeBack 25 = .ok (.aload_n 0, 1) := by decide +kernel
theorem dX1_takeBack_26 : decode cX1_takeBack 26 = .ok (.getfield 18, 3) := by decide +kernel
theorem dX1_takeBack_29 : decode cX1_takeBack 29 = .ok (.aaload, 1) := by decide +kernel
theorem dX1_takeBack_30 : decode cX1_takeBack 30 = .ok (.invokevirtual 25, 3) := by decide +kernel
theorem dX1_takeBack_33 : decode cX1_takeBack 33 = .ok (.iconst 1, 1) := by decide +kernel
theorem dX1_takeBack_34 : decode cX1_takeBack 34 = .ok (.ireturn, 1) := by decide +kernel
theorem dX2_init_0 : decode cX2_init 0 = .ok (.aload_n 0, 1) := by decide +kernel
theorem dX2_init_1 : decode cX2_init 1 = .ok (.invokespecial 3, 3) := by decide +kernel
theorem dX2_init_4 : decode cX2_init 4 = .ok (.aload_n 0, 1) := by decide +kernel
theorem dX2_init_5 : decode cX2_init 5 = .ok (.iload_n 1, 1) := by decide +kernel
theorem dX2_init_6 : decode cX2_init 6 = .ok (.putfield 9, 3) := by decide +kernel
theorem dX2_init_9 : decode cX2_init 9 = .ok (.aload_n 0, 1) := by decide +kernel
theorem dX2_init_10 : decode cX2_init 10 = .ok (.bipush 7, 2) := by decide +kernel
theorem dX2_init_12 : decode cX2_init 12 = .ok (.newarray .int, 2) := by decide +kernel
theorem dX2_init_14 : decode cX2_init 14 = .ok (.putfield 15, 3) := by decide +kernel
theorem dX2_init_17 : decode cX2_init 17 = .ok (.return_, 1) := by decide +kernel
theorem dX2_begin_0 : decode cX2_begin 0 = .ok (.aload_n 0, 1) := by decide +kernel
theorem dX2_begin_1 : decode cX2_begin 1 = .ok (.iload_n 1, 1) := by decide +kernel
theorem dX2_begin_2 : decode cX2_begin 2 = .ok (.putfield 19, 3) := by decide +kernel
theorem dX2_begin_5 : decode cX2_begin 5 = .ok (.aload_n 0, 1) := by decide +kernel
theorem dX2_begin_6 : decode cX2_begin 6 = .ok (.iload_n 2, 1) := by decide +kernel
theorem dX2_begin_7 : decode cX2_begin 7 = .ok (.putfield 22, 3) := by decide +kernel
theorem dX2_begin_10 : decode cX2_begin 10 = .ok (.aload_n 0, 1) := by decide +kernel
theorem dX2_begin_11 : decode cX2_begin 11 = .ok (.iload_n 3, 1) := by decide +kernel
theorem dX2_begin_12 : decode cX2_begin 12 = .ok (.putfield 25, 3) := by decide +kernel
theorem dX2_begin_15 : decode cX2_begin 15 = .ok (.aload_n 0, 1) := by decide +kernel
theorem dX2_begin_16 : decode cX2_begin 16 = .ok (.iload 4, 2) := by decide +kernel
theorem dX2_begin_18 : decode cX2_begin 18 = .ok (.putfield 28, 3) := by decide +kernel
theorem dX2_begin_21 : decode cX2_begin 21 = .ok (.aload_n 0, 1) := by decide +kernel
theorem dX2_begin_22 : decode cX2_begin 22 = .ok (.iload_n 1, 1) := by decide +kernel
theorem dX2_begin_23 : decode cX2_begin 23 = .ok (.iload_n 3, 1) := by decide +kernel
theorem dX2_begin_24 : decode cX2_begin 24 = .ok (.imul, 1) := by decide +kernel
theorem dX2_begin_25 : decode cX2_begin 25 = .ok (.iload_n 2, 1) := by decide +kernel
theorem dX2_begin_26 : decode cX2_begin 26 = .ok (.invokestatic 31, 3) := by decide +kernel
theorem dX2_begin_29 : decode cX2_begin 29 = .ok (.putfield 35, 3) := by decide +kernel
theorem dX2_begin_32 : decode cX2_begin 32 = .ok (.aload_n 0, 1) := by decide +kernel
theorem dX2_begin_33 : decode cX2_begin 33 = .ok (.iconst 5, 1) := by decide +kernel
theorem dX2_begin_34 : decode cX2_begin 34 = .ok (.putfield 38, 3) := by decide +kernel
theorem dX2_begin_37 : decode cX2_begin 37 = .ok (.aload_n 0, 1) := by decide +kernel
theorem dX2_begin_38 : decode cX2_begin 38 = .ok (.iconst 0, 1) := by decide +kernel
theorem dX2_begin_39 : decode cX2_begin 39 = .ok (.putfield 41, 3) := by decide +kernel
theorem dX2_begin_42 : decode cX2_begin 42 = .ok (.aload_n 0, 1) := by decide +kernel
theorem dX2_begin_43 : decode cX2_begin 43 = .ok (.iconst 0, 1) := by decide +kernel
theorem dX2_begin_44 : decode cX2_begin 44 = .ok (.putfield 44, 3) := by decide +kernel
theorem dX2_begin_47 : decode cX2_begin 47 = .ok (.aload_n 0, 1) := by decide +kernel
theorem dX2_begin_48 : decode cX2_begin 48 = .ok (.iconst 0, 1) := by decide +kernel
theorem dX2_begin_49 : decode cX2_begin 49 = .ok (.putfield 47, 3) := by decide +kernel
theorem dX2_begin_52 : decode cX2_begin 52 = .ok (.aload_n 0, 1) := by decide +kernel
theorem dX2_begin_53 : decode cX2_begin 53 = .ok (.iconst 0, 1) := by decide +kernel
theorem dX2_begin_54 : decode cX2_begin 54 = .ok (.putfield 50, 3) := by decide +kernel
theorem dX2_begin_57 : decode cX2_begin 57 = .ok (.aload_n 0, 1) := by decide +kernel
theorem dX2_begin_58 : decode cX2_begin 58 = .ok (.iconst 0, 1) := by decide +kernel
theorem dX2_begin_59 : decode cX2_begin 59 = .ok (.putfield 53, 3) := by decide +kernel
theorem dX2_begin_62 : decode cX2_begin 62 = .ok (.aload_n 0, 1) := by decide +kernel
theorem dX2_begin_63 : decode cX2_begin 63 = .ok (.iconst 0, 1) := by decide +kernel
theorem dX2_begin_64 : decode cX2_begin 64 = .ok (.putfield 56, 3) := by decide +kernel
theorem dX2_begin_67 : decode cX2_begin 67 = .ok (.aload_n 0, 1) := by decide +kernel
theorem dX2_begin_68 : decode cX2_begin 68 = .ok (.iconst 0, 1) := by decide +kernel
theorem dX2_begin_69 : decode cX2_begin 69 = .ok (.putfield 59, 3) := by decide +kernel
theorem dX2_begin_72 : decode cX2_begin 72 = .ok (.iconst 0, 1) := by decide +kernel
theorem dX2_begin_73 : decode cX2_begin 73 = .ok (.istore 5, 2) := by decide +kernel
theorem dX2_begin_75 : decode cX2_begin 75 = .ok (.iload 5, 2) := by decide +kernel
theorem dX2_begin_77 : decode cX2_begin 77 = .ok (.bipush 7, 2) := by decide +kernel
theorem dX2_begin_79 : decode cX2_begin 79 = .ok (.if_icmp .ge 17, 3) := by decide +kernel
theorem dX2_begin_82 : decode cX2_begin 82 = .ok (.aload_n 0, 1) := by decide +kernel
theorem dX2_begin_83 : decode cX2_begin 83 = .ok (.getfield 15, 3) := by decide +kernel
theorem dX2_begin_86 : decode cX2_begin 86 = .ok (.iload 5, 2) := by decide +kernel
theorem dX2_begin_88 : decode cX2_begin 88 = .ok (.iconst 0, 1) := by decide +kernel
theorem dX2_begin_89 : decode cX2_begin 89 = .ok (.iastore, 1) := by decide +kernel
theorem dX2_begin_90 : decode cX2_begin 90 = .ok (.iinc 5 1, 3) := by decide +kernel
theorem dX2_begin_93 : decode cX2_begin 93 = .ok (.goto (-18), 3) := by decide +kernel
theorem dX2_begin_96 : decode cX2_begin 96 = .ok (.return_, 1) := by decide +kernel
theorem dX2_copyFrom_0 : decode cX2_copyFrom 0 = .ok (.aload_n 0, 1) := by decide +kernel
theorem dX2_copyFrom_1 : decode cX2_copyFrom 1 = .ok (.aload_n 1, 1) := by decide +kernel
theorem dX2_copyFrom_2 : decode cX2_copyFrom 2 = .ok (.getfield 19, 3) := by decide +kernel
theorem dX2_copyFrom_5 : decode cX2_copyFrom 5 = .ok (.putfield 19, 3) := by decide +kernel
theorem dX2_copyFrom_8 : decode cX2_copyFrom 8 = .ok (.aload_n 0, 1) := by decide +kernel
theorem dX2_copyFrom_9 : decode cX2_copyFrom 9 = .ok (.aload_n 1, 1) := by decide +kernel
theorem dX2_copyFrom_10 : decode cX2_copyFrom 10 = .ok (.getfield 22, 3) := by decide +kernel
theorem dX2_copyFrom_13 : decode cX2_copyFrom 13 = .ok (.putfield 22, 3) := by decide +kernel
theorem dX2_copyFrom_16 : decode cX2_copyFrom 16 = .ok (.aload_n 0, 1) := by decide +kernel
theorem dX2_copyFrom_17 : decode cX2_copyFrom 17 = .ok (.aload_n 1, 1) := by decide +kernel
theorem dX2_copyFrom_18 : decode cX2_copyFrom 18 = .ok (.getfield 25, 3) := by decide +kernel
theorem dX2_copyFrom_21 : decode cX2_copyFrom 21 = .ok (.putfield 25, 3) := by decide +kernel
theorem dX2_copyFrom_24 : decode cX2_copyFrom 24 = .ok (.aload_n 0, 1) := by decide +kernel
theorem dX2_copyFrom_25 : decode cX2_copyFrom 25 = .ok (.aload_n 1, 1) := by decide +kernel
theorem dX2_copyFrom_26 : decode cX2_copyFrom 26 = .ok (.getfield 28, 3) := by decide +kernel
theorem dX2_copyFrom_29 : decode cX2_copyFrom 29 = .ok (.putfield 28, 3) := by decide +kernel
theorem dX2_copyFrom_32 : decode cX2_copyFrom 32 = .ok (.aload_n 0, 1) := by decide +kernel
theorem dX2_copyFrom_33 : decode cX2_copyFrom 33 = .ok (.aload_n 1, 1) := by decide +kernel
theorem dX2_copyFrom_34 : decode cX2_copyFrom 34 = .ok (.getfield 35, 3) := by decide +kernel
theorem dX2_copyFrom_37 : decode cX2_copyFrom 37 = .ok (.putfield 35, 3) := by decide +kernel
theorem dX2_copyFrom_40 : decode cX2_copyFrom 40 = .ok (.aload_n 0, 1) := by decide +kernel
theorem dX2_copyFrom_41 : decode cX2_copyFrom 41 = .ok (.aload_n 1, 1) := by decide +kernel
theorem dX2_copyFrom_42 : decode cX2_copyFrom 42 = .ok (.getfield 38, 3) := by decide +kernel
theorem dX2_copyFrom_45 : decode cX2_copyFrom 45 = .ok (.putfield 38, 3) := by decide +kernel
theorem dX2_copyFrom_48 : decode cX2_copyFrom 48 = .ok (.aload_n 0, 1) := by decide +kernel
theorem dX2_copyFrom_49 : decode cX2_copyFrom 49 = .ok (.aload_n 1, 1) := by decide +kernel
theorem dX2_copyFrom_50 : decode cX2_copyFrom 50 = .ok (.getfield 41, 3) := by decide +kernel
theorem dX2_copyFrom_53 : decode cX2_copyFrom 53 = .ok (.putfield 41, 3) := by decide +kernel
theorem dX2_copyFrom_56 : decode cX2_copyFrom 56 = .ok (.aload_n 0, 1) := by decide +kernel
theorem dX2_copyFrom_57 : decode cX2_copyFrom 57 = .ok (.aload_n 1, 1) := by decide +kernel
theorem dX2_copyFrom_58 : decode cX2_copyFrom 58 = .ok (.getfield 44, 3) := by decide +kernel
theorem dX2_copyFrom_61 : decode cX2_copyFrom 61 = .ok (.putfield 44, 3) := by decide +kernel
theorem dX2_copyFrom_64 : decode cX2_copyFrom 64 = .ok (.aload_n 0, 1) := by decide +kernel
theorem dX2_copyFrom_65 : decode cX2_copyFrom 65 = .ok (.aload_n 1, 1) := by decide +kernel
theorem dX2_copyFrom_66 : decode cX2_copyFrom 66 = .ok (.getfield 47, 3) := by decide +kernel
theorem dX2_copyFrom_69 : decode cX2_copyFrom 69 = .ok (.putfield 47, 3) := by decide +kernel
theorem dX2_copyFrom_72 : decode cX2_copyFrom 72 = .ok (.aload_n 0, 1) := by decide +kernel
theorem dX2_copyFrom_73 : decode cX2_copyFrom 73 = .ok (.aload_n 1, 1) := by decide +kernel
theorem dX2_copyFrom_74 : decode cX2_copyFrom 74 = .ok (.getfield 50, 3) := by decide +kernel
theorem dX2_copyFrom_77 : decode cX2_copyFrom 77 = .ok (.putfield 50, 3) := by decide +kernel
theorem dX2_copyFrom_80 : decode cX2_copyFrom 80 = .ok (.aload_n 0, 1) := by decide +kernel
theorem dX2_copyFrom_81 : decode cX2_copyFrom 81 = .ok (.aload_n 1, 1) := by decide +kernel
theorem dX2_copyFrom_82 : decode cX2_copyFrom 82 = .ok (.getfield 53, 3) := by decide +kernel
theorem dX2_copyFrom_85 : decode cX2_copyFrom 85 = .ok (.putfield 53, 3) := by decide +kernel
theorem dX2_copyFrom_88 : decode cX2_copyFrom 88 = .ok (.aload_n 0, 1) := by decide +kernel
theorem dX2_copyFrom_89 : decode cX2_copyFrom 89 = .ok (.aload_n 1, 1) := by decide +kernel
theorem dX2_copyFrom_90 : decode cX2_copyFrom 90 = .ok (.getfield 56, 3) := by decide +kernel
theorem dX2_copyFrom_93 : decode cX2_copyFrom 93 = .ok (.putfield 56, 3) := by decide +kernel
theorem dX2_copyFrom_96 : decode cX2_copyFrom 96 = .ok (.aload_n 0, 1) := by decide +kernel
theorem dX2_copyFrom_97 : decode cX2_copyFrom 97 = .ok (.aload_n 1, 1) := by decide +kernel
theorem dX2_copyFrom_98 : decode cX2_copyFrom 98 = .ok (.getfield 59, 3) := by decide +kernel
theorem dX2_copyFrom_101 : decode cX2_copyFrom 101 = .ok (.putfield 59, 3) := by decide +kernel
theorem dX2_copyFrom_104 : decode cX2_copyFrom 104 = .ok (.aload_n 1, 1) := by decide +kernel
theorem dX2_copyFrom_105 : decode cX2_copyFrom 105 = .ok (.getfield 15, 3) := by decide +kernel
theorem dX2_copyFrom_108 : decode cX2_copyFrom 108 = .ok (.iconst 0, 1) := by decide +kernel
theorem dX2_copyFrom_109 : decode cX2_copyFrom 109 = .ok (.aload_n 0, 1) := by decide +kernel
theorem dX2_copyFrom_110 : decode cX2_copyFrom 110 = .ok (.getfield 15, 3) := by decide +kernel
theorem dX2_copyFrom_113 : decode cX2_copyFrom 113 = .ok (.iconst 0, 1) := by decide +kernel
theorem dX2_copyFrom_114 : decode cX2_copyFrom 114 = .ok (.bipush 7, 2) := by decide +kernel
theorem dX2_copyFrom_116 : decode cX2_copyFrom 116 = .ok (.invokestatic 62, 3) := by decide +kernel
theorem dX2_copyFrom_119 : decode cX2_copyFrom 119 = .ok (.return_, 1) := by decide +kernel
theorem dX2_turns_0 : decode cX2_turns 0 = .ok (.aload_n 0, 1) := by decide +kernel
theorem dX2_turns_1 : decode cX2_turns 1 = .ok (.getfield 41, 3) := by decide +kernel
theorem dX2_turns_4 : decode cX2_turns 4 = .ok (.iconst 2, 1) := by decide +kernel
theorem dX2_turns_5 : decode cX2_turns 5 = .ok (.if_icmp .eq 11, 3) := by decide +kernel
theorem dX2_turns_8 : decode cX2_turns 8 = .ok (.aload_n 0, 1) := by decide +kernel
theorem dX2_turns_9 : decode cX2_turns 9 = .ok (.getfield 41, 3) := by decide +kernel
theorem dX2_turns_12 : decode cX2_turns 12 = .ok (.iconst 3, 1) := by decide +kernel
theorem dX2_turns_13 : decode cX2_turns 13 = .ok (.if_icmp .ne 7, 3) := by decide +kernel
theorem dX2_turns_16 : decode cX2_turns 16 = .ok (.iconst 1, 1) := by decide +kernel
theorem dX2_turns_17 : decode cX2_turns 17 = .ok (.goto 4, 3) := by decide +kernel
theorem dX2_turns_20 : decode cX2_turns 20 = .ok (.iconst 0, 1) := by decide +kernel
theorem dX2_turns_21 : decode cX2_turns 21 = .ok (.ireturn, 1) := by decide +kernel
theorem dX2_peak_0 : decode cX2_peak 0 = .ok (.aload_n 0, 1) := by decide +kernel
theorem dX2_peak_1 : decode cX2_peak 1 = .ok (.getfield 19, 3) := by decide +kernel
theorem dX2_peak_4 : decode cX2_peak 4 = .ok (.aload_n 0, 1) := by decide +kernel
theorem dX2_peak_5 : decode cX2_peak 5 = .ok (.getfield 25, 3) := by decide +kernel
theorem dX2_peak_8 : decode cX2_peak 8 = .ok (.imul, 1) := by decide +kernel
theorem dX2_peak_9 : decode cX2_peak 9 = .ok (.ireturn, 1) := by decide +kernel
theorem dX2_credit_0 : decode cX2_credit 0 = .ok (.aload_n 0, 1) := by decide +kernel
theorem dX2_credit_1 : decode cX2_credit 1 = .ok (.getfield 28, 3) := by decide +kernel
theorem dX2_credit_4 : decode cX2_credit 4 = .ok (.aload_n 0, 1) := by decide +kernel
theorem dX2_credit_5 : decode cX2_credit 5 = .ok (.getfield 44, 3) := by decide +kernel
theorem dX2_credit_8 : decode cX2_credit 8 = .ok (.isub, 1) := by decide +kernel
theorem dX2_credit_9 : decode cX2_credit 9 = .ok (.ireturn, 1) := by decide +kernel
theorem dX2_draw_0 : decode cX2_draw 0 = .ok (.aload_n 0, 1) := by decide +kernel
theorem dX2_draw_1 : decode cX2_draw 1 = .ok (.getfield 41, 3) := by decide +kernel
theorem dX2_draw_4 : decode cX2_draw 4 = .ok (.iconst 2, 1) := by decide +kernel
theorem dX2_draw_5 : decode cX2_draw 5 = .ok (.if_icmp .ne 19, 3) := by decide +kernel
theorem dX2_draw_8 : decode cX2_draw 8 = .ok (.aload_n 0, 1) := by decide +kernel
theorem dX2_draw_9 : decode cX2_draw 9 = .ok (.invokevirtual 68, 3) := by decide +kernel
theorem dX2_draw_12 : decode cX2_draw 12 = .ok (.aload_n 0, 1) := by decide +kernel
theorem dX2_draw_13 : decode cX2_draw 13 = .ok (.getfield 22, 3) := by decide +kernel
theorem dX2_draw_16 : decode cX2_draw 16 = .ok (.aload_n 0, 1) := by decide +kernel
theorem dX2_draw_17 : decode cX2_draw 17 = .ok (.getfield 50, 3) := by decide +kernel
theorem dX2_draw_20 : decode cX2_draw 20 = .ok (.invokestatic 72, 3) := by decide +kernel
theorem dX2_draw_23 : decode cX2_draw 23 = .ok (.ireturn, 1) := by decide +kernel
theorem dX2_draw_24 : decode cX2_draw 24 = .ok (.aload_n 0, 1) := by decide +kernel
theorem dX2_draw_25 : decode cX2_draw 25 = .ok (.getfield 41, 3) := by decide +kernel
theorem dX2_draw_28 : decode cX2_draw 28 = .ok (.iconst 3, 1) := by decide +kernel
theorem dX2_draw_29 : decode cX2_draw 29 = .ok (.if_icmp .ne 26, 3) := by decide +kernel
theorem dX2_draw_32 : decode cX2_draw 32 = .ok (.aload_n 0, 1) := by decide +kernel
theorem dX2_draw_33 : decode cX2_draw 33 = .ok (.getfield 47, 3) := by decide +kernel
theorem dX2_draw_36 : decode cX2_draw 36 = .ok (.ifCond .ne 10, 3) := by decide +kernel
theorem dX2_draw_39 : decode cX2_draw 39 = .ok (.aload_n 0, 1) := by decide +kernel
theorem dX2_draw_40 : decode cX2_draw 40 = .ok (.getfield 19, 3) := by decide +kernel
theorem dX2_draw_43 : decode cX2_draw 43 = .ok (.goto 11, 3) := by decide +kernel
theorem dX2_draw_46 : decode cX2_draw 46 = .ok (.aload_n 0, 1) := by decide +kernel
theorem dX2_draw_47 : decode cX2_draw 47 = .ok (.getfield 19, 3) := by decide +kernel
theorem dX2_draw_50 : decode cX2_draw 50 = .ok (.iconst 3, 1) := by decide +kernel
theorem dX2_draw_51 : decode cX2_draw 51 = .ok (.imul, 1) := by decide +kernel
theorem dX2_draw_52 : decode cX2_draw 52 = .ok (.iconst 2, 1) := by decide +kernel
theorem dX2_draw_53 : decode cX2_draw 53 = .ok (.idiv, 1) := by decide +kernel
theorem dX2_draw_54 : decode cX2_draw 54 = .ok (.ireturn, 1) := by decide +kernel
theorem dX2_draw_55 : decode cX2_draw 55 = .ok (.iconst 0, 1) := by decide +kernel
theorem dX2_draw_56 : decode cX2_draw 56 = .ok (.ireturn, 1) := by decide +kernel
theorem dX2_change_0 : decode cX2_change 0 = .ok (.aload_n 0, 1) := by decide +kernel
theorem dX2_change_1 : decode cX2_change 1 = .ok (.getfield 41, 3) := by decide +kernel
theorem dX2_change_4 : decode cX2_change 4 = .ok (.istore_n 2, 1) := by decide +kernel
theorem dX2_change_5 : decode cX2_change 5 = .ok (.aload_n 0, 1) := by decide +kernel
theorem dX2_change_6 : decode cX2_change 6 = .ok (.iload_n 1, 1) := by decide +kernel
theorem dX2_change_7 : decode cX2_change 7 = .ok (.putfield 41, 3) := by decide +kernel
theorem dX2_change_10 : decode cX2_change 10 = .ok (.iload_n 2, 1) := by decide +kernel
theorem dX2_change_11 : decode cX2_change 11 = .ok (.ireturn, 1) := by decide +kernel
theorem dX2_trip_0 : decode cX2_trip 0 = .ok (.aload_n 0, 1) := by decide +kernel
theorem dX2_trip_1 : decode cX2_trip 1 = .ok (.iconst 4, 1) := by decide +kernel
theorem dX2_trip_2 : decode cX2_trip 2 = .ok (.putfield 41, 3) := by decide +kernel
theorem dX2_trip_5 : decode cX2_trip 5 = .ok (.aload_n 0, 1) := by decide +kernel
theorem dX2_trip_6 : decode cX2_trip 6 = .ok (.iload_n 1, 1) := by decide +kernel
theorem dX2_trip_7 : decode cX2_trip 7 = .ok (.putfield 56, 3) := by decide +kernel
theorem dX2_trip_10 : decode cX2_trip 10 = .ok (.aload_n 0, 1) := by decide +kernel
theorem dX2_trip_11 : decode cX2_trip 11 = .ok (.getfield 15, 3) := by decide +kernel
theorem dX2_trip_14 : decode cX2_trip 14 = .ok (.iconst 3, 1) := by decide +kernel
theorem dX2_trip_15 : decode cX2_trip 15 = .ok (.dup2, 1) := by decide +kernel
theorem dX2_trip_16 : decode cX2_trip 16 = .ok (.iaload, 1) := by decide +kernel
theorem dX2_trip_17 : decode cX2_trip 17 = .ok (.iconst 1, 1) := by decide +kernel
theorem dX2_trip_18 : decode cX2_trip 18 = .ok (.iadd, 1) := by decide +kernel
theorem dX2_trip_19 : decode cX2_trip 19 = .ok (.iastore, 1) := by decide +kernel
theorem dX2_trip_20 : decode cX2_trip 20 = .ok (.iload_n 1, 1) := by decide +kernel
theorem dX2_trip_21 : decode cX2_trip 21 = .ok (.iconst 2, 1) := by decide +kernel
theorem dX2_trip_22 : decode cX2_trip 22 = .ok (.if_icmp .ne 7, 3) := by decide +kernel
theorem dX2_trip_25 : decode cX2_trip 25 = .ok (.iconst 4, 1) := by decide +kernel
theorem dX2_trip_26 : decode cX2_trip 26 = .ok (.goto 4, 3) := by decide +kernel
theorem dX2_trip_29 : decode cX2_trip 29 = .ok (.iconst 5, 1) := by decide +kernel
theorem dX2_trip_30 : decode cX2_trip 30 = .ok (.ireturn, 1) := by decide +kernel
theorem dX2_countSecond_0 : decode cX2_countSecond 0 = .ok (.aload_n 0, 1) := by decide +kernel
theorem dX2_countSecond_1 : decode cX2_countSecond 1 = .ok (.invokevirtual 76, 3) := by decide +kernel
theorem dX2_countSecond_4 : decode cX2_countSecond 4 = .ok (.ifCond .eq 16, 3) := by decide +kernel
theorem dX2_countSecond_7 : decode cX2_countSecond 7 = .ok (.aload_n 0, 1) := by decide +kernel
theorem dX2_countSecond_8 : decode cX2_countSecond 8 = .ok (.getfield 15, 3) := by decide +kernel
theorem dX2_countSecond_11 : decode cX2_countSecond 11 = .ok (.iconst 4, 1) := by decide +kernel
theorem dX2_countSecond_12 : decode cX2_countSecond 12 = .ok (.dup2, 1) := by decide +kernel
theorem dX2_countSecond_13 : decode cX2_countSecond 13 = .ok (.iaload, 1) := by decide +kernel
theorem dX2_countSecond_14 : decode cX2_countSecond 14 = .ok (.iconst 1, 1) := by decide +kernel
theorem dX2_countSecond_15 : decode cX2_countSecond 15 = .ok (.iadd, 1) := by decide +kernel
theorem dX2_countSecond_16 : decode cX2_countSecond 16 = .ok (.iastore, 1) := by decide +kernel
theorem dX2_countSecond_17 : decode cX2_countSecond 17 = .ok (.goto 21, 3) := by decide +kernel
theorem dX2_countSecond_20 : decode cX2_countSecond 20 = .ok (.aload_n 0, 1) := by decide +kernel
theorem dX2_countSecond_21 : decode cX2_countSecond 21 = .ok (.getfield 41, 3) := by decide +kernel
theorem dX2_countSecond_24 : decode cX2_countSecond 24 = .ok (.iconst 1, 1) := by decide +kernel
theorem dX2_countSecond_25 : decode cX2_countSecond 25 = .ok (.if_icmp .ne 13, 3) := by decide +kernel
theorem dX2_countSecond_28 : decode cX2_countSecond 28 = .ok (.aload_n 0, 1) := by decide +kernel
theorem dX2_countSecond_29 : decode cX2_countSecond 29 = .ok (.getfield 15, 3) := by decide +kernel
theorem dX2_countSecond_32 : decode cX2_countSecond 32 = .ok (.iconst 5, 1) := by decide +kernel
theorem dX2_countSecond_33 : decode cX2_countSecond 33 = .ok (.dup2, 1) := by decide +kernel
theorem dX2_countSecond_34 : decode cX2_countSecond 34 = .ok (.iaload, 1) := by decide +kernel
theorem dX2_countSecond_35 : decode cX2_countSecond 35 = .ok (.iconst 1, 1) := by decide +kernel
theorem dX2_countSecond_36 : decode cX2_countSecond 36 = .ok (.iadd, 1) := by decide +kernel
theorem dX2_countSecond_37 : decode cX2_countSecond 37 = .ok (.iastore, 1) := by decide +kernel
theorem dX2_countSecond_38 : decode cX2_countSecond 38 = .ok (.return_, 1) := by decide +kernel
theorem dX2_exchangeHeat_0 : decode cX2_exchangeHeat 0 = .ok (.aload_n 0, 1) := by decide +kernel
theorem dX2_exchangeHeat_1 : decode cX2_exchangeHeat 1 = .ok (.invokevirtual 80, 3) := by decide +kernel
theorem dX2_exchangeHeat_4 : decode cX2_exchangeHeat 4 = .ok (.invokestatic 83, 3) := by decide +kernel
theorem dX2_exchangeHeat_7 : decode cX2_exchangeHeat 7 = .ok (.istore_n 2, 1) := by decide +kernel
theorem dX2_exchangeHeat_8 : decode cX2_exchangeHeat 8 = .ok (.aload_n 0, 1) := by decide +kernel
theorem dX2_exchangeHeat_9 : decode cX2_exchangeHeat 9 = .ok (.getfield 47, 3) := by decide +kernel
theorem dX2_exchangeHeat_12 : decode cX2_exchangeHeat 12 = .ok (.ifCond .eq 7, 3) := by decide +kernel
theorem dX2_exchangeHeat_15 : decode cX2_exchangeHeat 15 = .ok (.iload_n 2, 1) := by decide +kernel
theorem dX2_exchangeHeat_16 : decode cX2_exchangeHeat 16 = .ok (.iconst 2, 1) := by decide +kernel
theorem dX2_exchangeHeat_17 : decode cX2_exchangeHeat 17 = .ok (.imul, 1) := by decide +kernel
theorem dX2_exchangeHeat_18 : decode cX2_exchangeHeat 18 = .ok (.istore_n 2, 1) := by decide +kernel
theorem dX2_exchangeHeat_19 : decode cX2_exchangeHeat 19 = .ok (.aload_n 0, 1) := by decide +kernel
theorem dX2_exchangeHeat_20 : decode cX2_exchangeHeat 20 = .ok (.dup, 1) := by decide +kernel
theorem dX2_exchangeHeat_21 : decode cX2_exchangeHeat 21 = .ok (.getfield 44, 3) := by decide +kernel
theorem dX2_exchangeHeat_24 : decode cX2_exchangeHeat 24 = .ok (.iload_n 2, 1) := by decide +kernel
theorem dX2_exchangeHeat_25 : decode cX2_exchangeHeat 25 = .ok (.iadd, 1) := by decide +kernel
theorem dX2_exchangeHeat_26 : decode cX2_exchangeHeat 26 = .ok (.putfield 44, 3) := by decide +kernel
theorem dX2_exchangeHeat_29 : decode cX2_exchangeHeat 29 = .ok (.aload_n 0, 1) := by decide +kernel
theorem dX2_exchangeHeat_30 : decode cX2_exchangeHeat 30 = .ok (.getfield 44, 3) := by decide +kernel
theorem dX2_exchangeHeat_33 : decode cX2_exchangeHeat 33 = .ok (.aload_n 0, 1) := by decide +kernel
theorem dX2_exchangeHeat_34 : decode cX2_exchangeHeat 34 = .ok (.invokevirtual 76, 3) := by decide +kernel
theorem dX2_exchangeHeat_37 : decode cX2_exchangeHeat 37 = .ok (.iload_n 1, 1) := by decide +kernel
theorem dX2_exchangeHeat_38 : decode cX2_exchangeHeat 38 = .ok (.invokestatic 87, 3) := by decide +kernel
theorem dX2_exchangeHeat_41 : decode cX2_exchangeHeat 41 = .ok (.istore_n 3, 1) := by decide +kernel
theorem dX2_exchangeHeat_42 : decode cX2_exchangeHeat 42 = .ok (.aload_n 0, 1) := by decide +kernel
theorem dX2_exchangeHeat_43 : decode cX2_exchangeHeat 43 = .ok (.dup, 1) := by decide +kernel
theorem dX2_exchangeHeat_44 : decode cX2_exchangeHeat 44 = .ok (.getfield 44, 3) := by decide +kernel
theorem dX2_exchangeHeat_47 : decode cX2_exchangeHeat 47 = .ok (.iload_n 3, 1) := by decide +kernel
theorem dX2_exchangeHeat_48 : decode cX2_exchangeHeat 48 = .ok (.isub, 1) := by decide +kernel
theorem dX2_exchangeHeat_49 : decode cX2_exchangeHeat 49 = .ok (.putfield 44, 3) := by decide +kernel
theorem dX2_exchangeHeat_52 : decode cX2_exchangeHeat 52 = .ok (.aload_n 0, 1) := by decide +kernel
theorem dX2_exchangeHeat_53 : decode cX2_exchangeHeat 53 = .ok (.getfield 15, 3) := by decide +kernel
theorem dX2_exchangeHeat_56 : decode cX2_exchangeHeat 56 = .ok (.iconst 0, 1) := by decide +kernel
theorem dX2_exchangeHeat_57 : decode cX2_exchangeHeat 57 = .ok (.dup2, 1) := by decide +kernel
theorem dX2_exchangeHeat_58 : decode cX2_exchangeHeat 58 = .ok (.iaload, 1) := by decide +kernel
theorem dX2_exchangeHeat_59 : decode cX2_exchangeHeat 59 = .ok (.iload_n 2, 1) := by decide +kernel
theorem dX2_exchangeHeat_60 : decode cX2_exchangeHeat 60 = .ok (.iadd, 1) := by decide +kernel
theorem dX2_exchangeHeat_61 : decode cX2_exchangeHeat 61 = .ok (.iastore, 1) := by decide +kernel
theorem dX2_exchangeHeat_62 : decode cX2_exchangeHeat 62 = .ok (.aload_n 0, 1) := by decide +kernel
theorem dX2_exchangeHeat_63 : decode cX2_exchangeHeat 63 = .ok (.getfield 15, 3) := by decide +kernel
theorem dX2_exchangeHeat_66 : decode cX2_exchangeHeat 66 = .ok (.iconst 1, 1) := by decide +kernel
theorem dX2_exchangeHeat_67 : decode cX2_exchangeHeat 67 = .ok (.dup2, 1) := by decide +kernel
theorem dX2_exchangeHeat_68 : decode cX2_exchangeHeat 68 = .ok (.iaload, 1) := by decide +kernel
theorem dX2_exchangeHeat_69 : decode cX2_exchangeHeat 69 = .ok (.iload_n 3, 1) := by decide +kernel
theorem dX2_exchangeHeat_70 : decode cX2_exchangeHeat 70 = .ok (.iadd, 1) := by decide +kernel
theorem dX2_exchangeHeat_71 : decode cX2_exchangeHeat 71 = .ok (.iastore, 1) := by decide +kernel
theorem dX2_exchangeHeat_72 : decode cX2_exchangeHeat 72 = .ok (.return_, 1) := by decide +kernel
theorem dX2_endSecond_0 : decode cX2_endSecond 0 = .ok (.aload_n 0, 1) := by decide +kernel
theorem dX2_endSecond_1 : decode cX2_endSecond 1 = .ok (.aload_n 0, 1) := by decide +kernel
theorem dX2_endSecond_2 : decode cX2_endSecond 2 = .ok (.getfield 41, 3) := by decide +kernel
theorem dX2_endSecond_5 : decode cX2_endSecond 5 = .ok (.iconst 3, 1) := by decide +kernel
theorem dX2_endSecond_6 : decode cX2_endSecond 6 = .ok (.if_icmp .ne 19, 3) := by decide +kernel
theorem dX2_endSecond_9 : decode cX2_endSecond 9 = .ok (.aload_n 0, 1) := by decide +kernel
theorem dX2_endSecond_10 : decode cX2_endSecond 10 = .ok (.getfield 47, 3) := by decide +kernel
theorem dX2_endSecond_13 : decode cX2_endSecond 13 = .ok (.ifCond .eq 12, 3) := by decide +kernel
theorem dX2_endSecond_16 : decode cX2_endSecond 16 = .ok (.aload_n 0, 1) := by decide +kernel
theorem dX2_endSecond_17 : decode cX2_endSecond 17 = .ok (.getfield 59, 3) := by decide +kernel
theorem dX2_endSecond_20 : decode cX2_endSecond 20 = .ok (.iconst 1, 1) := by decide +kernel
theorem dX2_endSecond_21 : decode cX2_endSecond 21 = .ok (.iadd, 1) := by decide +kernel
theorem dX2_endSecond_22 : decode cX2_endSecond 22 = .ok (.goto 4, 3) := by decide +kernel
theorem dX2_endSecond_25 : decode cX2_endSecond 25 = .ok (.iconst 0, 1) := by decide +kernel
theorem dX2_endSecond_26 : decode cX2_endSecond 26 = .ok (.putfield 59, 3) := by decide +kernel
theorem dX2_endSecond_29 : decode cX2_endSecond 29 = .ok (.aload_n 0, 1) := by decide +kernel
theorem dX2_endSecond_30 : decode cX2_endSecond 30 = .ok (.invokevirtual 76, 3) := by decide +kernel
theorem dX2_endSecond_33 : decode cX2_endSecond 33 = .ok (.ifCond .ne 5, 3) := by decide +kernel
theorem dX2_endSecond_36 : decode cX2_endSecond 36 = .ok (.iconst 0, 1) := by decide +kernel
theorem dX2_endSecond_37 : decode cX2_endSecond 37 = .ok (.ireturn, 1) := by decide +kernel
theorem dX2_endSecond_38 : decode cX2_endSecond 38 = .ok (.aload_n 0, 1) := by decide +kernel
theorem dX2_endSecond_39 : decode cX2_endSecond 39 = .ok (.getfield 44, 3) := by decide +kernel
theorem dX2_endSecond_42 : decode cX2_endSecond 42 = .ok (.aload_n 0, 1) := by decide +kernel
theorem dX2_endSecond_43 : decode cX2_endSecond 43 = .ok (.getfield 28, 3) := by decide +kernel
theorem dX2_endSecond_46 : decode cX2_endSecond 46 = .ok (.if_icmp .le 9, 3) := by decide +kernel
theorem dX2_endSecond_49 : decode cX2_endSecond 49 = .ok (.aload_n 0, 1) := by decide +kernel
theorem dX2_endSecond_50 : decode cX2_endSecond 50 = .ok (.iconst 2, 1) := by decide +kernel
theorem dX2_endSecond_51 : decode cX2_endSecond 51 = .ok (.invokevirtual 91, 3) := by decide +kernel
theorem dX2_endSecond_54 : decode cX2_endSecond 54 = .ok (.ireturn, 1) := by decide +kernel
theorem dX2_endSecond_55 : decode cX2_endSecond 55 = .ok (.aload_n 0, 1) := by decide +kernel
theorem dX2_endSecond_56 : decode cX2_endSecond 56 = .ok (.getfield 59, 3) := by decide +kernel
theorem dX2_endSecond_59 : decode cX2_endSecond 59 = .ok (.iconst 3, 1) := by decide +kernel
theorem dX2_endSecond_60 : decode cX2_endSecond 60 = .ok (.if_icmp .lt 9, 3) := by decide +kernel
theorem dX2_endSecond_63 : decode cX2_endSecond 63 = .ok (.aload_n 0, 1) := by decide +kernel
theorem dX2_endSecond_64 : decode cX2_endSecond 64 = .ok (.iconst 4, 1) := by decide +kernel
theorem dX2_endSecond_65 : decode cX2_endSecond 65 = .ok (.invokevirtual 91, 3) := by decide +kernel
theorem dX2_endSecond_68 : decode cX2_endSecond 68 = .ok (.ireturn, 1) := by decide +kernel
theorem dX2_endSecond_69 : decode cX2_endSecond 69 = .ok (.aload_n 0, 1) := by decide +kernel
theorem dX2_endSecond_70 : decode cX2_endSecond 70 = .ok (.getfield 41, 3) := by decide +kernel
theorem dX2_endSecond_73 : decode cX2_endSecond 73 = .ok (.iconst 3, 1) := by decide +kernel
theorem dX2_endSecond_74 : decode cX2_endSecond 74 = .ok (.if_icmp .ne 5, 3) := by decide +kernel
theorem dX2_endSecond_77 : decode cX2_endSecond 77 = .ok (.iconst 0, 1) := by decide +kernel
theorem dX2_endSecond_78 : decode cX2_endSecond 78 = .ok (.ireturn, 1) := by decide +kernel
theorem dX2_endSecond_79 : decode cX2_endSecond 79 = .ok (.aload_n 0, 1) := by decide +kernel
theorem dX2_endSecond_80 : decode cX2_endSecond 80 = .ok (.dup, 1) := by decide +kernel
theorem dX2_endSecond_81 : decode cX2_endSecond 81 = .ok (.getfield 50, 3) := by decide +kernel
theorem dX2_endSecond_84 : decode cX2_endSecond 84 = .ok (.iconst 1, 1) := by decide +kernel
theorem dX2_endSecond_85 : decode cX2_endSecond 85 = .ok (.iadd, 1) := by decide +kernel
theorem dX2_endSecond_86 : decode cX2_endSecond 86 = .ok (.putfield 50, 3) := by decide +kernel
theorem dX2_endSecond_89 : decode cX2_endSecond 89 = .ok (.aload_n 0, 1) := by decide +kernel
theorem dX2_endSecond_90 : decode cX2_endSecond 90 = .ok (.getfield 50, 3) := by decide +kernel
theorem dX2_endSecond_93 : decode cX2_endSecond 93 = .ok (.aload_n 0, 1) := by decide +kernel
theorem dX2_endSecond_94 : decode cX2_endSecond 94 = .ok (.getfield 22, 3) := by decide +kernel
theorem dX2_endSecond_97 : decode cX2_endSecond 97 = .ok (.if_icmp .ge 5, 3) := by decide +kernel
theorem dX2_endSecond_100 : decode cX2_endSecond 100 = .ok (.iconst 0, 1) := by decide +kernel
theorem dX2_endSecond_101 : decode cX2_endSecond 101 = .ok (.ireturn, 1) := by decide +kernel
theorem dX2_endSecond_102 : decode cX2_endSecond 102 = .ok (.aload_n 0, 1) := by decide +kernel
theorem dX2_endSecond_103 : decode cX2_endSecond 103 = .ok (.iconst 3, 1) := by decide +kernel
theorem dX2_endSecond_104 : decode cX2_endSecond 104 = .ok (.putfield 41, 3) := by decide +kernel
theorem dX2_endSecond_107 : decode cX2_endSecond 107 = .ok (.iconst 2, 1) := by decide +kernel
theorem dX2_endSecond_108 : decode cX2_endSecond 108 = .ok (.ireturn, 1) := by decide +kernel
theorem dX3_init_0 : decode cX3_init 0 = .ok (.aload_n 0, 1) := by decide +kernel
theorem dX3_init_1 : decode cX3_init 1 = .ok (.invokespecial 3, 3) := by decide +kernel
theorem dX3_init_4 : decode cX3_init 4 = .ok (.aload_n 0, 1) := by decide +kernel
theorem dX3_init_5 : decode cX3_init 5 = .ok (.bipush 8, 2) := by decide +kernel
theorem dX3_init_7 : decode cX3_init 7 = .ok (.anewarray 9, 3) := by decide +kernel
theorem dX3_init_10 : decode cX3_init 10 = .ok (.putfield 11, 3) := by decide +kernel
theorem dX3_init_13 : decode cX3_init 13 = .ok (.iconst 0, 1) := by decide +kernel
theorem dX3_init_14 : decode cX3_init 14 = .ok (.istore_n 1, 1) := by decide +kernel
theorem dX3_init_15 : decode cX3_init 15 = .ok (.iload_n 1, 1) := by decide +kernel
theorem dX3_init_16 : decode cX3_init 16 = .ok (.bipush 8, 2) := by decide +kernel
theorem dX3_init_18 : decode cX3_init 18 = .ok (.if_icmp .ge 23, 3) := by decide +kernel
theorem dX3_init_21 : decode cX3_init 21 = .ok (.aload_n 0, 1) := by decide +kernel
theorem dX3_init_22 : decode cX3_init 22 = .ok (.getfield 11, 3) := by decide +kernel
theorem dX3_init_25 : decode cX3_init 25 = .ok (.iload_n 1, 1) := by decide +kernel
theorem dX3_init_26 : decode cX3_init 26 = .ok (.new 9, 3) := by decide +kernel
theorem dX3_init_29 : decode cX3_init 29 = .ok (.dup, 1) := by decide +kernel
theorem dX3_init_30 : decode cX3_init 30 = .ok (.iload_n 1, 1) := by decide +kernel
theorem dX3_init_31 : decode cX3_init 31 = .ok (.invokespecial 17, 3) := by decide +kernel
theorem dX3_init_34 : decode cX3_init 34 = .ok (.aastore, 1) := by decide +kernel
theorem dX3_init_35 : decode cX3_init 35 = .ok (.iinc 1 1, 3) := by decide +kernel
theorem dX3_init_38 : decode cX3_init 38 = .ok (.goto (-23), 3) := by decide +kernel
theorem dX3_init_41 : decode cX3_init 41 = .ok (.aload_n 0, 1) := by decide +kernel
theorem dX3_init_42 : decode cX3_init 42 = .ok (.new 20, 3) := by decide +kernel
theorem dX3_init_45 : decode cX3_init 45 = .ok (.dup, 1) := by decide +kernel
theorem dX3_init_46 : decode cX3_init 46 = .ok (.invokespecial 22, 3) := by decide +kernel
theorem dX3_init_49 : decode cX3_init 49 = .ok (.putfield 23, 3) := by decide +kernel
theorem dX3_init_52 : decode cX3_init 52 = .ok (.aload_n 0, 1) := by decide +kernel
theorem dX3_init_53 : decode cX3_init 53 = .ok (.new 27, 3) := by decide +kernel
theorem dX3_init_56 : decode cX3_init 56 = .ok (.dup, 1) := by decide +kernel
theorem dX3_init_57 : decode cX3_init 57 = .ok (.invokespecial 29, 3) := by decide +kernel
theorem dX3_init_60 : decode cX3_init 60 = .ok (.putfield 30, 3) := by decide +kernel
theorem dX3_init_63 : decode cX3_init 63 = .ok (.aload_n 0, 1) := by decide +kernel
theorem dX3_init_64 : decode cX3_init 64 = .ok (.sipush 500, 3) := by decide +kernel
theorem dX3_init_67 : decode cX3_init 67 = .ok (.putfield 34, 3) := by decide +kernel
theorem dX3_init_70 : decode cX3_init 70 = .ok (.return_, 1) := by decide +kernel
theorem dX3_copyFrom_0 : decode cX3_copyFrom 0 = .ok (.iconst 0, 1) := by decide +kernel
theorem dX3_copyFrom_1 : decode cX3_copyFrom 1 = .ok (.istore_n 2, 1) := by decide +kernel
theorem dX3_copyFrom_2 : decode cX3_copyFrom 2 = .ok (.iload_n 2, 1) := by decide +kernel
theorem dX3_copyFrom_3 : decode cX3_copyFrom 3 = .ok (.aload_n 1, 1) := by decide +kernel
theorem dX3_copyFrom_4 : decode cX3_copyFrom 4 = .ok (.getfield 38, 3) := by decide +kernel
theorem dX3_copyFrom_7 : decode cX3_copyFrom 7 = .ok (.if_icmp .ge 24, 3) := by decide +kernel
theorem dX3_copyFrom_10 : decode cX3_copyFrom 10 = .ok (.aload_n 0, 1) := by decide +kernel
theorem dX3_copyFrom_11 : decode cX3_copyFrom 11 = .ok (.getfield 11, 3) := by decide +kernel
theorem dX3_copyFrom_14 : decode cX3_copyFrom 14 = .ok (.iload_n 2, 1) := by decide +kernel
theorem dX3_copyFrom_15 : decode cX3_copyFrom 15 = .ok (.aaload, 1) := by decide +kernel
theorem dX3_copyFrom_16 : decode cX3_copyFrom 16 = .ok (.aload_n 1, 1) := by decide +kernel
theorem dX3_copyFrom_17 : decode cX3_copyFrom 17 = .ok (.getfield 11, 3) := by decide +kernel
theorem dX3_copyFrom_20 : decode cX3_copyFrom 20 = .ok (.iload_n 2, 1) := by decide +kernel
theorem dX3_copyFrom_21 : decode cX3_copyFrom 21 = .ok (.aaload, 1) := by decide +kernel
theorem dX3_copyFrom_22 : decode cX3_copyFrom 22 = .ok (.invokevirtual 41, 3) := by decide +kernel
theorem dX3_copyFrom_25 : decode cX3_copyFrom 25 = .ok (.iinc 2 1, 3) := by decide +kernel
theorem dX3_copyFrom_28 : decode cX3_copyFrom 28 = .ok (.goto (-26), 3) := by decide +kernel
theorem dX3_copyFrom_31 : decode cX3_copyFrom 31 = .ok (.aload_n 0, 1) := by decide +kernel
theorem dX3_copyFrom_32 : decode cX3_copyFrom 32 = .ok (.getfield 23, 3) := by decide +kernel
theorem dX3_copyFrom_35 : decode cX3_copyFrom 35 = .ok (.aload_n 1, 1) := by decide +kernel
theorem dX3_copyFrom_36 : decode cX3_copyFrom 36 = .ok (.getfield 23, 3) := by decide +kernel
theorem dX3_copyFrom_39 : decode cX3_copyFrom 39 = .ok (.invokevirtual 45, 3) := by decide +kernel
theorem dX3_copyFrom_42 : decode cX3_copyFrom 42 = .ok (.aload_n 0, 1) := by decide +kernel
theorem dX3_copyFrom_43 : decode cX3_copyFrom 43 = .ok (.getfield 30, 3) := by decide +kernel
theorem dX3_copyFrom_46 : decode cX3_copyFrom 46 = .ok (.aload_n 1, 1) := by decide +kernel
theorem dX3_copyFrom_47 : decode cX3_copyFrom 47 = .ok (.getfield 30, 3) := by decide +kernel
theorem dX3_copyFrom_50 : decode cX3_copyFrom 50 = .ok (.invokevirtual 48, 3) := by decide +kernel
theorem dX3_copyFrom_53 : decode cX3_copyFrom 53 = .ok (.aload_n 0, 1) := by decide +kernel
theorem dX3_copyFrom_54 : decode cX3_copyFrom 54 = .ok (.aload_n 1, 1) := by decide +kernel
theorem dX3_copyFrom_55 : decode cX3_copyFrom 55 = .ok (.getfield 38, 3) := by decide +kernel
theorem dX3_copyFrom_58 : decode cX3_copyFrom 58 = .ok (.putfield 38, 3) := by decide +kernel
theorem dX3_copyFrom_61 : decode cX3_copyFrom 61 = .ok (.aload_n 0, 1) := by decide +kernel
theorem dX3_copyFrom_62 : decode cX3_copyFrom 62 = .ok (.aload_n 1, 1) := by decide +kernel
theorem dX3_copyFrom_63 : decode cX3_copyFrom 63 = .ok (.getfield 51, 3) := by decide +kernel
theorem dX3_copyFrom_66 : decode cX3_copyFrom 66 = .ok (.putfield 51, 3) := by decide +kernel
theorem dX3_copyFrom_69 : decode cX3_copyFrom 69 = .ok (.aload_n 0, 1) := by decide +kernel
theorem dX3_copyFrom_70 : decode cX3_copyFrom 70 = .ok (.aload_n 1, 1) := by decide +kernel
theorem dX3_copyFrom_71 : decode cX3_copyFrom 71 = .ok (.getfield 34, 3) := by decide +kernel
theorem dX3_copyFrom_74 : decode cX3_copyFrom 74 = .ok (.putfield 34, 3) := by decide +kernel
theorem dX3_copyFrom_77 : decode cX3_copyFrom 77 = .ok (.aload_n 0, 1) := by decide +kernel
theorem dX3_copyFrom_78 : decode cX3_copyFrom 78 = .ok (.aload_n 1, 1) := by decide +kernel
theorem dX3_copyFrom_79 : decode cX3_copyFrom 79 = .ok (.getfield 54, 3) := by decide +kernel
theorem dX3_copyFrom_82 : decode cX3_copyFrom 82 = .ok (.putfield 54, 3) := by decide +kernel
theorem dX3_copyFrom_85 : decode cX3_copyFrom 85 = .ok (.aload_n 0, 1) := by decide +kernel
theorem dX3_copyFrom_86 : decode cX3_copyFrom 86 = .ok (.aload_n 1, 1) := by decide +kernel
theorem dX3_copyFrom_87 : decode cX3_copyFrom 87 = .ok (.getfield 58, 3) := by decide +kernel
theorem dX3_copyFrom_90 : decode cX3_copyFrom 90 = .ok (.putfield 58, 3) := by decide +kernel
theorem dX3_copyFrom_93 : decode cX3_copyFrom 93 = .ok (.return_, 1) := by decide +kernel
theorem dX3_find_0 : decode cX3_find 0 = .ok (.iload_n 1, 1) := by decide +kernel
theorem dX3_find_1 : decode cX3_find 1 = .ok (.ifCond .lt 11, 3) := by decide +kernel
theorem dX3_find_4 : decode cX3_find 4 = .ok (.iload_n 1, 1) := by decide +kernel
theorem dX3_find_5 : decode cX3_find 5 = .ok (.aload_n 0, 1) := by decide +kernel
theorem dX3_find_6 : decode cX3_find 6 = .ok (.getfield 38, 3) := by decide +kernel
theorem dX3_find_9 : decode cX3_find 9 = .ok (.if_icmp .lt 7, 3) := by decide +kernel
theorem dX3_find_12 : decode cX3_find 12 = .ok (.aconst_null, 1) := by decide +kernel
theorem dX3_find_13 : decode cX3_find 13 = .ok (.goto 9, 3) := by decide +kernel
theorem dX3_find_16 : decode cX3_find 16 = .ok (.aload_n 0, 1) := by decide +kernel
theorem dX3_find_17 : decode cX3_find 17 = .ok (.getfield 11, 3) := by decide +kernel
theorem dX3_find_20 : decode cX3_find 20 = .ok (.iload_n 1, 1) := by decide +kernel
theorem dX3_find_21 : decode cX3_find 21 = .ok (.aaload, 1) := by decide +kernel
theorem dX3_find_22 : decode cX3_find 22 = .ok (.areturn, 1) := by decide +kernel
theorem dX3_note_0 : decode cX3_note 0 = .ok (.iload_n 2, 1) := by decide +kernel
theorem dX3_note_1 : decode cX3_note 1 = .ok (.ifCond .eq 19, 3) := by decide +kernel
theorem dX3_note_4 : decode cX3_note 4 = .ok (.aload_n 0, 1) := by decide +kernel
theorem dX3_note_5 : decode cX3_note 5 = .ok (.getfield 30, 3) := by decide +kernel
theorem dX3_note_8 : decode cX3_note 8 = .ok (.aload_n 0, 1) := by decide +kernel
theorem dX3_note_9 : decode cX3_note 9 = .ok (.getfield 51, 3) := by decide +kernel
theorem dX3_note_12 : decode cX3_note 12 = .ok (.aload_n 1, 1) := by decide +kernel
theorem dX3_note_13 : decode cX3_note 13 = .ok (.getfield 61, 3) := by decide +kernel
theorem dX3_note_16 : decode cX3_note 16 = .ok (.iload_n 2, 1) := by decide +kernel
theorem dX3_note_17 : decode cX3_note 17 = .ok (.invokevirtual 64, 3) := by decide +kernel
theorem dX3_note_20 : decode cX3_note 20 = .ok (.return_, 1) := by decide +kernel
theorem dX3_urgency_0 : decode cX3_urgency 0 = .ok (.aload_n 1, 1) := by decide +kernel
theorem dX3_urgency_1 : decode cX3_urgency 1 = .ok (.getfield 68, 3) := by decide +kernel
theorem dX3_urgency_4 : decode cX3_urgency 4 = .ok (.aload_n 0, 1) := by decide +kernel
theorem dX3_urgency_5 : decode cX3_urgency 5 = .ok (.getfield 51, 3) := by decide +kernel
theorem dX3_urgency_8 : decode cX3_urgency 8 = .ok (.aload_n 1, 1) := by decide +kernel
theorem dX3_urgency_9 : decode cX3_urgency 9 = .ok (.getfield 71, 3) := by decide +kernel
theorem dX3_urgency_12 : decode cX3_urgency 12 = .ok (.isub, 1) := by decide +kernel
theorem dX3_urgency_13 : decode cX3_urgency 13 = .ok (.bipush 10, 2) := by decide +kernel
theorem dX3_urgency_15 : decode cX3_urgency 15 = .ok (.idiv, 1) := by decide +kernel
theorem dX3_urgency_16 : decode cX3_urgency 16 = .ok (.iadd, 1) := by decide +kernel
theorem dX3_urgency_17 : decode cX3_urgency 17 = .ok (.ireturn, 1) := by decide +kernel
theorem dX3_isAhead_0 : decode cX3_isAhead 0 = .ok (.aload_n 0, 1) := by decide +kernel
theorem dX3_isAhead_1 : decode cX3_isAhead 1 = .ok (.getfield 11, 3) := by decide +kernel
theorem dX3_isAhead_4 : decode cX3_isAhead 4 = .ok (.iload_n 1, 1) := by decide +kernel
theorem dX3_isAhead_5 : decode cX3_isAhead 5 = .ok (.aaload, 1) := by decide +kernel
theorem dX3_isAhead_6 : decode cX3_isAhead 6 = .ok (.astore_n 3, 1) := by decide +kernel
theorem dX3_isAhead_7 : decode cX3_isAhead 7 = .ok (.aload_n 0, 1) := by decide +kernel
theorem dX3_isAhead_8 : decode cX3_isAhead 8 = .ok (.getfield 11, 3) := by decide +kernel
theorem dX3_isAhead_11 : decode cX3_isAhead 11 = .ok (.iload_n 2, 1) := by decide +kernel
theorem dX3_isAhead_12 : decode cX3_isAhead 12 = .ok (.aaload, 1) := by decide +kernel
theorem dX3_isAhead_13 : decode cX3_isAhead 13 = .ok (.astore 4, 2) := by decide +kernel
theorem dX3_isAhead_15 : decode cX3_isAhead 15 = .ok (.aload_n 0, 1) := by decide +kernel
theorem dX3_isAhead_16 : decode cX3_isAhead 16 = .ok (.aload_n 3, 1) := by decide +kernel
theorem dX3_isAhead_17 : decode cX3_isAhead 17 = .ok (.invokevirtual 74, 3) := by decide +kernel
theorem dX3_isAhead_20 : decode cX3_isAhead 20 = .ok (.istore 5, 2) := by decide +kernel
theorem dX3_isAhead_22 : decode cX3_isAhead 22 = .ok (.aload_n 0, 1) := by decide +kernel
theorem dX3_isAhead_23 : decode cX3_isAhead 23 = .ok (.aload 4, 2) := by decide +kernel
theorem dX3_isAhead_25 : decode cX3_isAhead 25 = .ok (.invokevirtual 74, 3) := by decide +kernel
theorem dX3_isAhead_28 : decode cX3_isAhead 28 = .ok (.istore 6, 2) := by decide +kernel
theorem dX3_isAhead_30 : decode cX3_isAhead 30 = .ok (.iload 5, 2) := by decide +kernel
theorem dX3_isAhead_32 : decode cX3_isAhead 32 = .ok (.iload 6, 2) := by decide +kernel
theorem dX3_isAhead_34 : decode cX3_isAhead 34 = .ok (.if_icmp .eq 16, 3) := by decide +kernel
theorem dX3_isAhead_37 : decode cX3_isAhead 37 = .ok (.iload 5, 2) := by decide +kernel
theorem dX3_isAhead_39 : decode cX3_isAhead 39 = .ok (.iload 6, 2) := by decide +kernel
theorem dX3_isAhead_41 : decode cX3_isAhead 41 = .ok (.if_icmp .le 7, 3) := by decide +kernel
theorem dX3_isAhead_44 : decode cX3_isAhead 44 = .ok (.iconst 1, 1) := by decide +kernel
theorem dX3_isAhead_45 : decode cX3_isAhead 45 = .ok (.goto 4, 3) := by decide +kernel
theorem dX3_isAhead_48 : decode cX3_isAhead 48 = .ok (.iconst 0, 1) := by decide +kernel
theorem dX3_isAhead_49 : decode cX3_isAhead 49 = .ok (.ireturn, 1) := by decide +kernel
theorem dX3_isAhead_50 : decode cX3_isAhead 50 = .ok (.aload_n 3, 1) := by decide +kernel
theorem dX3_isAhead_51 : decode cX3_isAhead 51 = .ok (.getfield 71, 3) := by decide +kernel
theorem dX3_isAhead_54 : decode cX3_isAhead 54 = .ok (.aload 4, 2) := by decide +kernel
theorem dX3_isAhead_56 : decode cX3_isAhead 56 = .ok (.getfield 71, 3) := by decide +kernel
theorem dX3_isAhead_59 : decode cX3_isAhead 59 = .ok (.if_icmp .eq 21, 3) := by decide +kernel
theorem dX3_isAhead_62 : decode cX3_isAhead 62 = .ok (.aload_n 3, 1) := by decide +kernel
theorem dX3_isAhead_63 : decode cX3_isAhead 63 = .ok (.getfield 71, 3) := by decide +kernel
theorem dX3_isAhead_66 : decode cX3_isAhead 66 = .ok (.aload 4, 2) := by decide +kernel
theorem dX3_isAhead_68 : decode cX3_isAhead 68 = .ok (.getfield 71, 3) := by decide +kernel
theorem dX3_isAhead_71 : decode cX3_isAhead 71 = .ok (.if_icmp .ge 7, 3) := by decide +kernel
theorem dX3_isAhead_74 : decode cX3_isAhead 74 = .ok (.iconst 1, 1) := by decide +kernel
theorem dX3_isAhead_75 : decode cX3_isAhead 75 = .ok (.goto 4, 3) := by decide +kernel
theorem dX3_isAhead_78 : decode cX3_isAhead 78 = .ok (.iconst 0, 1) := by decide +kernel
theorem dX3_isAhead_79 : decode cX3_isAhead 79 = .ok (.ireturn, 1) := by decide +kernel
theorem dX3_isAhead_80 : decode cX3_isAhead 80 = .ok (.iload_n 1, 1) := by decide +kernel
theorem dX3_isAhead_81 : decode cX3_isAhead 81 = .ok (.iload_n 2, 1) := by decide +kernel
theorem dX3_isAhead_82 : decode cX3_isAhead 82 = .ok (.if_icmp .ge 7, 3) := by decide +kernel
theorem dX3_isAhead_85 : decode cX3_isAhead 85 = .ok (.iconst 1, 1) := by decide +kernel
theorem dX3_isAhead_86 : decode cX3_isAhead 86 = .ok (.goto 4, 3) := by decide +kernel
theorem dX3_isAhead_89 : decode cX3_isAhead 89 = .ok (.iconst 0, 1) := by decide +kernel
theorem dX3_isAhead_90 : decode cX3_isAhead 90 = .ok (.ireturn, 1) := by decide +kernel
theorem dX3_reasonAgainst_0 : decode cX3_reasonAgainst 0 = .ok (.aload_n 1, 1) := by decide +kernel
theorem dX3_reasonAgainst_1 : decode cX3_reasonAgainst 1 = .ok (.getfield 78, 3) := by decide +kernel
theorem dX3_reasonAgainst_4 : decode cX3_reasonAgainst 4 = .ok (.ifCond .eq 5, 3) := by decide +kernel
theorem dX3_reasonAgainst_7 : decode cX3_reasonAgainst 7 = .ok (.iconst 4, 1) := by decide +kernel
theorem dX3_reasonAgainst_8 : decode cX3_reasonAgainst 8 = .ok (.ireturn, 1) := by decide +kernel
theorem dX3_reasonAgainst_9 : decode cX3_reasonAgainst 9 = .ok (.aload_n 1, 1) := by decide +kernel
theorem dX3_reasonAgainst_10 : decode cX3_reasonAgainst 10 = .ok (.invokevirtual 81, 3) := by decide +kernel
theorem dX3_reasonAgainst_13 : decode cX3_reasonAgainst 13 = .ok (.aload_n 1, 1) := by decide +kernel
theorem dX3_reasonAgainst_14 : decode cX3_reasonAgainst 14 = .ok (.getfield 85, 3) := by decide +kernel
theorem dX3_reasonAgainst_17 : decode cX3_reasonAgainst 17 = .ok (.if_icmp .ge 5, 3) := by decide +kernel
theorem dX3_reasonAgainst_20 : decode cX3_reasonAgainst 20 = .ok (.iconst 2, 1) := by decide +kernel
theorem dX3_reasonAgainst_21 : decode cX3_reasonAgainst 21 = .ok (.ireturn, 1) := by decide +kernel
theorem dX3_reasonAgainst_22 : decode cX3_reasonAgainst 22 = .ok (.aload_n 1, 1) := by decide +kernel
theorem dX3_reasonAgainst_23 : decode cX3_reasonAgainst 23 = .ok (.invokevirtual 88, 3) := by decide +kernel
theorem dX3_reasonAgainst_26 : decode cX3_reasonAgainst 26 = .ok (.aload_n 0, 1) := by decide +kernel
theorem dX3_reasonAgainst_27 : decode cX3_reasonAgainst 27 = .ok (.invokevirtual 91, 3) := by decide +kernel
theorem dX3_reasonAgainst_30 : decode cX3_reasonAgainst 30 = .ok (.iadd, 1) := by decide +kernel
theorem dX3_reasonAgainst_31 : decode cX3_reasonAgainst 31 = .ok (.aload_n 0, 1) := by decide +kernel
theorem dX3_reasonAgainst_32 : decode cX3_reasonAgainst 32 = .ok (.getfield 34, 3) := by decide +kernel
theorem dX3_reasonAgainst_35 : decode cX3_reasonAgainst 35 = .ok (.if_icmp .le 7, 3) := by decide +kernel
theorem dX3_reasonAgainst_38 : decode cX3_reasonAgainst 38 = .ok (.iconst 3, 1) := by decide +kernel
theorem dX3_reasonAgainst_39 : decode cX3_reasonAgainst 39 = .ok (.goto 4, 3) := by decide +kernel
theorem dX3_reasonAgainst_42 : decode cX3_reasonAgainst 42 = .ok (.iconst 0, 1) := by decide +kernel
theorem dX3_reasonAgainst_43 : decode cX3_reasonAgainst 43 = .ok (.ireturn, 1) := by decide +kernel
theorem dX3_takenCurrent_0 : decode cX3_takenCurrent 0 = .ok (.iconst 0, 1) := by decide +kernel
theorem dX3_takenCurrent_1 : decode cX3_takenCurrent 1 = .ok (.istore_n 1, 1) := by decide +kernel
theorem dX3_takenCurrent_2 : decode cX3_takenCurrent 2 = .ok (.iconst 0, 1) := by decide +kernel
theorem dX3_takenCurrent_3 : decode cX3_takenCurrent 3 = .ok (.istore_n 2, 1) := by decide +kernel
theorem dX3_takenCurrent_4 : decode cX3_takenCurrent 4 = .ok (.iload_n 2, 1) := by decide +kernel
theorem dX3_takenCurrent_5 : decode cX3_takenCurrent 5 = .ok (.aload_n 0, 1) := by decide +kernel
theorem dX3_takenCurrent_6 : decode cX3_takenCurrent 6 = .ok (.getfield 38, 3) := by decide +kernel
theorem dX3_takenCurrent_9 : decode cX3_takenCurrent 9 = .ok (.if_icmp .ge 38, 3) := by decide +kernel
theorem dX3_takenCurrent_12 : decode cX3_takenCurrent 12 = .ok (.aload_n 0, 1) := by decide +kernel
theorem dX3_takenCurrent_13 : decode cX3_takenCurrent 13 = .ok (.getfield 11, 3) := by decide +kernel
theorem dX3_takenCurrent_16 : decode cX3_takenCurrent 16 = .ok (.iload_n 2, 1) := by decide +kernel
theorem dX3_takenCurrent_17 : decode cX3_takenCurrent 17 = .ok (.aaload, 1) := by decide +kernel
theorem dX3_takenCurrent_18 : decode cX3_takenCurrent 18 = .ok (.astore_n 3, 1) := by decide +kernel
theorem dX3_takenCurrent_19 : decode cX3_takenCurrent 19 = .ok (.iload_n 1, 1) := by decide +kernel
theorem dX3_takenCurrent_20 : decode cX3_takenCurrent 20 = .ok (.aload_n 3, 1) := by decide +kernel
theorem dX3_takenCurrent_21 : decode cX3_takenCurrent 21 = .ok (.getfield 94, 3) := by decide +kernel
theorem dX3_takenCurrent_24 : decode cX3_takenCurrent 24 = .ok (.iconst 2, 1) := by decide +kernel
theorem dX3_takenCurrent_25 : decode cX3_takenCurrent 25 = .ok (.if_icmp .ne 10, 3) := by decide +kernel
theorem dX3_takenCurrent_28 : decode cX3_takenCurrent 28 = .ok (.aload_n 3, 1) := by decide +kernel
theorem dX3_takenCurrent_29 : decode cX3_takenCurrent 29 = .ok (.invokevirtual 88, 3) := by decide +kernel
theorem dX3_takenCurrent_32 : decode cX3_takenCurrent 32 = .ok (.goto 7, 3) := by decide +kernel
theorem dX3_takenCurrent_35 : decode cX3_takenCurrent 35 = .ok (.aload_n 3, 1) := by decide +kernel
theorem dX3_takenCurrent_36 : decode cX3_takenCurrent 36 = .ok (.invokevirtual 97, 3) := by decide +kernel
theorem dX3_takenCurrent_39 : decode cX3_takenCurrent 39 = .ok (.iadd, 1) := by decide +kernel
theorem dX3_takenCurrent_40 : decode cX3_takenCurrent 40 = .ok (.istore_n 1, 1) := by decide +kernel
theorem dX3_takenCurrent_41 : decode cX3_takenCurrent 41 = .ok (.iinc 2 1, 3) := by decide +kernel
theorem dX3_takenCurrent_44 : decode cX3_takenCurrent 44 = .ok (.goto (-40), 3) := by decide +kernel
theorem dX3_takenCurrent_47 : decode cX3_takenCurrent 47 = .ok (.iload_n 1, 1) := by decide +kernel
theorem dX3_takenCurrent_48 : decode cX3_takenCurrent 48 = .ok (.ireturn, 1) := by decide +kernel
theorem dX3_motorsInMode_0 : decode cX3_motorsInMode 0 = .ok (.iconst 0, 1) := by decide +kernel
theorem dX3_motorsInMode_1 : decode cX3_motorsInMode 1 = .ok (.istore_n 2, 1) := by decide +kernel
theorem dX3_motorsInMode_2 : decode cX3_motorsInMode 2 = .ok (.iconst 0, 1) := by decide +kernel
theorem dX3_motorsInMode_3 : decode cX3_motorsInMode 3 = .ok (.istore_n 3, 1) := by decide +kernel
theorem dX3_motorsInMode_4 : decode cX3_motorsInMode 4 = .ok (.iload_n 3, 1) := by decide +kernel
theorem dX3_motorsInMode_5 : decode cX3_motorsInMode 5 = .ok (.aload_n 0, 1) := by decide +kernel
theorem dX3_motorsInMode_6 : decode cX3_motorsInMode 6 = .ok (.getfield 38, 3) := by decide +kernel
theorem dX3_motorsInMode_9 : decode cX3_motorsInMode 9 = .ok (.if_icmp .ge 25, 3) := by decide +kernel
theorem dX3_motorsInMode_12 : decode cX3_motorsInMode 12 = .ok (.aload_n 0, 1) := by decide +kernel
theorem dX3_motorsInMode_13 : decode cX3_motorsInMode 13 = .ok (.getfield 11, 3) := by decide +kernel
theorem dX3_motorsInMode_16 : decode cX3_motorsInMode 16 = .ok (.iload_n 3, 1) := by decide +kernel
theorem dX3_motorsInMode_17 : decode cX3_motorsInMode 17 = .ok (.aaload, 1) := by decide +kernel
theorem dX3_motorsInMode_18 : decode cX3_motorsInMode 18 = .ok (.getfield 94, 3) := by decide +kernel
theorem dX3_motorsInMode_21 : decode cX3_motorsInMode 21 = .ok (.iload_n 1, 1) := by decide +kernel
theorem dX3_motorsInMode_22 : decode cX3_motorsInMode 22 = .ok (.if_icmp .ne 6, 3) := by decide +kernel
theorem dX3_motorsInMode_25 : decode cX3_motorsInMode 25 = .ok (.iinc 2 1, 3) := by decide +kernel
theorem dX3_motorsInMode_28 : decode cX3_motorsInMode 28 = .ok (.iinc 3 1, 3) := by decide +kernel
theorem dX3_motorsInMode_31 : decode cX3_motorsInMode 31 = .ok (.goto (-27), 3) := by decide +kernel
theorem dX3_motorsInMode_34 : decode cX3_motorsInMode 34 = .ok (.iload_n 2, 1) := by decide +kernel
theorem dX3_motorsInMode_35 : decode cX3_motorsInMode 35 = .ok (.ireturn, 1) := by decide +kernel
theorem dX3_sumOfAccount_0 : decode cX3_sumOfAccount 0 = .ok (.iconst 0, 1) := by decide +kernel
theorem dX3_sumOfAccount_1 : decode cX3_sumOfAccount 1 = .ok (.istore_n 2, 1) := by decide +kernel
theorem dX3_sumOfAccount_2 : decode cX3_sumOfAccount 2 = .ok (.iconst 0, 1) := by decide +kernel
theorem dX3_sumOfAccount_3 : decode cX3_sumOfAccount 3 = .ok (.istore_n 3, 1) := by decide +kernel
theorem dX3_sumOfAccount_4 : decode cX3_sumOfAccount 4 = .ok (.iload_n 3, 1) := by decide +kernel
theorem dX3_sumOfAccount_5 : decode cX3_sumOfAccount 5 = .ok (.aload_n 0, 1) := by decide +kernel
theorem dX3_sumOfAccount_6 : decode cX3_sumOfAccount 6 = .ok (.getfield 38, 3) := by decide +kernel
theorem dX3_sumOfAccount_9 : decode cX3_sumOfAccount 9 = .ok (.if_icmp .ge 23, 3) := by decide +kernel
theorem dX3_sumOfAccount_12 : decode cX3_sumOfAccount 12 = .ok (.iload_n 2, 1) := by decide +kernel
theorem dX3_sumOfAccount_13 : decode cX3_sumOfAccount 13 = .ok (.aload_n 0, 1) := by decide +kernel
theorem dX3_sumOfAccount_14 : decode cX3_sumOfAccount 14 = .ok (.getfield 11, 3) := by decide +kernel
theorem dX3_sumOfAccount_17 : decode cX3_sumOfAccount 17 = .ok (.iload_n 3, 1) := by decide +kernel
theorem dX3_sumOfAccount_18 : decode cX3_sumOfAccount 18 = .ok (.aaload, 1) := by decide +kernel
theorem dX3_sumOfAccount_19 : decode cX3_sumOfAccount 19 = .ok (.getfield 100, 3) := by decide +kernel
theorem dX3_sumOfAccount_22 : decode cX3_sumOfAccount 22 = .ok (.iload_n 1, 1) := by decide +kernel
theorem dX3_sumOfAccount_23 : decode cX3_sumOfAccount 23 = .ok (.iaload, 1) := by decide +kernel
theorem dX3_sumOfAccount_24 : decode cX3_sumOfAccount 24 = .ok (.iadd, 1) := by decide +kernel
theorem dX3_sumOfAccount_25 : decode cX3_sumOfAccount 25 = .ok (.istore_n 2, 1) := by decide +kernel
theorem dX3_sumOfAccount_26 : decode cX3_sumOfAccount 26 = .ok (.iinc 3 1, 3) := by decide +kernel
theorem dX3_sumOfAccount_29 : decode cX3_sumOfAccount 29 = .ok (.goto (-25), 3) := by decide +kernel
theorem dX3_sumOfAccount_32 : decode cX3_sumOfAccount 32 = .ok (.iload_n 2, 1) := by decide +kernel
theorem dX3_sumOfAccount_33 : decode cX3_sumOfAccount 33 = .ok (.ireturn, 1) := by decide +kernel
theorem dX3_sumOfHeat_0 : decode cX3_sumOfHeat 0 = .ok (.iconst 0, 1) := by decide +kernel
theorem dX3_sumOfHeat_1 : decode cX3_sumOfHeat 1 = .ok (.istore_n 1, 1) := by decide +kernel
theorem dX3_sumOfHeat_2 : decode cX3_sumOfHeat 2 = .ok (.iconst 0, 1) := by decide +kernel
theorem dX3_sumOfHeat_3 : decode cX3_sumOfHeat 3 = .ok (.istore_n 2, 1) := by decide +kernel
theorem dX3_sumOfHeat_4 : decode cX3_sumOfHeat 4 = .ok (.iload_n 2, 1) := by decide +kernel
theorem dX3_sumOfHeat_5 : decode cX3_sumOfHeat 5 = .ok (.aload_n 0, 1) := by decide +kernel
theorem dX3_sumOfHeat_6 : decode cX3_sumOfHeat 6 = .ok (.getfield 38, 3) := by decide +kernel
theorem dX3_sumOfHeat_9 : decode cX3_sumOfHeat 9 = .ok (.if_icmp .ge 21, 3) := by decide +kernel
theorem dX3_sumOfHeat_12 : decode cX3_sumOfHeat 12 = .ok (.iload_n 1, 1) := by decide +kernel
theorem dX3_sumOfHeat_13 : decode cX3_sumOfHeat 13 = .ok (.aload_n 0, 1) := by decide +kernel
theorem dX3_sumOfHeat_14 : decode cX3_sumOfHeat 14 = .ok (.getfield 11, 3) := by decide +kernel
theorem dX3_sumOfHeat_17 : decode cX3_sumOfHeat 17 = .ok (.iload_n 2, 1) := by decide +kernel
theorem dX3_sumOfHeat_18 : decode cX3_sumOfHeat 18 = .ok (.aaload, 1) := by decide +kernel
theorem dX3_sumOfHeat_19 : decode cX3_sumOfHeat 19 = .ok (.getfield 104, 3) := by decide +kernel
theorem dX3_sumOfHeat_22 : decode cX3_sumOfHeat 22 = .ok (.iadd, 1) := by decide +kernel
theorem dX3_sumOfHeat_23 : decode cX3_sumOfHeat 23 = .ok (.istore_n 1, 1) := by decide +kernel
theorem dX3_sumOfHeat_24 : decode cX3_sumOfHeat 24 = .ok (.iinc 2 1, 3) := by decide +kernel
theorem dX3_sumOfHeat_27 : decode cX3_sumOfHeat 27 = .ok (.goto (-23), 3) := by decide +kernel
theorem dX3_sumOfHeat_30 : decode cX3_sumOfHeat 30 = .ok (.iload_n 1, 1) := by decide +kernel
theorem dX3_sumOfHeat_31 : decode cX3_sumOfHeat 31 = .ok (.ireturn, 1) := by decide +kernel
theorem dX3_sumOfDraws_0 : decode cX3_sumOfDraws 0 = .ok (.iconst 0, 1) := by decide +kernel
theorem dX3_sumOfDraws_1 : decode cX3_sumOfDraws 1 = .ok (.istore_n 1, 1) := by decide +kernel
theorem dX3_sumOfDraws_2 : decode cX3_sumOfDraws 2 = .ok (.iconst 0, 1) := by decide +kernel
theorem dX3_sumOfDraws_3 : decode cX3_sumOfDraws 3 = .ok (.istore_n 2, 1) := by decide +kernel
theorem dX3_sumOfDraws_4 : decode cX3_sumOfDraws 4 = .ok (.iload_n 2, 1) := by decide +kernel
theorem dX3_sumOfDraws_5 : decode cX3_sumOfDraws 5 = .ok (.aload_n 0, 1) := by decide +kernel
theorem dX3_sumOfDraws_6 : decode cX3_sumOfDraws 6 = .ok (.getfield 38, 3) := by decide +kernel
theorem dX3_sumOfDraws_9 : decode cX3_sumOfDraws 9 = .ok (.if_icmp .ge 21, 3) := by decide +kernel
theorem dX3_sumOfDraws_12 : decode cX3_sumOfDraws 12 = .ok (.iload_n 1, 1) := by decide +kernel
theorem dX3_sumOfDraws_13 : decode cX3_sumOfDraws 13 = .ok (.aload_n 0, 1) := by decide +kernel
theorem dX3_sumOfDraws_14 : decode cX3_sumOfDraws 14 = .ok (.getfield 11, 3) := by decide +kernel
theorem dX3_sumOfDraws_17 : decode cX3_sumOfDraws 17 = .ok (.iload_n 2, 1) := by decide +kernel
theorem dX3_sumOfDraws_18 : decode cX3_sumOfDraws 18 = .ok (.aaload, 1) := by decide +kernel
theorem dX3_sumOfDraws_19 : decode cX3_sumOfDraws 19 = .ok (.invokevirtual 97, 3) := by decide +kernel
theorem dX3_sumOfDraws_22 : decode cX3_sumOfDraws 22 = .ok (.iadd, 1) := by decide +kernel
theorem dX3_sumOfDraws_23 : decode cX3_sumOfDraws 23 = .ok (.istore_n 1, 1) := by decide +kernel
theorem dX3_sumOfDraws_24 : decode cX3_sumOfDraws 24 = .ok (.iinc 2 1, 3) := by decide +kernel
theorem dX3_sumOfDraws_27 : decode cX3_sumOfDraws 27 = .ok (.goto (-23), 3) := by decide +kernel
theorem dX3_sumOfDraws_30 : decode cX3_sumOfDraws 30 = .ok (.iload_n 1, 1) := by decide +kernel
theorem dX3_sumOfDraws_31 : decode cX3_sumOfDraws 31 = .ok (.ireturn, 1) := by decide +kernel
theorem dX4_init_0 : decode cX4_init 0 = .ok (.aload_n 0, 1) := by decide +kernel
theorem dX4_init_1 : decode cX4_init 1 = .ok (.invokespecial 3, 3) := by decide +kernel
theorem dX4_init_4 : decode cX4_init 4 = .ok (.aload_n 0, 1) := by decide +kernel
theorem dX4_init_5 : decode cX4_init 5 = .ok (.bipush 10, 2) := by decide +kernel
theorem dX4_init_7 : decode cX4_init 7 = .ok (.newarray .int, 2) := by decide +kernel
theorem dX4_init_9 : decode cX4_init 9 = .ok (.putfield 9, 3) := by decide +kernel
theorem dX4_init_12 : decode cX4_init 12 = .ok (.aload_n 0, 1) := by decide +kernel
theorem dX4_init_13 : decode cX4_init 13 = .ok (.bipush 10, 2) := by decide +kernel
theorem dX4_init_15 : decode cX4_init 15 = .ok (.newarray .int, 2) := by decide +kernel
theorem dX4_init_17 : decode cX4_init 17 = .ok (.putfield 15, 3) := by decide +kernel
theorem dX4_init_20 : decode cX4_init 20 = .ok (.aload_n 0, 1) := by decide +kernel
theorem dX4_init_21 : decode cX4_init 21 = .ok (.bipush 10, 2) := by decide +kernel
theorem dX4_init_23 : decode cX4_init 23 = .ok (.newarray .int, 2) := by decide +kernel
theorem dX4_init_25 : decode cX4_init 25 = .ok (.putfield 18, 3) := by decide +kernel
theorem dX4_init_28 : decode cX4_init 28 = .ok (.aload_n 0, 1) := by decide +kernel
theorem dX4_init_29 : decode cX4_init 29 = .ok (.bipush 10, 2) := by decide +kernel
theorem dX4_init_31 : decode cX4_init 31 = .ok (.newarray .int, 2) := by decide +kernel
theorem dX4_init_33 : decode cX4_init 33 = .ok (.putfield 21, 3) := by decide +kernel
theorem dX4_init_36 : decode cX4_init 36 = .ok (.return_, 1) := by decide +kernel
theorem dX4_copyFrom_0 : decode cX4_copyFrom 0 = .ok (.aload_n 1, 1) := by decide +kernel
theorem dX4_copyFrom_1 : decode cX4_copyFrom 1 = .ok (.getfield 9, 3) := by decide +kernel
theorem dX4_copyFrom_4 : decode cX4_copyFrom 4 = .ok (.iconst 0, 1) := by decide +kernel
theorem dX4_copyFrom_5 : decode cX4_copyFrom 5 = .ok (.aload_n 0, 1) := by decide +kernel
theorem dX4_copyFrom_6 : decode cX4_copyFrom 6 = .ok (.getfield 9, 3) := by decide +kernel
theorem dX4_copyFrom_9 : decode cX4_copyFrom 9 = .ok (.iconst 0, 1) := by decide +kernel
theorem dX4_copyFrom_10 : decode cX4_copyFrom 10 = .ok (.bipush 10, 2) := by decide +kernel
theorem dX4_copyFrom_12 : decode cX4_copyFrom 12 = .ok (.invokestatic 24, 3) := by decide +kernel
theorem dX4_copyFrom_15 : decode cX4_copyFrom 15 = .ok (.aload_n 1, 1) := by decide +kernel
theorem dX4_copyFrom_16 : decode cX4_copyFrom 16 = .ok (.getfield 15, 3) := by decide +kernel
theorem dX4_copyFrom_19 : decode cX4_copyFrom 19 = .ok (.iconst 0, 1) := by decide +kernel
theorem dX4_copyFrom_20 : decode cX4_copyFrom 20 = .ok (.aload_n 0, 1) := by decide +kernel
theorem dX4_copyFrom_21 : decode cX4_copyFrom 21 = .ok (.getfield 15, 3) := by decide +kernel
theorem dX4_copyFrom_24 : decode cX4_copyFrom 24 = .ok (.iconst 0, 1) := by decide +kernel
theorem dX4_copyFrom_25 : decode cX4_copyFrom 25 = .ok (.bipush 10, 2) := by decide +kernel
theorem dX4_copyFrom_27 : decode cX4_copyFrom 27 = .ok (.invokestatic 24, 3) := by decide +kernel
theorem dX4_copyFrom_30 : decode cX4_copyFrom 30 = .ok (.aload_n 1, 1) := by decide +kernel
theorem dX4_copyFrom_31 : decode cX4_copyFrom 31 = .ok (.getfield 18, 3) := by decide +kernel
theorem dX4_copyFrom_34 : decode cX4_copyFrom 34 = .ok (.iconst 0, 1) := by decide +kernel
theorem dX4_copyFrom_35 : decode cX4_copyFrom 35 = .ok (.aload_n 0, 1) := by decide +kernel
theorem dX4_copyFrom_36 : decode cX4_copyFrom 36 = .ok (.getfield 18, 3) := by decide +kernel
theorem dX4_copyFrom_39 : decode cX4_copyFrom 39 = .ok (.iconst 0, 1) := by decide +kernel
theorem dX4_copyFrom_40 : decode cX4_copyFrom 40 = .ok (.bipush 10, 2) := by decide +kernel
theorem dX4_copyFrom_42 : decode cX4_copyFrom 42 = .ok (.invokestatic 24, 3) := by decide +kernel
theorem dX4_copyFrom_45 : decode cX4_copyFrom 45 = .ok (.aload_n 1, 1) := by decide +kernel
theorem dX4_copyFrom_46 : decode cX4_copyFrom 46 = .ok (.getfield 21, 3) := by decide +kernel
theorem dX4_copyFrom_49 : decode cX4_copyFrom 49 = .ok (.iconst 0, 1) := by decide +kernel
theorem dX4_copyFrom_50 : decode cX4_copyFrom 50 = .ok (.aload_n 0, 1) := by decide +kernel
theorem dX4_copyFrom_51 : decode cX4_copyFrom 51 = .ok (.getfield 21, 3) := by decide +kernel
theorem dX4_copyFrom_54 : decode cX4_copyFrom 54 = .ok (.iconst 0, 1) := by decide +kernel
theorem dX4_copyFrom_55 : decode cX4_copyFrom 55 = .ok (.bipush 10, 2) := by decide +kernel
theorem dX4_copyFrom_57 : decode cX4_copyFrom 57 = .ok (.invokestatic 24, 3) := by decide +kernel
theorem dX4_copyFrom_60 : decode cX4_copyFrom 60 = .ok (.aload_n 0, 1) := by decide +kernel
theorem dX4_copyFrom_61 : decode cX4_copyFrom 61 = .ok (.aload_n 1, 1) := by decide +kernel
theorem dX4_copyFrom_62 : decode cX4_copyFrom 62 = .ok (.getfield 30, 3) := by decide +kernel
theorem dX4_copyFrom_65 : decode cX4_copyFrom 65 = .ok (.putfield 30, 3) := by decide +kernel
theorem dX4_copyFrom_68 : decode cX4_copyFrom 68 = .ok (.aload_n 0, 1) := by decide +kernel
theorem dX4_copyFrom_69 : decode cX4_copyFrom 69 = .ok (.aload_n 1, 1) := by decide +kernel
theorem dX4_copyFrom_70 : decode cX4_copyFrom 70 = .ok (.getfield 34, 3) := by decide +kernel
theorem dX4_copyFrom_73 : decode cX4_copyFrom 73 = .ok (.putfield 34, 3) := by decide +kernel
theorem dX4_copyFrom_76 : decode cX4_copyFrom 76 = .ok (.return_, 1) := by decide +kernel
theorem dX4_empty_0 : decode cX4_empty 0 = .ok (.aload_n 0, 1) := by decide +kernel
theorem dX4_empty_1 : decode cX4_empty 1 = .ok (.iconst 0, 1) := by decide +kernel
theorem dX4_empty_2 : decode cX4_empty 2 = .ok (.putfield 30, 3) := by decide +kernel
theorem dX4_empty_5 : decode cX4_empty 5 = .ok (.aload_n 0, 1) := by decide +kernel
theorem dX4_empty_6 : decode cX4_empty 6 = .ok (.iconst 0, 1) := by decide +kernel
theorem dX4_empty_7 : decode cX4_empty 7 = .ok (.putfield 34, 3) := by decide +kernel
theorem dX4_empty_10 : decode cX4_empty 10 = .ok (.return_, 1) := by decide +kernel
theorem dX4_add_0 : decode cX4_add 0 = .ok (.aload_n 0, 1) := by decide +kernel
theorem dX4_add_1 : decode cX4_add 1 = .ok (.getfield 30, 3) := by decide +kernel
theorem dX4_add_4 : decode cX4_add 4 = .ok (.bipush 10, 2) := by decide +kernel
theorem dX4_add_6 : decode cX4_add 6 = .ok (.if_icmp .ge 54, 3) := by decide +kernel
theorem dX4_add_9 : decode cX4_add 9 = .ok (.aload_n 0, 1) := by decide +kernel
theorem dX4_add_10 : decode cX4_add 10 = .ok (.getfield 9, 3) := by decide +kernel
theorem dX4_add_13 : decode cX4_add 13 = .ok (.aload_n 0, 1) := by decide +kernel
theorem dX4_add_14 : decode cX4_add 14 = .ok (.getfield 30, 3) := by decide +kernel
theorem dX4_add_17 : decode cX4_add 17 = .ok (.iload_n 1, 1) := by decide +kernel
theorem dX4_add_18 : decode cX4_add 18 = .ok (.iastore, 1) := by decide +kernel
theorem dX4_add_19 : decode cX4_add 19 = .ok (.aload_n 0, 1) := by decide +kernel
theorem dX4_add_20 : decode cX4_add 20 = .ok (.getfield 15, 3) := by decide +kernel
theorem dX4_add_23 : decode cX4_add 23 = .ok (.aload_n 0, 1) := by decide +kernel
theorem dX4_add_24 : decode cX4_add 24 = .ok (.getfield 30, 3) := by decide +kernel
theorem dX4_add_27 : decode cX4_add 27 = .ok (.iload_n 2, 1) := by decide +kernel
theorem dX4_add_28 : decode cX4_add 28 = .ok (.iastore, 1) := by decide +kernel
theorem dX4_add_29 : decode cX4_add 29 = .ok (.aload_n 0, 1) := by decide +kernel
theorem dX4_add_30 : decode cX4_add 30 = .ok (.getfield 18, 3) := by decide +kernel
theorem dX4_add_33 : decode cX4_add 33 = .ok (.aload_n 0, 1) := by decide +kernel
theorem dX4_add_34 : decode cX4_add 34 = .ok (.getfield 30, 3) := by decide +kernel
theorem dX4_add_37 : decode cX4_add 37 = .ok (.iload_n 3, 1) := by decide +kernel
theorem dX4_add_38 : decode cX4_add 38 = .ok (.iastore, 1) := by decide +kernel
theorem dX4_add_39 : decode cX4_add 39 = .ok (.aload_n 0, 1) := by decide +kernel
theorem dX4_add_40 : decode cX4_add 40 = .ok (.getfield 21, 3) := by decide +kernel
theorem dX4_add_43 : decode cX4_add 43 = .ok (.aload_n 0, 1) := by decide +kernel
theorem dX4_add_44 : decode cX4_add 44 = .ok (.getfield 30, 3) := by decide +kernel
theorem dX4_add_47 : decode cX4_add 47 = .ok (.iload 4, 2) := by decide +kernel
theorem dX4_add_49 : decode cX4_add 49 = .ok (.iastore, 1) := by decide +kernel
theorem dX4_add_50 : decode cX4_add 50 = .ok (.aload_n 0, 1) := by decide +kernel
theorem dX4_add_51 : decode cX4_add 51 = .ok (.dup, 1) := by decide +kernel
theorem dX4_add_52 : decode cX4_add 52 = .ok (.getfield 30, 3) := by decide +kernel
theorem dX4_add_55 : decode cX4_add 55 = .ok (.iconst 1, 1) := by decide +kernel
theorem dX4_add_56 : decode cX4_add 56 = .ok (.iadd, 1) := by decide +kernel
theorem dX4_add_57 : decode cX4_add 57 = .ok (.putfield 30, 3) := by decide +kernel
theorem dX4_add_60 : decode cX4_add 60 = .ok (.return_, 1) := by decide +kernel
theorem dX4_left_0 : decode cX4_left 0 = .ok (.aload_n 0, 1) := by decide +kernel
theorem dX4_left_1 : decode cX4_left 1 = .ok (.getfield 30, 3) := by decide +kernel
theorem dX4_left_4 : decode cX4_left 4 = .ok (.aload_n 0, 1) := by decide +kernel
theorem dX4_left_5 : decode cX4_left 5 = .ok (.getfield 34, 3) := by decide +kernel
theorem dX4_left_8 : decode cX4_left 8 = .ok (.isub, 1) := by decide +kernel
theorem dX4_left_9 : decode cX4_left 9 = .ok (.ireturn, 1) := by decide +kernel
theorem dX5_init_0 : decode cX5_init 0 = .ok (.aload_n 0, 1) := by decide +kernel
theorem dX5_init_1 : decode cX5_init 1 = .ok (.invokespecial 3, 3) := by decide +kernel
theorem dX5_init_4 : decode cX5_init 4 = .ok (.aload_n 0, 1) := by decide +kernel
theorem dX5_init_5 : decode cX5_init 5 = .ok (.bipush 80, 2) := by decide +kernel
theorem dX5_init_7 : decode cX5_init 7 = .ok (.newarray .char, 2) := by decide +kernel
theorem dX5_init_9 : decode cX5_init 9 = .ok (.putfield 9, 3) := by decide +kernel
theorem dX5_init_12 : decode cX5_init 12 = .ok (.return_, 1) := by decide +kernel
theorem dX5_readInto_0 : decode cX5_readInto 0 = .ok (.aload_n 0, 1) := by decide +kernel
theorem dX5_readInto_1 : decode cX5_readInto 1 = .ok (.iconst 0, 1) := by decide +kernel
theorem dX5_readInto_2 : decode cX5_readInto 2 = .ok (.putfield 15, 3) := by decide +kernel
theorem dX5_readInto_5 : decode cX5_readInto 5 = .ok (.aload_n 0, 1) := by decide +kernel
theorem dX5_readInto_6 : decode cX5_readInto 6 = .ok (.iconst 0, 1) := by decide +kernel
theorem dX5_readInto_7 : decode cX5_readInto 7 = .ok (.putfield 19, 3) := by decide +kernel
theorem dX5_readInto_10 : decode cX5_readInto 10 = .ok (.aload_n 1, 1) := by decide +kernel
theorem dX5_readInto_11 : decode cX5_readInto 11 = .ok (.invokevirtual 22, 3) := by decide +kernel
theorem dX5_readInto_14 : decode cX5_readInto 14 = .ok (.iconst 0, 1) := by decide +kernel
theorem dX5_readInto_15 : decode cX5_readInto 15 = .ok (.istore_n 3, 1) := by decide +kernel
theorem dX5_readInto_16 : decode cX5_readInto 16 = .ok (.iload_n 3, 1) := by decide +kernel
theorem dX5_readInto_17 : decode cX5_readInto 17 = .ok (.aload_n 0, 1) := by decide +kernel
theorem dX5_readInto_18 : decode cX5_readInto 18 = .ok (.getfield 27, 3) := by decide +kernel
theorem dX5_readInto_21 : decode cX5_readInto 21 = .ok (.if_icmp .gt 79, 3) := by decide +kernel
theorem dX5_readInto_24 : decode cX5_readInto 24 = .ok (.aload_n 0, 1) := by decide +kernel
theorem dX5_readInto_25 : decode cX5_readInto 25 = .ok (.invokevirtual 30, 3) := by decide +kernel
theorem dX5_readInto_28 : decode cX5_readInto 28 = .ok (.ifCond .ne 5, 3) := by decide +kernel
theorem dX5_readInto_31 : decode cX5_readInto 31 = .ok (.iconst 0, 1) := by decide +kernel
theorem dX5_readInto_32 : decode cX5_readInto 32 = .ok (.ireturn, 1) := by decide +kernel
theorem dX5_readInto_33 : decode cX5_readInto 33 = .ok (.aload_n 1, 1) := by decide +kernel
theorem dX5_readInto_34 : decode cX5_readInto 34 = .ok (.iload_n 2, 1) := by decide +kernel
theorem dX5_readInto_35 : decode cX5_readInto 35 = .ok (.aload_n 0, 1) := by decide +kernel
theorem dX5_readInto_36 : decode cX5_readInto 36 = .ok (.getfield 19, 3) := by decide +kernel
theorem dX5_readInto_39 : decode cX5_readInto 39 = .ok (.iadd, 1) := by decide +kernel
theorem dX5_readInto_40 : decode cX5_readInto 40 = .ok (.aload_n 0, 1) := by decide +kernel
theorem dX5_readInto_41 : decode cX5_readInto 41 = .ok (.getfield 34, 3) := by decide +kernel
theorem dX5_readInto_44 : decode cX5_readInto 44 = .ok (.aload_n 0, 1) := by decide +kernel
theorem dX5_readInto_45 : decode cX5_readInto 45 = .ok (.getfield 37, 3) := by decide +kernel
theorem dX5_readInto_48 : decode cX5_readInto 48 = .ok (.aload_n 0, 1) := by decide +kernel
theorem dX5_readInto_49 : decode cX5_readInto 49 = .ok (.getfield 40, 3) := by decide +kernel
theorem dX5_readInto_52 : decode cX5_readInto 52 = .ok (.invokevirtual 43, 3) := by decide +kernel
theorem dX5_readInto_55 : decode cX5_readInto 55 = .ok (.aload_n 0, 1) := by decide +kernel
theorem dX5_readInto_56 : decode cX5_readInto 56 = .ok (.getfield 15, 3) := by decide +kernel
theorem dX5_readInto_59 : decode cX5_readInto 59 = .ok (.aload_n 0, 1) := by decide +kernel
theorem dX5_readInto_60 : decode cX5_readInto 60 = .ok (.getfield 27, 3) := by decide +kernel
theorem dX5_readInto_63 : decode cX5_readInto 63 = .ok (.if_icmp .lt 5, 3) := by decide +kernel
theorem dX5_readInto_66 : decode cX5_readInto 66 = .ok (.iconst 1, 1) := by decide +kernel
theorem dX5_readInto_67 : decode cX5_readInto 67 = .ok (.ireturn, 1) := by decide +kernel
theorem dX5_readInto_68 : decode cX5_readInto 68 = .ok (.aload_n 0, 1) := by decide +kernel
theorem dX5_readInto_69 : decode cX5_readInto 69 = .ok (.getfield 9, 3) := by decide +kernel
theorem dX5_readInto_72 : decode cX5_readInto 72 = .ok (.aload_n 0, 1) := by decide +kernel
theorem dX5_readInto_73 : decode cX5_readInto 73 = .ok (.getfield 15, 3) := by decide +kernel
theorem dX5_readInto_76 : decode cX5_readInto 76 = .ok (.caload, 1) := by decide +kernel
theorem dX5_readInto_77 : decode cX5_readInto 77 = .ok (.bipush 59, 2) := by decide +kernel
theorem dX5_readInto_79 : decode cX5_readInto 79 = .ok (.if_icmp .eq 5, 3) := by decide +kernel
theorem dX5_readInto_82 : decode cX5_readInto 82 = .ok (.iconst 0, 1) := by decide +kernel
theorem dX5_readInto_83 : decode cX5_readInto 83 = .ok (.ireturn, 1) := by decide +kernel
theorem dX5_readInto_84 : decode cX5_readInto 84 = .ok (.aload_n 0, 1) := by decide +kernel
theorem dX5_readInto_85 : decode cX5_readInto 85 = .ok (.dup, 1) := by decide +kernel
theorem dX5_readInto_86 : decode cX5_readInto 86 = .ok (.getfield 15, 3) := by decide +kernel
theorem dX5_readInto_89 : decode cX5_readInto 89 = .ok (.iconst 1, 1) := by decide +kernel
theorem dX5_readInto_90 : decode cX5_readInto 90 = .ok (.iadd, 1) := by decide +kernel
theorem dX5_readInto_91 : decode cX5_readInto 91 = .ok (.putfield 15, 3) := by decide +kernel
theorem dX5_readInto_94 : decode cX5_readInto 94 = .ok (.iinc 3 1, 3) := by decide +kernel
theorem dX5_readInto_97 : decode cX5_readInto 97 = .ok (.goto (-81), 3) := by decide +kernel
theorem dX5_readInto_100 : decode cX5_readInto 100 = .ok (.iconst 0, 1) := by decide +kernel
theorem dX5_readInto_101 : decode cX5_readInto 101 = .ok (.ireturn, 1) := by decide +kernel
theorem dX5_readItem_0 : decode cX5_readItem 0 = .ok (.aload_n 0, 1) := by decide +kernel
theorem dX5_readItem_1 : decode cX5_readItem 1 = .ok (.invokevirtual 47, 3) := by decide +kernel
theorem dX5_readItem_4 : decode cX5_readItem 4 = .ok (.ifCond .eq 35, 3) := by decide +kernel
theorem dX5_readItem_7 : decode cX5_readItem 7 = .ok (.aload_n 0, 1) := by decide +kernel
theorem dX5_readItem_8 : decode cX5_readItem 8 = .ok (.invokevirtual 50, 3) := by decide +kernel
theorem dX5_readItem_11 : decode cX5_readItem 11 = .ok (.ifCond .eq 28, 3) := by decide +kernel
theorem dX5_readItem_14 : decode cX5_readItem 14 = .ok (.aload_n 0, 1) := by decide +kernel
theorem dX5_readItem_15 : decode cX5_readItem 15 = .ok (.invokevirtual 53, 3) := by decide +kernel
theorem dX5_readItem_18 : decode cX5_readItem 18 = .ok (.ifCond .eq 21, 3) := by decide +kernel
theorem dX5_readItem_21 : decode cX5_readItem 21 = .ok (.aload_n 0, 1) := by decide +kernel
theorem dX5_readItem_22 : decode cX5_readItem 22 = .ok (.invokevirtual 50, 3) := by decide +kernel
theorem dX5_readItem_25 : decode cX5_readItem 25 = .ok (.ifCond .eq 14, 3) := by decide +kernel
theorem dX5_readItem_28 : decode cX5_readItem 28 = .ok (.aload_n 0, 1) := by decide +kernel
theorem dX5_readItem_29 : decode cX5_readItem 29 = .ok (.invokevirtual 56, 3) := by decide +kernel
theorem dX5_readItem_32 : decode cX5_readItem 32 = .ok (.ifCond .eq 7, 3) := by decide +kernel
theorem dX5_readItem_35 : decode cX5_readItem 35 = .ok (.iconst 1, 1) := by decide +kernel
theorem dX5_readItem_36 : decode cX5_readItem 36 = .ok (.goto 4, 3) := by decide +kernel
theorem dX5_readItem_39 : decode cX5_readItem 39 = .ok (.iconst 0, 1) := by decide +kernel
theorem dX5_readItem_40 : decode cX5_readItem 40 = .ok (.ireturn, 1) := by decide +kernel
theorem dX5_partEnd_0 : decode cX5_partEnd 0 = .ok (.aload_n 0, 1) := by decide +kernel
theorem dX5_partEnd_1 : decode cX5_partEnd 1 = .ok (.getfield 15, 3) := by decide +kernel
theorem dX5_partEnd_4 : decode cX5_partEnd 4 = .ok (.istore_n 1, 1) := by decide +kernel
theorem dX5_partEnd_5 : decode cX5_partEnd 5 = .ok (.iload_n 1, 1) := by decide +kernel
theorem dX5_partEnd_6 : decode cX5_partEnd 6 = .ok (.aload_n 0, 1) := by decide +kernel
theorem dX5_partEnd_7 : decode cX5_partEnd 7 = .ok (.getfield 27, 3) := by decide +kernel
theorem dX5_partEnd_10 : decode cX5_partEnd 10 = .ok (.if_icmp .ge 33, 3) := by decide +kernel
theorem dX5_partEnd_13 : decode cX5_partEnd 13 = .ok (.aload_n 0, 1) := by decide +kernel
theorem dX5_partEnd_14 : decode cX5_partEnd 14 = .ok (.getfield 9, 3) := by decide +kernel
theorem dX5_partEnd_17 : decode cX5_partEnd 17 = .ok (.iload_n 1, 1) := by decide +kernel
theorem dX5_partEnd_18 : decode cX5_partEnd 18 = .ok (.caload, 1) := by decide +kernel
theorem dX5_partEnd_19 : decode cX5_partEnd 19 = .ok (.bipush 32, 2) := by decide +kernel
theorem dX5_partEnd_21 : decode cX5_partEnd 21 = .ok (.if_icmp .eq 14, 3) := by decide +kernel
theorem dX5_partEnd_24 : decode cX5_partEnd 24 = .ok (.aload_n 0, 1) := by decide +kernel
theorem dX5_partEnd_25 : decode cX5_partEnd 25 = .ok (.getfield 9, 3) := by decide +kernel
theorem dX5_partEnd_28 : decode cX5_partEnd 28 = .ok (.iload_n 1, 1) := by decide +kernel
theorem dX5_partEnd_29 : decode cX5_partEnd 29 = .ok (.caload, 1) := by decide +kernel
theorem dX5_partEnd_30 : decode cX5_partEnd 30 = .ok (.bipush 59, 2) := by decide +kernel
theorem dX5_partEnd_32 : decode cX5_partEnd 32 = .ok (.if_icmp .ne 5, 3) := by decide +kernel
theorem dX5_partEnd_35 : decode cX5_partEnd 35 = .ok (.iload_n 1, 1) := by decide +kernel
theorem dX5_partEnd_36 : decode cX5_partEnd 36 = .ok (.ireturn, 1) := by decide +kernel
theorem dX5_partEnd_37 : decode cX5_partEnd 37 = .ok (.iinc 1 1, 3) := by decide +kernel
theorem dX5_partEnd_40 : decode cX5_partEnd 40 = .ok (.goto (-35), 3) := by decide +kernel
theorem dX5_partEnd_43 : decode cX5_partEnd 43 = .ok (.aload_n 0, 1) := by decide +kernel
theorem dX5_partEnd_44 : decode cX5_partEnd 44 = .ok (.getfield 27, 3) := by decide +kernel
theorem dX5_partEnd_47 : decode cX5_partEnd 47 = .ok (.ireturn, 1) := by decide +kernel
theorem dX5_readBlank_0 : decode cX5_readBlank 0 = .ok (.aload_n 0, 1) := by decide +kernel
theorem dX5_readBlank_1 : decode cX5_readBlank 1 = .ok (.getfield 15, 3) := by decide +kernel
theorem dX5_readBlank_4 : decode cX5_readBlank 4 = .ok (.aload_n 0, 1) := by decide +kernel
theorem dX5_readBlank_5 : decode cX5_readBlank 5 = .ok (.getfield 27, 3) := by decide +kernel
theorem dX5_readBlank_8 : decode cX5_readBlank 8 = .ok (.if_icmp .ge 17, 3) := by decide +kernel
theorem dX5_readBlank_11 : decode cX5_readBlank 11 = .ok (.aload_n 0, 1) := by decide +kernel
theorem dX5_readBlank_12 : decode cX5_readBlank 12 = .ok (.getfield 9, 3) := by decide +kernel
theorem dX5_readBlank_15 : decode cX5_readBlank 15 = .ok (.aload_n 0, 1) := by decide +kernel
theorem dX5_readBlank_16 : decode cX5_readBlank 16 = .ok (.getfield 15, 3) := by decide +kernel
theorem dX5_readBlank_19 : decode cX5_readBlank 19 = .ok (.caload, 1) := by decide +kernel
theorem dX5_readBlank_20 : decode cX5_readBlank 20 = .ok (.bipush 32, 2) := by decide +kernel
theorem dX5_readBlank_22 : decode cX5_readBlank 22 = .ok (.if_icmp .eq 5, 3) := by decide +kernel
theorem dX5_readBlank_25 : decode cX5_readBlank 25 = .ok (.iconst 0, 1) := by decide +kernel
theorem dX5_readBlank_26 : decode cX5_readBlank 26 = .ok (.ireturn, 1) := by decide +kernel
theorem dX5_readBlank_27 : decode cX5_readBlank 27 = .ok (.aload_n 0, 1) := by decide +kernel
theorem dX5_readBlank_28 : decode cX5_readBlank 28 = .ok (.dup, 1) := by decide +kernel
theorem dX5_readBlank_29 : decode cX5_readBlank 29 = .ok (.getfield 15, 3) := by decide +kernel
theorem dX5_readBlank_32 : decode cX5_readBlank 32 = .ok (.iconst 1, 1) := by decide +kernel
theorem dX5_readBlank_33 : decode cX5_readBlank 33 = .ok (.iadd, 1) := by decide +kernel
theorem dX5_readBlank_34 : decode cX5_readBlank 34 = .ok (.putfield 15, 3) := by decide +kernel
theorem dX5_readBlank_37 : decode cX5_readBlank 37 = .ok (.iconst 1, 1) := by decide +kernel
theorem dX5_readBlank_38 : decode cX5_readBlank 38 = .ok (.ireturn, 1) := by decide +kernel
theorem dX5_readTime_0 : decode cX5_readTime 0 = .ok (.aload_n 0, 1) := by decide +kernel
theorem dX5_readTime_1 : decode cX5_readTime 1 = .ok (.invokevirtual 59, 3) := by decide +kernel
theorem dX5_readTime_4 : decode cX5_readTime 4 = .ok (.istore_n 1, 1) := by decide +kernel
theorem dX5_readTime_5 : decode cX5_readTime 5 = .ok (.iload_n 1, 1) := by decide +kernel
theorem dX5_readTime_6 : decode cX5_readTime 6 = .ok (.aload_n 0, 1) := by decide +kernel
theorem dX5_readTime_7 : decode cX5_readTime 7 = .ok (.getfield 15, 3) := by decide +kernel
theorem dX5_readTime_10 : decode cX5_readTime 10 = .ok (.isub, 1) := by decide +kernel
theorem dX5_readTime_11 : decode cX5_readTime 11 = .ok (.istore_n 2, 1) := by decide +kernel
theorem dX5_readTime_12 : decode cX5_readTime 12 = .ok (.iload_n 2, 1) := by decide +kernel
theorem dX5_readTime_13 : decode cX5_readTime 13 = .ok (.iconst 1, 1) := by decide +kernel
theorem dX5_readTime_14 : decode cX5_readTime 14 = .ok (.iconst 4, 1) := by decide +kernel
theorem dX5_readTime_15 : decode cX5_readTime 15 = .ok (.invokestatic 63, 3) := by decide +kernel
theorem dX5_readTime_18 : decode cX5_readTime 18 = .ok (.ifCond .ne 22, 3) := by decide +kernel
theorem dX5_readTime_21 : decode cX5_readTime 21 = .ok (.iload_n 2, 1) := by decide +kernel
theorem dX5_readTime_22 : decode cX5_readTime 22 = .ok (.iconst 1, 1) := by decide +kernel
theorem dX5_readTime_23 : decode cX5_readTime 23 = .ok (.if_icmp .le 19, 3) := by decide +kernel
theorem dX5_readTime_26 : decode cX5_readTime 26 = .ok (.aload_n 0, 1) := by decide +kernel
theorem dX5_readTime_27 : decode cX5_readTime 27 = .ok (.getfield 9, 3) := by decide +kernel
theorem dX5_readTime_30 : decode cX5_readTime 30 = .ok (.aload_n 0, 1) := by decide +kernel
theorem dX5_readTime_31 : decode cX5_readTime 31 = .ok (.getfield 15, 3) := by decide +kernel
theorem dX5_readTime_34 : decode cX5_readTime 34 = .ok (.caload, 1) := by decide +kernel
theorem dX5_readTime_35 : decode cX5_readTime 35 = .ok (.bipush 48, 2) := by decide +kernel
theorem dX5_readTime_37 : decode cX5_readTime 37 = .ok (.if_icmp .ne 5, 3) := by decide +kernel
theorem dX5_readTime_40 : decode cX5_readTime 40 = .ok (.iconst 0, 1) := by decide +kernel
theorem dX5_readTime_41 : decode cX5_readTime 41 = .ok (.ireturn, 1) := by decide +kernel
theorem dX5_readTime_42 : decode cX5_readTime 42 = .ok (.iconst 0, 1) := by decide +kernel
theorem dX5_readTime_43 : decode cX5_readTime 43 = .ok (.istore_n 3, 1) := by decide +kernel
theorem dX5_readTime_44 : decode cX5_readTime 44 = .ok (.aload_n 0, 1) := by decide +kernel
theorem dX5_readTime_45 : decode cX5_readTime 45 = .ok (.getfield 15, 3) := by decide +kernel
theorem dX5_readTime_48 : decode cX5_readTime 48 = .ok (.istore 4, 2) := by decide +kernel
theorem dX5_readTime_50 : decode cX5_readTime 50 = .ok (.iload 4, 2) := by decide +kernel
theorem dX5_readTime_52 : decode cX5_readTime 52 = .ok (.iload_n 1, 1) := by decide +kernel
theorem dX5_readTime_53 : decode cX5_readTime 53 = .ok (.if_icmp .ge 44, 3) := by decide +kernel
theorem dX5_readTime_56 : decode cX5_readTime 56 = .ok (.aload_n 0, 1) := by decide +kernel
theorem dX5_readTime_57 : decode cX5_readTime 57 = .ok (.getfield 9, 3) := by decide +kernel
theorem dX5_readTime_60 : decode cX5_readTime 60 = .ok (.iload 4, 2) := by decide +kernel
theorem dX5_readTime_62 : decode cX5_readTime 62 = .ok (.caload, 1) := by decide +kernel
theorem dX5_readTime_63 : decode cX5_readTime 63 = .ok (.bipush 48, 2) := by decide +kernel
theorem dX5_readTime_65 : decode cX5_readTime 65 = .ok (.bipush 57, 2) := by decide +kernel
theorem dX5_readTime_67 : decode cX5_readTime 67 = .ok (.invokestatic 63, 3) := by decide +kernel
theorem dX5_readTime_70 : decode cX5_readTime 70 = .ok (.ifCond .eq 5, 3) := by decide +kernel
theorem dX5_readTime_73 : decode cX5_readTime 73 = .ok (.iconst 0, 1) := by decide +kernel
theorem dX5_readTime_74 : decode cX5_readTime 74 = .ok (.ireturn, 1) := by decide +kernel
theorem dX5_readTime_75 : decode cX5_readTime 75 = .ok (.iload_n 3, 1) := by decide +kernel
theorem dX5_readTime_76 : decode cX5_readTime 76 = .ok (.bipush 10, 2) := by decide +kernel
theorem dX5_readTime_78 : decode cX5_readTime 78 = .ok (.imul, 1) := by decide +kernel
theorem dX5_readTime_79 : decode cX5_readTime 79 = .ok (.aload_n 0, 1) := by decide +kernel
theorem dX5_readTime_80 : decode cX5_readTime 80 = .ok (.getfield 9, 3) := by decide +kernel
theorem dX5_readTime_83 : decode cX5_readTime 83 = .ok (.iload 4, 2) := by decide +kernel
theorem dX5_readTime_85 : decode cX5_readTime 85 = .ok (.caload, 1) := by decide +kernel
theorem dX5_readTime_86 : decode cX5_readTime 86 = .ok (.bipush 48, 2) := by decide +kernel
theorem dX5_readTime_88 : decode cX5_readTime 88 = .ok (.isub, 1) := by decide +kernel
theorem dX5_readTime_89 : decode cX5_readTime 89 = .ok (.iadd, 1) := by decide +kernel
theorem dX5_readTime_90 : decode cX5_readTime 90 = .ok (.istore_n 3, 1) := by decide +kernel
theorem dX5_readTime_91 : decode cX5_readTime 91 = .ok (.iinc 4 1, 3) := by decide +kernel
theorem dX5_readTime_94 : decode cX5_readTime 94 = .ok (.goto (-44), 3) := by decide +kernel
theorem dX5_readTime_97 : decode cX5_readTime 97 = .ok (.iload_n 3, 1) := by decide +kernel
theorem dX5_readTime_98 : decode cX5_readTime 98 = .ok (.aload_n 0, 1) := by decide +kernel
theorem dX5_readTime_99 : decode cX5_readTime 99 = .ok (.getfield 19, 3) := by decide +kernel
theorem dX5_readTime_102 : decode cX5_readTime 102 = .ok (.if_icmp .ge 5, 3) := by decide +kernel
theorem dX5_readTime_105 : decode cX5_readTime 105 = .ok (.iconst 0, 1) := by decide +kernel
theorem dX5_readTime_106 : decode cX5_readTime 106 = .ok (.ireturn, 1) := by decide +kernel
theorem dX5_readTime_107 : decode cX5_readTime 107 = .ok (.aload_n 0, 1) := by decide +kernel
theorem dX5_readTime_108 : decode cX5_readTime 108 = .ok (.iload_n 3, 1) := by decide +kernel
theorem dX5_readTime_109 : decode cX5_readTime 109 = .ok (.putfield 19, 3) := by decide +kernel
theorem dX5_readTime_112 : decode cX5_readTime 112 = .ok (.aload_n 0, 1) := by decide +kernel
theorem dX5_readTime_113 : decode cX5_readTime 113 = .ok (.iload_n 1, 1) := by decide +kernel
theorem dX5_readTime_114 : decode cX5_readTime 114 = .ok (.putfield 15, 3) := by decide +kernel
theorem dX5_readTime_117 : decode cX5_readTime 117 = .ok (.iconst 1, 1) := by decide +kernel
theorem dX5_readTime_118 : decode cX5_readTime 118 = .ok (.ireturn, 1) := by decide +kernel
theorem dX5_readOrder_0 : decode cX5_readOrder 0 = .ok (.aload_n 0, 1) := by decide +kernel
theorem dX5_readOrder_1 : decode cX5_readOrder 1 = .ok (.invokevirtual 59, 3) := by decide +kernel
theorem dX5_readOrder_4 : decode cX5_readOrder 4 = .ok (.istore_n 1, 1) := by decide +kernel
theorem dX5_readOrder_5 : decode cX5_readOrder 5 = .ok (.iconst 0, 1) := by decide +kernel
theorem dX5_readOrder_6 : decode cX5_readOrder 6 = .ok (.istore_n 2, 1) := by decide +kernel
theorem dX5_readOrder_7 : decode cX5_readOrder 7 = .ok (.iload_n 2, 1) := by decide +kernel
theorem dX5_readOrder_8 : decode cX5_readOrder 8 = .ok (.iconst 5, 1) := by decide +kernel
theorem dX5_readOrder_9 : decode cX5_readOrder 9 = .ok (.if_icmp .ge 33, 3) := by decide +kernel
theorem dX5_readOrder_12 : decode cX5_readOrder 12 = .ok (.aload_n 0, 1) := by decide +kernel
theorem dX5_readOrder_13 : decode cX5_readOrder 13 = .ok (.iload_n 2, 1) := by decide +kernel
theorem dX5_readOrder_14 : decode cX5_readOrder 14 = .ok (.invokestatic 67, 3) := by decide +kernel
theorem dX5_readOrder_17 : decode cX5_readOrder 17 = .ok (.iload_n 1, 1) := by decide +kernel
theorem dX5_readOrder_18 : decode cX5_readOrder 18 = .ok (.invokevirtual 71, 3) := by decide +kernel
theorem dX5_readOrder_21 : decode cX5_readOrder 21 = .ok (.ifCond .eq 15, 3) := by decide +kernel
theorem dX5_readOrder_24 : decode cX5_readOrder 24 = .ok (.aload_n 0, 1) := by decide +kernel
theorem dX5_readOrder_25 : decode cX5_readOrder 25 = .ok (.iload_n 2, 1) := by decide +kernel
theorem dX5_readOrder_26 : decode cX5_readOrder 26 = .ok (.putfield 34, 3) := by decide +kernel
theorem dX5_readOrder_29 : decode cX5_readOrder 29 = .ok (.aload_n 0, 1) := by decide +kernel
theorem dX5_readOrder_30 : decode cX5_readOrder 30 = .ok (.iload_n 1, 1) := by decide +kernel
theorem dX5_readOrder_31 : decode cX5_readOrder 31 = .ok (.putfield 15, 3) := by decide +kernel
theorem dX5_readOrder_34 : decode cX5_readOrder 34 = .ok (.iconst 1, 1) := by decide +kernel
theorem dX5_readOrder_35 : decode cX5_readOrder 35 = .ok (.ireturn, 1) := by decide +kernel
theorem dX5_readOrder_36 : decode cX5_readOrder 36 = .ok (.iinc 2 1, 3) := by decide +kernel
theorem dX5_readOrder_39 : decode cX5_readOrder 39 = .ok (.goto (-32), 3) := by decide +kernel
theorem dX5_readOrder_42 : decode cX5_readOrder 42 = .ok (.iconst 0, 1) := by decide +kernel
theorem dX5_readOrder_43 : decode cX5_readOrder 43 = .ok (.ireturn, 1) := by decide +kernel
theorem dX5_wordOf_0 : decode cX5_wordOf 0 = .ok (.iload_n 0, 1) := by decide +kernel
theorem dX5_wordOf_1 : decode cX5_wordOf 1 = .ok (.tableswitch 43 0 3 #[31, 34, 37, 40], 31) := by decide +kernel
theorem dX5_wordOf_32 : decode cX5_wordOf 32 = .ok (.ldc 75, 2) := by decide +kernel
theorem dX5_wordOf_34 : decode cX5_wordOf 34 = .ok (.areturn, 1) := by decide +kernel
theorem dX5_wordOf_35 : decode cX5_wordOf 35 = .ok (.ldc 77, 2) := by decide +kernel
theorem dX5_wordOf_37 : decode cX5_wordOf 37 = .ok (.areturn, 1) := by decide +kernel
theorem dX5_wordOf_38 : decode cX5_wordOf 38 = .ok (.ldc 79, 2) := by decide +kernel
theorem dX5_wordOf_40 : decode cX5_wordOf 40 = .ok (.areturn, 1) := by decide +kernel
theorem dX5_wordOf_41 : decode cX5_wordOf 41 = .ok (.ldc 81, 2) := by decide +kernel
theorem dX5_wordOf_43 : decode cX5_wordOf 43 = .ok (.areturn, 1) := by decide +kernel
theorem dX5_wordOf_44 : decode cX5_wordOf 44 = .ok (.ldc 83, 2) := by decide +kernel
theorem dX5_wordOf_46 : decode cX5_wordOf 46 = .ok (.areturn, 1) := by decide +kernel
theorem dX5_isPart_0 : decode cX5_isPart 0 = .ok (.aload_n 1, 1) := by decide +kernel
theorem dX5_isPart_1 : decode cX5_isPart 1 = .ok (.invokevirtual 85, 3) := by decide +kernel
theorem dX5_isPart_4 : decode cX5_isPart 4 = .ok (.iload_n 2, 1) := by decide +kernel
theorem dX5_isPart_5 : decode cX5_isPart 5 = .ok (.aload_n 0, 1) := by decide +kernel
theorem dX5_isPart_6 : decode cX5_isPart 6 = .ok (.getfield 15, 3) := by decide +kernel
theorem dX5_isPart_9 : decode cX5_isPart 9 = .ok (.isub, 1) := by decide +kernel
theorem dX5_isPart_10 : decode cX5_isPart 10 = .ok (.if_icmp .eq 5, 3) := by decide +kernel
theorem dX5_isPart_13 : decode cX5_isPart 13 = .ok (.iconst 0, 1) := by decide +kernel
theorem dX5_isPart_14 : decode cX5_isPart 14 = .ok (.ireturn, 1) := by decide +kernel
theorem dX5_isPart_15 : decode cX5_isPart 15 = .ok (.iconst 0, 1) := by decide +kernel
theorem dX5_isPart_16 : decode cX5_isPart 16 = .ok (.istore_n 3, 1) := by decide +kernel
theorem dX5_isPart_17 : decode cX5_isPart 17 = .ok (.iload_n 3, 1) := by decide +kernel
theorem dX5_isPart_18 : decode cX5_isPart 18 = .ok (.aload_n 1, 1) := by decide +kernel
theorem dX5_isPart_19 : decode cX5_isPart 19 = .ok (.invokevirtual 85, 3) := by decide +kernel
theorem dX5_isPart_22 : decode cX5_isPart 22 = .ok (.if_icmp .ge 30, 3) := by decide +kernel
theorem dX5_isPart_25 : decode cX5_isPart 25 = .ok (.aload_n 0, 1) := by decide +kernel
theorem dX5_isPart_26 : decode cX5_isPart 26 = .ok (.getfield 9, 3) := by decide +kernel
theorem dX5_isPart_29 : decode cX5_isPart 29 = .ok (.aload_n 0, 1) := by decide +kernel
theorem dX5_isPart_30 : decode cX5_isPart 30 = .ok (.getfield 15, 3) := by decide +kernel
theorem dX5_isPart_33 : decode cX5_isPart 33 = .ok (.iload_n 3, 1) := by decide +kernel
theorem dX5_isPart_34 : decode cX5_isPart 34 = .ok (.iadd, 1) := by decide +kernel
theorem dX5_isPart_35 : decode cX5_isPart 35 = .ok (.caload, 1) := by decide +kernel
theorem dX5_isPart_36 : decode cX5_isPart 36 = .ok (.aload_n 1, 1) := by decide +kernel
theorem dX5_isPart_37 : decode cX5_isPart 37 = .ok (.iload_n 3, 1) := by decide +kernel
theorem dX5_isPart_38 : decode cX5_isPart 38 = .ok (.invokevirtual 89, 3) := by decide +kernel
theorem dX5_isPart_41 : decode cX5_isPart 41 = .ok (.if_icmp .eq 5, 3) := by decide +kernel
theorem dX5_isPart_44 : decode cX5_isPart 44 = .ok (.iconst 0, 1) := by decide +kernel
theorem dX5_isPart_45 : decode cX5_isPart 45 = .ok (.ireturn, 1) := by decide +kernel
theorem dX5_isPart_46 : decode cX5_isPart 46 = .ok (.iinc 3 1, 3) := by decide +kernel
theorem dX5_isPart_49 : decode cX5_isPart 49 = .ok (.goto (-32), 3) := by decide +kernel
theorem dX5_isPart_52 : decode cX5_isPart 52 = .ok (.iconst 1, 1) := by decide +kernel
theorem dX5_isPart_53 : decode cX5_isPart 53 = .ok (.ireturn, 1) := by decide +kernel
theorem dX5_readNumbers_0 : decode cX5_readNumbers 0 = .ok (.aload_n 0, 1) := by decide +kernel
theorem dX5_readNumbers_1 : decode cX5_readNumbers 1 = .ok (.bipush (-4), 2) := by decide +kernel
theorem dX5_readNumbers_3 : decode cX5_readNumbers 3 = .ok (.putfield 40, 3) := by decide +kernel
theorem dX5_readNumbers_6 : decode cX5_readNumbers 6 = .ok (.aload_n 0, 1) := by decide +kernel
theorem dX5_readNumbers_7 : decode cX5_readNumbers 7 = .ok (.aload_n 0, 1) := by decide +kernel
theorem dX5_readNumbers_8 : decode cX5_readNumbers 8 = .ok (.aload_n 0, 1) := by decide +kernel
theorem dX5_readNumbers_9 : decode cX5_readNumbers 9 = .ok (.getfield 34, 3) := by decide +kernel
theorem dX5_readNumbers_12 : decode cX5_readNumbers 12 = .ok (.iconst 4, 1) := by decide +kernel
theorem dX5_readNumbers_13 : decode cX5_readNumbers 13 = .ok (.if_icmp .ne 8, 3) := by decide +kernel
theorem dX5_readNumbers_16 : decode cX5_readNumbers 16 = .ok (.bipush 49, 2) := by decide +kernel
theorem dX5_readNumbers_18 : decode cX5_readNumbers 18 = .ok (.goto 5, 3) := by decide +kernel
theorem dX5_readNumbers_21 : decode cX5_readNumbers 21 = .ok (.bipush 55, 2) := by decide +kernel
theorem dX5_readNumbers_23 : decode cX5_readNumbers 23 = .ok (.invokevirtual 93, 3) := by decide +kernel
theorem dX5_readNumbers_26 : decode cX5_readNumbers 26 = .ok (.putfield 37, 3) := by decide +kernel
theorem dX5_readNumbers_29 : decode cX5_readNumbers 29 = .ok (.aload_n 0, 1) := by decide +kernel
theorem dX5_readNumbers_30 : decode cX5_readNumbers 30 = .ok (.getfield 37, 3) := by decide +kernel
theorem dX5_readNumbers_33 : decode cX5_readNumbers 33 = .ok (.bipush (-4), 2) := by decide +kernel
theorem dX5_readNumbers_35 : decode cX5_readNumbers 35 = .ok (.if_icmp .eq 11, 3) := by decide +kernel
theorem dX5_readNumbers_38 : decode cX5_readNumbers 38 = .ok (.aload_n 0, 1) := by decide +kernel
theorem dX5_readNumbers_39 : decode cX5_readNumbers 39 = .ok (.getfield 34, 3) := by decide +kernel
theorem dX5_readNumbers_42 : decode cX5_readNumbers 42 = .ok (.iconst 2, 1) := by decide +kernel
theorem dX5_readNumbers_43 : decode cX5_readNumbers 43 = .ok (.if_icmp .eq 18, 3) := by decide +kernel
theorem dX5_readNumbers_46 : decode cX5_readNumbers 46 = .ok (.aload_n 0, 1) := by decide +kernel
theorem dX5_readNumbers_47 : decode cX5_readNumbers 47 = .ok (.getfield 37, 3) := by decide +kernel
theorem dX5_readNumbers_50 : decode cX5_readNumbers 50 = .ok (.bipush (-4), 2) := by decide +kernel
theorem dX5_readNumbers_52 : decode cX5_readNumbers 52 = .ok (.if_icmp .eq 7, 3) := by decide +kernel
theorem dX5_readNumbers_55 : decode cX5_readNumbers 55 = .ok (.iconst 1, 1) := by decide +kernel
theorem dX5_readNumbers_56 : decode cX5_readNumbers 56 = .ok (.goto 4, 3) := by decide +kernel
theorem dX5_readNumbers_59 : decode cX5_readNumbers 59 = .ok (.iconst 0, 1) := by decide +kernel
theorem dX5_readNumbers_60 : decode cX5_readNumbers 60 = .ok (.ireturn, 1) := by decide +kernel
theorem dX5_readNumbers_61 : decode cX5_readNumbers 61 = .ok (.aload_n 0, 1) := by decide +kernel
theorem dX5_readNumbers_62 : decode cX5_readNumbers 62 = .ok (.invokevirtual 50, 3) := by decide +kernel
theorem dX5_readNumbers_65 : decode cX5_readNumbers 65 = .ok (.ifCond .ne 5, 3) := by decide +kernel
theorem dX5_readNumbers_68 : decode cX5_readNumbers 68 = .ok (.iconst 0, 1) := by decide +kernel
theorem dX5_readNumbers_69 : decode cX5_readNumbers 69 = .ok (.ireturn, 1) := by decide +kernel
theorem dX5_readNumbers_70 : decode cX5_readNumbers 70 = .ok (.aload_n 0, 1) := by decide +kernel
theorem dX5_readNumbers_71 : decode cX5_readNumbers 71 = .ok (.aload_n 0, 1) := by decide +kernel
theorem dX5_readNumbers_72 : decode cX5_readNumbers 72 = .ok (.bipush 55, 2) := by decide +kernel
theorem dX5_readNumbers_74 : decode cX5_readNumbers 74 = .ok (.invokevirtual 93, 3) := by decide +kernel
theorem dX5_readNumbers_77 : decode cX5_readNumbers 77 = .ok (.putfield 40, 3) := by decide +kernel
theorem dX5_readNumbers_80 : decode cX5_readNumbers 80 = .ok (.aload_n 0, 1) := by decide +kernel
theorem dX5_readNumbers_81 : decode cX5_readNumbers 81 = .ok (.getfield 40, 3) := by decide +kernel
theorem dX5_readNumbers_84 : decode cX5_readNumbers 84 = .ok (.bipush (-4), 2) := by decide +kernel
theorem dX5_readNumbers_86 : decode cX5_readNumbers 86 = .ok (.if_icmp .eq 7, 3) := by decide +kernel
theorem dX5_readNumbers_89 : decode cX5_readNumbers 89 = .ok (.iconst 1, 1) := by decide +kernel
theorem dX5_readNumbers_90 : decode cX5_readNumbers 90 = .ok (.goto 4, 3) := by decide +kernel
theorem dX5_readNumbers_93 : decode cX5_readNumbers 93 = .ok (.iconst 0, 1) := by decide +kernel
theorem dX5_readNumbers_94 : decode cX5_readNumbers 94 = .ok (.ireturn, 1) := by decide +kernel
theorem dX5_readDigit_0 : decode cX5_readDigit 0 = .ok (.aload_n 0, 1) := by decide +kernel
theorem dX5_readDigit_1 : decode cX5_readDigit 1 = .ok (.invokevirtual 59, 3) := by decide +kernel
theorem dX5_readDigit_4 : decode cX5_readDigit 4 = .ok (.istore_n 2, 1) := by decide +kernel
theorem dX5_readDigit_5 : decode cX5_readDigit 5 = .ok (.iload_n 2, 1) := by decide +kernel
theorem dX5_readDigit_6 : decode cX5_readDigit 6 = .ok (.aload_n 0, 1) := by decide +kernel
theorem dX5_readDigit_7 : decode cX5_readDigit 7 = .ok (.getfield 15, 3) := by decide +kernel
theorem dX5_readDigit_10 : decode cX5_readDigit 10 = .ok (.isub, 1) := by decide +kernel
theorem dX5_readDigit_11 : decode cX5_readDigit 11 = .ok (.iconst 1, 1) := by decide +kernel
theorem dX5_readDigit_12 : decode cX5_readDigit 12 = .ok (.if_icmp .ne 21, 3) := by decide +kernel
theorem dX5_readDigit_15 : decode cX5_readDigit 15 = .ok (.aload_n 0, 1) := by decide +kernel
theorem dX5_readDigit_16 : decode cX5_readDigit 16 = .ok (.getfield 9, 3) := by decide +kernel
theorem dX5_readDigit_19 : decode cX5_readDigit 19 = .ok (.aload_n 0, 1) := by decide +kernel
theorem dX5_readDigit_20 : decode cX5_readDigit 20 = .ok (.getfield 15, 3) := by decide +kernel
theorem dX5_readDigit_23 : decode cX5_readDigit 23 = .ok (.caload, 1) := by decide +kernel
theorem dX5_readDigit_24 : decode cX5_readDigit 24 = .ok (.bipush 48, 2) := by decide +kernel
theorem dX5_readDigit_26 : decode cX5_readDigit 26 = .ok (.iload_n 1, 1) := by decide +kernel
theorem dX5_readDigit_27 : decode cX5_readDigit 27 = .ok (.invokestatic 63, 3) := by decide +kernel
theorem dX5_readDigit_30 : decode cX5_readDigit 30 = .ok (.ifCond .eq 6, 3) := by decide +kernel
theorem dX5_readDigit_33 : decode cX5_readDigit 33 = .ok (.bipush (-4), 2) := by decide +kernel
theorem dX5_readDigit_35 : decode cX5_readDigit 35 = .ok (.ireturn, 1) := by decide +kernel
theorem dX5_readDigit_36 : decode cX5_readDigit 36 = .ok (.aload_n 0, 1) := by decide +kernel
theorem dX5_readDigit_37 : decode cX5_readDigit 37 = .ok (.getfield 9, 3) := by decide +kernel
theorem dX5_readDigit_40 : decode cX5_readDigit 40 = .ok (.aload_n 0, 1) := by decide +kernel
theorem dX5_readDigit_41 : decode cX5_readDigit 41 = .ok (.getfield 15, 3) := by decide +kernel
theorem dX5_readDigit_44 : decode cX5_readDigit 44 = .ok (.caload, 1) := by decide +kernel
theorem dX5_readDigit_45 : decode cX5_readDigit 45 = .ok (.bipush 48, 2) := by decide +kernel
theorem dX5_readDigit_47 : decode cX5_readDigit 47 = .ok (.isub, 1) := by decide +kernel
theorem dX5_readDigit_48 : decode cX5_readDigit 48 = .ok (.istore_n 3, 1) := by decide +kernel
theorem dX5_readDigit_49 : decode cX5_readDigit 49 = .ok (.aload_n 0, 1) := by decide +kernel
theorem dX5_readDigit_50 : decode cX5_readDigit 50 = .ok (.iload_n 2, 1) := by decide +kernel
theorem dX5_readDigit_51 : decode cX5_readDigit 51 = .ok (.putfield 15, 3) := by decide +kernel
theorem dX5_readDigit_54 : decode cX5_readDigit 54 = .ok (.iload_n 3, 1) := by decide +kernel
theorem dX5_readDigit_55 : decode cX5_readDigit 55 = .ok (.ireturn, 1) := by decide +kernel
theorem dJ9_floorMod_7cf53_0 : decode cJ9_floorMod_7cf53 0 = .ok (.iload_n 0, 1) := by decide +kernel
theorem dJ9_floorMod_7cf53_1 : decode cJ9_floorMod_7cf53 1 = .ok (.iload_n 1, 1) := by decide +kernel
theorem dJ9_floorMod_7cf53_2 : decode cJ9_floorMod_7cf53 2 = .ok (.irem, 1) := by decide +kernel
theorem dJ9_floorMod_7cf53_3 : decode cJ9_floorMod_7cf53 3 = .ok (.istore_n 2, 1) := by decide +kernel
theorem dJ9_floorMod_7cf53_4 : decode cJ9_floorMod_7cf53 4 = .ok (.iload_n 0, 1) := by decide +kernel
theorem dJ9_floorMod_7cf53_5 : decode cJ9_floorMod_7cf53 5 = .ok (.iload_n 1, 1) := by decide +kernel
theorem dJ9_floorMod_7cf53_6 : decode cJ9_floorMod_7cf53 6 = .ok (.ixor, 1) := by decide +kernel
theorem dJ9_floorMod_7cf53_7 : decode cJ9_floorMod_7cf53 7 = .ok (.ifCond .ge 11, 3) := by decide +kernel
theorem dJ9_floorMod_7cf53_10 : decode cJ9_floorMod_7cf53 10 = .ok (.iload_n 2, 1) := by decide +kernel
theorem dJ9_floorMod_7cf53_11 : decode cJ9_floorMod_7cf53 11 = .ok (.ifCond .eq 7, 3) := by decide +kernel
theorem dJ9_floorMod_7cf53_14 : decode cJ9_floorMod_7cf53 14 = .ok (.iload_n 2, 1) := by decide +kernel
theorem dJ9_floorMod_7cf53_15 : decode cJ9_floorMod_7cf53 15 = .ok (.iload_n 1, 1) := by decide +kernel
theorem dJ9_floorMod_7cf53_16 : decode cJ9_floorMod_7cf53 16 = .ok (.iadd, 1) := by decide +kernel
theorem dJ9_floorMod_7cf53_17 : decode cJ9_floorMod_7cf53 17 = .ok (.ireturn, 1) := by decide +kernel
theorem dJ9_floorMod_7cf53_18 : decode cJ9_floorMod_7cf53 18 = .ok (.iload_n 2, 1) := by decide +kernel
theorem dJ9_floorMod_7cf53_19 : decode cJ9_floorMod_7cf53 19 = .ok (.ireturn, 1) := by decide +kernel
theorem dJ0_length_8abf5_0 : decode cJ0_length_8abf5 0 = .ok (.aload_n 0, 1) := by decide +kernel
theorem dJ0_length_8abf5_1 : decode cJ0_length_8abf5 1 = .ok (.getfield 9, 3) := by decide +kernel
theorem dJ0_length_8abf5_4 : decode cJ0_length_8abf5 4 = .ok (.arraylength, 1) := by decide +kernel
theorem dJ0_length_8abf5_5 : decode cJ0_length_8abf5 5 = .ok (.aload_n 0, 1) := by decide +kernel
theorem dJ0_length_8abf5_6 : decode cJ0_length_8abf5 6 = .ok (.invokevirtual 335, 3) := by decide +kernel
theorem dJ0_length_8abf5_9 : decode cJ0_length_8abf5 9 = .ok (.ishr, 1) := by decide +kernel
theorem dJ0_length_8abf5_10 : decode cJ0_length_8abf5 10 = .ok (.ireturn, 1) := by decide +kernel
theorem dJ0_charAt_5068e_0 : decode cJ0_charAt_5068e 0 = .ok (.aload_n 0, 1) := by decide +kernel
theorem dJ0_charAt_5068e_1 : decode cJ0_charAt_5068e 1 = .ok (.invokevirtual 492, 3) := by decide +kernel
theorem dJ0_charAt_5068e_4 : decode cJ0_charAt_5068e 4 = .ok (.ifCond .eq 12, 3) := by decide +kernel
theorem dJ0_charAt_5068e_7 : decode cJ0_charAt_5068e 7 = .ok (.aload_n 0, 1) := by decide +kernel
theorem dJ0_charAt_5068e_8 : decode cJ0_charAt_5068e 8 = .ok (.getfield 9, 3) := by decide +kernel
theorem dJ0_charAt_5068e_11 : decode cJ0_charAt_5068e 11 = .ok (.iload_n 1, 1) := by decide +kernel
theorem dJ0_charAt_5068e_12 : decode cJ0_charAt_5068e 12 = .ok (.invokestatic 495, 3) := by decide +kernel
theorem dJ0_charAt_5068e_15 : decode cJ0_charAt_5068e 15 = .ok (.ireturn, 1) := by decide +kernel
theorem dJ0_charAt_5068e_16 : decode cJ0_charAt_5068e 16 = .ok (.aload_n 0, 1) := by decide +kernel
theorem dJ0_charAt_5068e_17 : decode cJ0_charAt_5068e 17 = .ok (.getfield 9, 3) := by decide +kernel
theorem dJ0_charAt_5068e_20 : decode cJ0_charAt_5068e 20 = .ok (.iload_n 1, 1) := by decide +kernel
theorem dJ0_charAt_5068e_21 : decode cJ0_charAt_5068e 21 = .ok (.invokestatic 498, 3) := by decide +kernel
theorem dJ0_charAt_5068e_24 : decode cJ0_charAt_5068e 24 = .ok (.ireturn, 1) := by decide +kernel
theorem dJ0_coder_7d493_0 : decode cJ0_coder_7d493 0 = .ok (.getstatic 38, 3) := by decide +kernel
theorem dJ0_coder_7d493_3 : decode cJ0_coder_7d493 3 = .ok (.ifCond .eq 10, 3) := by decide +kernel
theorem dJ0_coder_7d493_6 : decode cJ0_coder_7d493 6 = .ok (.aload_n 0, 1) := by decide +kernel
theorem dJ0_coder_7d493_7 : decode cJ0_coder_7d493 7 = .ok (.getfield 15, 3) := by decide +kernel
theorem dJ0_coder_7d493_10 : decode cJ0_coder_7d493 10 = .ok (.goto 4, 3) := by decide +kernel
theorem dJ0_coder_7d493_13 : decode cJ0_coder_7d493 13 = .ok (.iconst 1, 1) := by decide +kernel
theorem dJ0_coder_7d493_14 : decode cJ0_coder_7d493 14 = .ok (.ireturn, 1) := by decide +kernel
theorem dJ0_isLatin1_aae02_0 : decode cJ0_isLatin1_aae02 0 = .ok (.getstatic 38, 3) := by decide +kernel
theorem dJ0_isLatin1_aae02_3 : decode cJ0_isLatin1_aae02 3 = .ok (.ifCond .eq 14, 3) := by decide +kernel
theorem dJ0_isLatin1_aae02_6 : decode cJ0_isLatin1_aae02 6 = .ok (.aload_n 0, 1) := by decide +kernel
theorem dJ0_isLatin1_aae02_7 : decode cJ0_isLatin1_aae02 7 = .ok (.getfield 15, 3) := by decide +kernel
theorem dJ0_isLatin1_aae02_10 : decode cJ0_isLatin1_aae02 10 = .ok (.ifCond .ne 7, 3) := by decide +kernel
theorem dJ0_isLatin1_aae02_13 : decode cJ0_isLatin1_aae02 13 = .ok (.iconst 1, 1) := by decide +kernel
theorem dJ0_isLatin1_aae02_14 : decode cJ0_isLatin1_aae02 14 = .ok (.goto 4, 3) := by decide +kernel
theorem dJ0_isLatin1_aae02_17 : decode cJ0_isLatin1_aae02 17 = .ok (.iconst 0, 1) := by decide +kernel
theorem dJ0_isLatin1_aae02_18 : decode cJ0_isLatin1_aae02 18 = .ok (.ireturn, 1) := by decide +kernel
theorem dJ0_checkIndex_df160_0 : decode cJ0_checkIndex_df160 0 = .ok (.iload_n 0, 1) := by decide +kernel
theorem dJ0_checkIndex_df160_1 : decode cJ0_checkIndex_df160 1 = .ok (.iload_n 1, 1) := by decide +kernel
theorem dJ0_checkIndex_df160_2 : decode cJ0_checkIndex_df160 2 = .ok (.getstatic 1053, 3) := by decide +kernel
theorem dJ0_checkIndex_df160_5 : decode cJ0_checkIndex_df160 5 = .ok (.invokestatic 1059, 3) := by decide +kernel
theorem dJ0_checkIndex_df160_8 : decode cJ0_checkIndex_df160 8 = .ok (.pop, 1) := by decide +kernel
theorem dJ0_checkIndex_df160_9 : decode cJ0_checkIndex_df160 9 = .ok (.return_, 1) := by decide +kernel
theorem dJ1_charAt_3b067_0 : decode cJ1_charAt_3b067 0 = .ok (.iload_n 1, 1) := by decide +kernel
theorem dJ1_charAt_3b067_1 : decode cJ1_charAt_3b067 1 = .ok (.aload_n 0, 1) := by decide +kernel
theorem dJ1_charAt_3b067_2 : decode cJ1_charAt_3b067 2 = .ok (.arraylength, 1) := by decide +kernel
theorem dJ1_charAt_3b067_3 : decode cJ1_charAt_3b067 3 = .ok (.invokestatic 9, 3) := by decide +kernel
theorem dJ1_charAt_3b067_6 : decode cJ1_charAt_3b067 6 = .ok (.aload_n 0, 1) := by decide +kernel
theorem dJ1_charAt_3b067_7 : decode cJ1_charAt_3b067 7 = .ok (.iload_n 1, 1) := by decide +kernel
theorem dJ1_charAt_3b067_8 : decode cJ1_charAt_3b067 8 = .ok (.baload, 1) := by decide +kernel
theorem dJ1_charAt_3b067_9 : decode cJ1_charAt_3b067 9 = .ok (.sipush 255, 3) := by decide +kernel
theorem dJ1_charAt_3b067_12 : decode cJ1_charAt_3b067 12 = .ok (.iand, 1) := by decide +kernel
theorem dJ1_charAt_3b067_13 : decode cJ1_charAt_3b067 13 = .ok (.i2c, 1) := by decide +kernel
theorem dJ1_charAt_3b067_14 : decode cJ1_charAt_3b067 14 = .ok (.ireturn, 1) := by decide +kernel
theorem dJ3_checkIndex_8e157_0 : decode cJ3_checkIndex_8e157 0 = .ok (.iload_n 0, 1) := by decide +kernel
theorem dJ3_checkIndex_8e157_1 : decode cJ3_checkIndex_8e157 1 = .ok (.ifCond .lt 8, 3) := by decide +kernel
theorem dJ3_checkIndex_8e157_4 : decode cJ3_checkIndex_8e157 4 = .ok (.iload_n 0, 1) := by decide +kernel
theorem dJ3_checkIndex_8e157_5 : decode cJ3_checkIndex_8e157 5 = .ok (.iload_n 1, 1) := by decide +kernel
theorem dJ3_checkIndex_8e157_6 : decode cJ3_checkIndex_8e157 6 = .ok (.if_icmp .lt 10, 3) := by decide +kernel
theorem dJ3_checkIndex_8e157_9 : decode cJ3_checkIndex_8e157 9 = .ok (.aload_n 2, 1) := by decide +kernel
theorem dJ3_checkIndex_8e157_10 : decode cJ3_checkIndex_8e157 10 = .ok (.iload_n 0, 1) := by decide +kernel
theorem dJ3_checkIndex_8e157_11 : decode cJ3_checkIndex_8e157 11 = .ok (.iload_n 1, 1) := by decide +kernel
theorem dJ3_checkIndex_8e157_12 : decode cJ3_checkIndex_8e157 12 = .ok (.invokestatic 95, 3) := by decide +kernel
theorem dJ3_checkIndex_8e157_15 : decode cJ3_checkIndex_8e157 15 = .ok (.athrow, 1) := by decide +kernel
theorem dJ3_checkIndex_8e157_16 : decode cJ3_checkIndex_8e157 16 = .ok (.iload_n 0, 1) := by decide +kernel
theorem dJ3_checkIndex_8e157_17 : decode cJ3_checkIndex_8e157 17 = .ok (.ireturn, 1) := by decide +kernel
