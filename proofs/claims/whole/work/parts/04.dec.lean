theorem dX0_init_0 : decode cX0_init 0 = .ok (.aload_n 0, 1) := by decide +kernel
theorem dX0_init_1 : decode cX0_init 1 = .ok (.invokespecial 3, 3) := by decide +kernel
theorem dX0_init_4 : decode cX0_init 4 = .ok (.aload_n 0, 1) := by decide +kernel
theorem dX0_init_5 : decode cX0_init 5 = .ok (.bipush 8, 2) := by decide +kernel
theorem dX0_init_7 : decode cX0_init 7 = .ok (.newarray .int, 2) := by decide +kernel
theorem dX0_init_9 : decode cX0_init 9 = .ok (.putfield 9, 3) := by decide +kernel
theorem dX0_init_12 : decode cX0_init 12 = .ok (.aload_n 0, 1) := by decide +kernel
theorem dX0_init_13 : decode cX0_init 13 = .ok (.bipush 8, 2) := by decide +kernel
theorem dX0_init_15 : decode cX0_init 15 = .ok (.newarray .int, 2) := by decide +kernel
theorem dX0_init_17 : decode cX0_init 17 = .ok (.putfield 15, 3) := by decide +kernel
theorem dX0_init_20 : decode cX0_init 20 = .ok (.aload_n 0, 1) := by decide +kernel
theorem dX0_init_21 : decode cX0_init 21 = .ok (.bipush 8, 2) := by decide +kernel
theorem dX0_init_23 : decode cX0_init 23 = .ok (.newarray .int, 2) := by decide +kernel
theorem dX0_init_25 : decode cX0_init 25 = .ok (.putfield 18, 3) := by decide +kernel
theorem dX0_init_28 : decode cX0_init 28 = .ok (.aload_n 0, 1) := by decide +kernel
theorem dX0_init_29 : decode cX0_init 29 = .ok (.iconst 0, 1) := by decide +kernel
theorem dX0_init_30 : decode cX0_init 30 = .ok (.putfield 21, 3) := by decide +kernel
theorem dX0_init_33 : decode cX0_init 33 = .ok (.return_, 1) := by decide +kernel
theorem dX1_init_0 : decode cX1_init 0 = .ok (.aload_n 0, 1) := by decide +kernel
theorem dX1_init_1 : decode cX1_init 1 = .ok (.invokespecial 3, 3) := by decide +kernel
theorem dX1_init_4 : decode cX1_init 4 = .ok (.aload_n 0, 1) := by decide +kernel
theorem dX1_init_5 : decode cX1_init 5 = .ok (.bipush 108, 2) := by decide +kernel
theorem dX1_init_7 : decode cX1_init 7 = .ok (.newarray .int, 2) := by decide +kernel
theorem dX1_init_9 : decode cX1_init 9 = .ok (.putfield 9, 3) := by decide +kernel
theorem dX1_init_12 : decode cX1_init 12 = .ok (.aload_n 0, 1) := by decide +kernel
theorem dX1_init_13 : decode cX1_init 13 = .ok (.bipush 108, 2) := by decide +kernel
theorem dX1_init_15 : decode cX1_init 15 = .ok (.newarray .int, 2) := by decide +kernel
theorem dX1_init_17 : decode cX1_init 17 = .ok (.putfield 15, 3) := by decide +kernel
theorem dX1_init_20 : decode cX1_init 20 = .ok (.aload_n 0, 1) := by decide +kernel
theorem dX1_init_21 : decode cX1_init 21 = .ok (.bipush 108, 2) := by decide +kernel
theorem dX1_init_23 : decode cX1_init 23 = .ok (.newarray .int, 2) := by decide +kernel
theorem dX1_init_25 : decode cX1_init 25 = .ok (.putfield 18, 3) := by decide +kernel
theorem dX1_init_28 : decode cX1_init 28 = .ok (.aload_n 0, 1) := by decide +kernel
theorem dX1_init_29 : decode cX1_init 29 = .ok (.bipush 108, 2) := by decide +kernel
theorem dX1_init_31 : decode cX1_init 31 = .ok (.newarray .boolean, 2) := by decide +kernel
theorem dX1_init_33 : decode cX1_init 33 = .ok (.putfield 21, 3) := by decide +kernel
theorem dX1_init_36 : decode cX1_init 36 = .ok (.return_, 1) := by decide +kernel
theorem dX2_init_0 : decode cX2_init 0 = .ok (.aload_n 0, 1) := by decide +kernel
theorem dX2_init_1 : decode cX2_init 1 = .ok (.invokespecial 3, 3) := by decide +kernel
theorem dX2_init_4 : decode cX2_init 4 = .ok (.aload_n 0, 1) := by decide +kernel
theorem dX2_init_5 : decode cX2_init 5 = .ok (.iconst 3, 1) := by decide +kernel
theorem dX2_init_6 : decode cX2_init 6 = .ok (.newarray .int, 2) := by decide +kernel
theorem dX2_init_8 : decode cX2_init 8 = .ok (.putfield 9, 3) := by decide +kernel
theorem dX2_init_11 : decode cX2_init 11 = .ok (.aload_n 0, 1) := by decide +kernel
theorem dX2_init_12 : decode cX2_init 12 = .ok (.iconst 3, 1) := by decide +kernel
theorem dX2_init_13 : decode cX2_init 13 = .ok (.newarray .int, 2) := by decide +kernel
theorem dX2_init_15 : decode cX2_init 15 = .ok (.putfield 15, 3) := by decide +kernel
theorem dX2_init_18 : decode cX2_init 18 = .ok (.aload_n 0, 1) := by decide +kernel
theorem dX2_init_19 : decode cX2_init 19 = .ok (.iconst 3, 1) := by decide +kernel
theorem dX2_init_20 : decode cX2_init 20 = .ok (.newarray .int, 2) := by decide +kernel
theorem dX2_init_22 : decode cX2_init 22 = .ok (.putfield 18, 3) := by decide +kernel
theorem dX2_init_25 : decode cX2_init 25 = .ok (.aload_n 0, 1) := by decide +kernel
theorem dX2_init_26 : decode cX2_init 26 = .ok (.iconst 0, 1) := by decide +kernel
theorem dX2_init_27 : decode cX2_init 27 = .ok (.putfield 21, 3) := by decide +kernel
theorem dX2_init_30 : decode cX2_init 30 = .ok (.return_, 1) := by decide +kernel
theorem dX3_init_0 : decode cX3_init 0 = .ok (.aload_n 0, 1) := by decide +kernel
theorem dX3_init_1 : decode cX3_init 1 = .ok (.invokespecial 3, 3) := by decide +kernel
theorem dX3_init_4 : decode cX3_init 4 = .ok (.aload_n 0, 1) := by decide +kernel
theorem dX3_init_5 : decode cX3_init 5 = .ok (.bipush 8, 2) := by decide +kernel
theorem dX3_init_7 : decode cX3_init 7 = .ok (.newarray .int, 2) := by decide +kernel
theorem dX3_init_9 : decode cX3_init 9 = .ok (.putfield 9, 3) := by decide +kernel
theorem dX3_init_12 : decode cX3_init 12 = .ok (.aload_n 0, 1) := by decide +kernel
theorem dX3_init_13 : decode cX3_init 13 = .ok (.bipush 8, 2) := by decide +kernel
theorem dX3_init_15 : decode cX3_init 15 = .ok (.newarray .int, 2) := by decide +kernel
theorem dX3_init_17 : decode cX3_init 17 = .ok (.putfield 15, 3) := by decide +kernel
theorem dX3_init_20 : decode cX3_init 20 = .ok (.aload_n 0, 1) := by decide +kernel
theorem dX3_init_21 : decode cX3_init 21 = .ok (.bipush 8, 2) := by decide +kernel
theorem dX3_init_23 : decode cX3_init 23 = .ok (.newarray .int, 2) := by decide +kernel
theorem dX3_init_25 : decode cX3_init 25 = .ok (.putfield 18, 3) := by decide +kernel
theorem dX3_init_28 : decode cX3_init 28 = .ok (.aload_n 0, 1) := by decide +kernel
theorem dX3_init_29 : decode cX3_init 29 = .ok (.bipush 8, 2) := by decide +kernel
theorem dX3_init_31 : decode cX3_init 31 = .ok (.newarray .int, 2) := by decide +kernel
theorem dX3_init_33 : decode cX3_init 33 = .ok (.putfield 21, 3) := by decide +kernel
theorem dX3_init_36 : decode cX3_init 36 = .ok (.aload_n 0, 1) := by decide +kernel
theorem dX3_init_37 : decode cX3_init 37 = .ok (.bipush 8, 2) := by decide +kernel
theorem dX3_init_39 : decode cX3_init 39 = .ok (.newarray .int, 2) := by decide +kernel
theorem dX3_init_41 : decode cX3_init 41 = .ok (.putfield 24, 3) := by decide +kernel
theorem dX3_init_44 : decode cX3_init 44 = .ok (.aload_n 0, 1) := by decide +kernel
theorem dX3_init_45 : decode cX3_init 45 = .ok (.iconst 0, 1) := by decide +kernel
theorem dX3_init_46 : decode cX3_init 46 = .ok (.putfield 27, 3) := by decide +kernel
theorem dX3_init_49 : decode cX3_init 49 = .ok (.aload_n 0, 1) := by decide +kernel
theorem dX3_init_50 : decode cX3_init 50 = .ok (.iconst 0, 1) := by decide +kernel
theorem dX3_init_51 : decode cX3_init 51 = .ok (.putfield 31, 3) := by decide +kernel
theorem dX3_init_54 : decode cX3_init 54 = .ok (.return_, 1) := by decide +kernel
theorem dX4_init_0 : decode cX4_init 0 = .ok (.aload_n 0, 1) := by decide +kernel
theorem dX4_init_1 : decode cX4_init 1 = .ok (.invokespecial 3, 3) := by decide +kernel
theorem dX4_init_4 : decode cX4_init 4 = .ok (.aload_n 0, 1) := by decide +kernel
theorem dX4_init_5 : decode cX4_init 5 = .ok (.new 9, 3) := by decide +kernel
theorem dX4_init_8 : decode cX4_init 8 = .ok (.dup, 1) := by decide +kernel
theorem dX4_init_9 : decode cX4_init 9 = .ok (.invokespecial 11, 3) := by decide +kernel
theorem dX4_init_12 : decode cX4_init 12 = .ok (.putfield 12, 3) := by decide +kernel
theorem dX4_init_15 : decode cX4_init 15 = .ok (.aload_n 0, 1) := by decide +kernel
theorem dX4_init_16 : decode cX4_init 16 = .ok (.iconst 4, 1) := by decide +kernel
theorem dX4_init_17 : decode cX4_init 17 = .ok (.anewarray 9, 3) := by decide +kernel
theorem dX4_init_20 : decode cX4_init 20 = .ok (.putfield 16, 3) := by decide +kernel
theorem dX4_init_23 : decode cX4_init 23 = .ok (.aload_n 0, 1) := by decide +kernel
theorem dX4_init_24 : decode cX4_init 24 = .ok (.new 20, 3) := by decide +kernel
theorem dX4_init_27 : decode cX4_init 27 = .ok (.dup, 1) := by decide +kernel
theorem dX4_init_28 : decode cX4_init 28 = .ok (.invokespecial 22, 3) := by decide +kernel
theorem dX4_init_31 : decode cX4_init 31 = .ok (.putfield 23, 3) := by decide +kernel
theorem dX4_init_34 : decode cX4_init 34 = .ok (.aload_n 0, 1) := by decide +kernel
theorem dX4_init_35 : decode cX4_init 35 = .ok (.new 27, 3) := by decide +kernel
theorem dX4_init_38 : decode cX4_init 38 = .ok (.dup, 1) := by decide +kernel
theorem dX4_init_39 : decode cX4_init 39 = .ok (.invokespecial 29, 3) := by decide +kernel
theorem dX4_init_42 : decode cX4_init 42 = .ok (.putfield 30, 3) := by decide +kernel
theorem dX4_init_45 : decode cX4_init 45 = .ok (.aload_n 0, 1) := by decide +kernel
theorem dX4_init_46 : decode cX4_init 46 = .ok (.new 34, 3) := by decide +kernel
theorem dX4_init_49 : decode cX4_init 49 = .ok (.dup, 1) := by decide +kernel
theorem dX4_init_50 : decode cX4_init 50 = .ok (.invokespecial 36, 3) := by decide +kernel
theorem dX4_init_53 : decode cX4_init 53 = .ok (.putfield 37, 3) := by decide +kernel
theorem dX4_init_56 : decode cX4_init 56 = .ok (.aload_n 0, 1) := by decide +kernel
theorem dX4_init_57 : decode cX4_init 57 = .ok (.bipush 36, 2) := by decide +kernel
theorem dX4_init_59 : decode cX4_init 59 = .ok (.newarray .int, 2) := by decide +kernel
theorem dX4_init_61 : decode cX4_init 61 = .ok (.putfield 41, 3) := by decide +kernel
theorem dX4_init_64 : decode cX4_init 64 = .ok (.aload_n 0, 1) := by decide +kernel
theorem dX4_init_65 : decode cX4_init 65 = .ok (.bipush 6, 2) := by decide +kernel
theorem dX4_init_67 : decode cX4_init 67 = .ok (.newarray .int, 2) := by decide +kernel
theorem dX4_init_69 : decode cX4_init 69 = .ok (.putfield 45, 3) := by decide +kernel
theorem dX4_init_72 : decode cX4_init 72 = .ok (.aload_n 0, 1) := by decide +kernel
theorem dX4_init_73 : decode cX4_init 73 = .ok (.iconst 0, 1) := by decide +kernel
theorem dX4_init_74 : decode cX4_init 74 = .ok (.putfield 48, 3) := by decide +kernel
theorem dX4_init_77 : decode cX4_init 77 = .ok (.aload_n 0, 1) := by decide +kernel
theorem dX4_init_78 : decode cX4_init 78 = .ok (.iconst 4, 1) := by decide +kernel
theorem dX4_init_79 : decode cX4_init 79 = .ok (.putfield 52, 3) := by decide +kernel
theorem dX4_init_82 : decode cX4_init 82 = .ok (.aload_n 0, 1) := by decide +kernel
theorem dX4_init_83 : decode cX4_init 83 = .ok (.iconst 2, 1) := by decide +kernel
theorem dX4_init_84 : decode cX4_init 84 = .ok (.putfield 55, 3) := by decide +kernel
theorem dX4_init_87 : decode cX4_init 87 = .ok (.return_, 1) := by decide +kernel
theorem dX4_ground_0 : decode cX4_ground 0 = .ok (.iload_n 1, 1) := by decide +kernel
theorem dX4_ground_1 : decode cX4_ground 1 = .ok (.invokestatic 58, 3) := by decide +kernel
theorem dX4_ground_4 : decode cX4_ground 4 = .ok (.istore_n 3, 1) := by decide +kernel
theorem dX4_ground_5 : decode cX4_ground 5 = .ok (.iload_n 3, 1) := by decide +kernel
theorem dX4_ground_6 : decode cX4_ground 6 = .ok (.ifCond .lt 10, 3) := by decide +kernel
theorem dX4_ground_9 : decode cX4_ground 9 = .ok (.iload_n 2, 1) := by decide +kernel
theorem dX4_ground_10 : decode cX4_ground 10 = .ok (.invokestatic 62, 3) := by decide +kernel
theorem dX4_ground_13 : decode cX4_ground 13 = .ok (.ifCond .ne 10, 3) := by decide +kernel
theorem dX4_ground_16 : decode cX4_ground 16 = .ok (.aload_n 0, 1) := by decide +kernel
theorem dX4_ground_17 : decode cX4_ground 17 = .ok (.ldc 66, 2) := by decide +kernel
theorem dX4_ground_19 : decode cX4_ground 19 = .ok (.invokevirtual 67, 3) := by decide +kernel
theorem dX4_ground_22 : decode cX4_ground 22 = .ok (.ireturn, 1) := by decide +kernel
theorem dX4_ground_23 : decode cX4_ground 23 = .ok (.aload_n 0, 1) := by decide +kernel
theorem dX4_ground_24 : decode cX4_ground 24 = .ok (.getfield 12, 3) := by decide +kernel
theorem dX4_ground_27 : decode cX4_ground 27 = .ok (.getfield 70, 3) := by decide +kernel
theorem dX4_ground_30 : decode cX4_ground 30 = .ok (.iload_n 3, 1) := by decide +kernel
theorem dX4_ground_31 : decode cX4_ground 31 = .ok (.iaload, 1) := by decide +kernel
theorem dX4_ground_32 : decode cX4_ground 32 = .ok (.istore 4, 2) := by decide +kernel
theorem dX4_ground_34 : decode cX4_ground 34 = .ok (.aload_n 0, 1) := by decide +kernel
theorem dX4_ground_35 : decode cX4_ground 35 = .ok (.getfield 12, 3) := by decide +kernel
theorem dX4_ground_38 : decode cX4_ground 38 = .ok (.iload_n 3, 1) := by decide +kernel
theorem dX4_ground_39 : decode cX4_ground 39 = .ok (.iload_n 2, 1) := by decide +kernel
theorem dX4_ground_40 : decode cX4_ground 40 = .ok (.invokevirtual 73, 3) := by decide +kernel
theorem dX4_ground_43 : decode cX4_ground 43 = .ok (.iload 4, 2) := by decide +kernel
theorem dX4_ground_45 : decode cX4_ground 45 = .ok (.ireturn, 1) := by decide +kernel
theorem dX4_as_0 : decode cX4_as 0 = .ok (.iload_n 1, 1) := by decide +kernel
theorem dX4_as_1 : decode cX4_as 1 = .ok (.invokestatic 58, 3) := by decide +kernel
theorem dX4_as_4 : decode cX4_as 4 = .ok (.istore_n 3, 1) := by decide +kernel
theorem dX4_as_5 : decode cX4_as 5 = .ok (.iload_n 3, 1) := by decide +kernel
theorem dX4_as_6 : decode cX4_as 6 = .ok (.ifCond .lt 10, 3) := by decide +kernel
theorem dX4_as_9 : decode cX4_as 9 = .ok (.iload_n 2, 1) := by decide +kernel
theorem dX4_as_10 : decode cX4_as 10 = .ok (.invokestatic 62, 3) := by decide +kernel
theorem dX4_as_13 : decode cX4_as 13 = .ok (.ifCond .ne 10, 3) := by decide +kernel
theorem dX4_as_16 : decode cX4_as 16 = .ok (.aload_n 0, 1) := by decide +kernel
theorem dX4_as_17 : decode cX4_as 17 = .ok (.ldc 66, 2) := by decide +kernel
theorem dX4_as_19 : decode cX4_as 19 = .ok (.invokevirtual 67, 3) := by decide +kernel
theorem dX4_as_22 : decode cX4_as 22 = .ok (.ireturn, 1) := by decide +kernel
theorem dX4_as_23 : decode cX4_as 23 = .ok (.aload_n 0, 1) := by decide +kernel
theorem dX4_as_24 : decode cX4_as 24 = .ok (.getfield 12, 3) := by decide +kernel
theorem dX4_as_27 : decode cX4_as 27 = .ok (.getfield 70, 3) := by decide +kernel
theorem dX4_as_30 : decode cX4_as 30 = .ok (.iload_n 3, 1) := by decide +kernel
theorem dX4_as_31 : decode cX4_as 31 = .ok (.iaload, 1) := by decide +kernel
theorem dX4_as_32 : decode cX4_as 32 = .ok (.iload_n 2, 1) := by decide +kernel
theorem dX4_as_33 : decode cX4_as 33 = .ok (.invokestatic 77, 3) := by decide +kernel
theorem dX4_as_36 : decode cX4_as 36 = .ok (.ifCond .ne 10, 3) := by decide +kernel
theorem dX4_as_39 : decode cX4_as 39 = .ok (.aload_n 0, 1) := by decide +kernel
theorem dX4_as_40 : decode cX4_as 40 = .ok (.ldc 81, 2) := by decide +kernel
theorem dX4_as_42 : decode cX4_as 42 = .ok (.invokevirtual 67, 3) := by decide +kernel
theorem dX4_as_45 : decode cX4_as 45 = .ok (.ireturn, 1) := by decide +kernel
theorem dX4_as_46 : decode cX4_as 46 = .ok (.aload_n 0, 1) := by decide +kernel
theorem dX4_as_47 : decode cX4_as 47 = .ok (.getfield 12, 3) := by decide +kernel
theorem dX4_as_50 : decode cX4_as 50 = .ok (.iload_n 3, 1) := by decide +kernel
theorem dX4_as_51 : decode cX4_as 51 = .ok (.invokevirtual 82, 3) := by decide +kernel
theorem dX4_as_54 : decode cX4_as 54 = .ok (.ireturn, 1) := by decide +kernel
theorem dX4_stop_0 : decode cX4_stop 0 = .ok (.iload_n 1, 1) := by decide +kernel
theorem dX4_stop_1 : decode cX4_stop 1 = .ok (.invokestatic 58, 3) := by decide +kernel
theorem dX4_stop_4 : decode cX4_stop 4 = .ok (.istore_n 3, 1) := by decide +kernel
theorem dX4_stop_5 : decode cX4_stop 5 = .ok (.iload_n 3, 1) := by decide +kernel
theorem dX4_stop_6 : decode cX4_stop 6 = .ok (.ifCond .lt 10, 3) := by decide +kernel
theorem dX4_stop_9 : decode cX4_stop 9 = .ok (.iload_n 2, 1) := by decide +kernel
theorem dX4_stop_10 : decode cX4_stop 10 = .ok (.invokestatic 85, 3) := by decide +kernel
theorem dX4_stop_13 : decode cX4_stop 13 = .ok (.ifCond .ne 10, 3) := by decide +kernel
theorem dX4_stop_16 : decode cX4_stop 16 = .ok (.aload_n 0, 1) := by decide +kernel
theorem dX4_stop_17 : decode cX4_stop 17 = .ok (.ldc 66, 2) := by decide +kernel
theorem dX4_stop_19 : decode cX4_stop 19 = .ok (.invokevirtual 67, 3) := by decide +kernel
theorem dX4_stop_22 : decode cX4_stop 22 = .ok (.ireturn, 1) := by decide +kernel
theorem dX4_stop_23 : decode cX4_stop 23 = .ok (.aload_n 0, 1) := by decide +kernel
theorem dX4_stop_24 : decode cX4_stop 24 = .ok (.getfield 12, 3) := by decide +kernel
theorem dX4_stop_27 : decode cX4_stop 27 = .ok (.getfield 88, 3) := by decide +kernel
theorem dX4_stop_30 : decode cX4_stop 30 = .ok (.iload_n 3, 1) := by decide +kernel
theorem dX4_stop_31 : decode cX4_stop 31 = .ok (.baload, 1) := by decide +kernel
theorem dX4_stop_32 : decode cX4_stop 32 = .ok (.ifCond .eq 7, 3) := by decide +kernel
theorem dX4_stop_35 : decode cX4_stop 35 = .ok (.iconst 1, 1) := by decide +kernel
theorem dX4_stop_36 : decode cX4_stop 36 = .ok (.goto 4, 3) := by decide +kernel
theorem dX4_stop_39 : decode cX4_stop 39 = .ok (.iconst 0, 1) := by decide +kernel
theorem dX4_stop_40 : decode cX4_stop 40 = .ok (.istore 4, 2) := by decide +kernel
theorem dX4_stop_42 : decode cX4_stop 42 = .ok (.aload_n 0, 1) := by decide +kernel
theorem dX4_stop_43 : decode cX4_stop 43 = .ok (.getfield 12, 3) := by decide +kernel
theorem dX4_stop_46 : decode cX4_stop 46 = .ok (.getfield 88, 3) := by decide +kernel
theorem dX4_stop_49 : decode cX4_stop 49 = .ok (.iload_n 3, 1) := by decide +kernel
theorem dX4_stop_50 : decode cX4_stop 50 = .ok (.iload_n 2, 1) := by decide +kernel
theorem dX4_stop_51 : decode cX4_stop 51 = .ok (.iconst 1, 1) := by decide +kernel
theorem dX4_stop_52 : decode cX4_stop 52 = .ok (.if_icmp .ne 7, 3) := by decide +kernel
theorem dX4_stop_55 : decode cX4_stop 55 = .ok (.iconst 1, 1) := by decide +kernel
theorem dX4_stop_56 : decode cX4_stop 56 = .ok (.goto 4, 3) := by decide +kernel
theorem dX4_stop_59 : decode cX4_stop 59 = .ok (.iconst 0, 1) := by decide +kernel
theorem dX4_stop_60 : decode cX4_stop 60 = .ok (.bastore, 1) := by decide +kernel
theorem dX4_stop_61 : decode cX4_stop 61 = .ok (.iload 4, 2) := by decide +kernel
theorem dX4_stop_63 : decode cX4_stop 63 = .ok (.ireturn, 1) := by decide +kernel
theorem dX4_clean_0 : decode cX4_clean 0 = .ok (.iload_n 1, 1) := by decide +kernel
theorem dX4_clean_1 : decode cX4_clean 1 = .ok (.invokestatic 92, 3) := by decide +kernel
theorem dX4_clean_4 : decode cX4_clean 4 = .ok (.ifCond .ne 10, 3) := by decide +kernel
theorem dX4_clean_7 : decode cX4_clean 7 = .ok (.aload_n 0, 1) := by decide +kernel
theorem dX4_clean_8 : decode cX4_clean 8 = .ok (.ldc 66, 2) := by decide +kernel
theorem dX4_clean_10 : decode cX4_clean 10 = .ok (.invokevirtual 67, 3) := by decide +kernel
theorem dX4_clean_13 : decode cX4_clean 13 = .ok (.ireturn, 1) := by decide +kernel
theorem dX4_clean_14 : decode cX4_clean 14 = .ok (.aload_n 0, 1) := by decide +kernel
theorem dX4_clean_15 : decode cX4_clean 15 = .ok (.getfield 12, 3) := by decide +kernel
theorem dX4_clean_18 : decode cX4_clean 18 = .ok (.iload_n 1, 1) := by decide +kernel
theorem dX4_clean_19 : decode cX4_clean 19 = .ok (.invokevirtual 95, 3) := by decide +kernel
theorem dX4_clean_22 : decode cX4_clean 22 = .ok (.ireturn, 1) := by decide +kernel
theorem dX4_bath_0 : decode cX4_bath 0 = .ok (.iload_n 1, 1) := by decide +kernel
theorem dX4_bath_1 : decode cX4_bath 1 = .ok (.iconst 1, 1) := by decide +kernel
theorem dX4_bath_2 : decode cX4_bath 2 = .ok (.if_icmp .lt 18, 3) := by decide +kernel
theorem dX4_bath_5 : decode cX4_bath 5 = .ok (.iload_n 1, 1) := by decide +kernel
theorem dX4_bath_6 : decode cX4_bath 6 = .ok (.bipush 9, 2) := by decide +kernel
theorem dX4_bath_8 : decode cX4_bath 8 = .ok (.if_icmp .gt 12, 3) := by decide +kernel
theorem dX4_bath_11 : decode cX4_bath 11 = .ok (.iload_n 2, 1) := by decide +kernel
theorem dX4_bath_12 : decode cX4_bath 12 = .ok (.ifCond .lt 8, 3) := by decide +kernel
theorem dX4_bath_15 : decode cX4_bath 15 = .ok (.iload_n 2, 1) := by decide +kernel
theorem dX4_bath_16 : decode cX4_bath 16 = .ok (.iconst 4, 1) := by decide +kernel
theorem dX4_bath_17 : decode cX4_bath 17 = .ok (.if_icmp .le 10, 3) := by decide +kernel
theorem dX4_bath_20 : decode cX4_bath 20 = .ok (.aload_n 0, 1) := by decide +kernel
theorem dX4_bath_21 : decode cX4_bath 21 = .ok (.ldc 66, 2) := by decide +kernel
theorem dX4_bath_23 : decode cX4_bath 23 = .ok (.invokevirtual 67, 3) := by decide +kernel
theorem dX4_bath_26 : decode cX4_bath 26 = .ok (.ireturn, 1) := by decide +kernel
theorem dX4_bath_27 : decode cX4_bath 27 = .ok (.aload_n 0, 1) := by decide +kernel
theorem dX4_bath_28 : decode cX4_bath 28 = .ok (.iload_n 1, 1) := by decide +kernel
theorem dX4_bath_29 : decode cX4_bath 29 = .ok (.putfield 52, 3) := by decide +kernel
theorem dX4_bath_32 : decode cX4_bath 32 = .ok (.aload_n 0, 1) := by decide +kernel
theorem dX4_bath_33 : decode cX4_bath 33 = .ok (.iload_n 2, 1) := by decide +kernel
theorem dX4_bath_34 : decode cX4_bath 34 = .ok (.putfield 55, 3) := by decide +kernel
theorem dX4_bath_37 : decode cX4_bath 37 = .ok (.aload_n 0, 1) := by decide +kernel
theorem dX4_bath_38 : decode cX4_bath 38 = .ok (.invokevirtual 98, 3) := by decide +kernel
theorem dX4_bath_41 : decode cX4_bath 41 = .ok (.ireturn, 1) := by decide +kernel
theorem dX4_bathe_0 : decode cX4_bathe 0 = .ok (.iload_n 1, 1) := by decide +kernel
theorem dX4_bathe_1 : decode cX4_bathe 1 = .ok (.invokestatic 92, 3) := by decide +kernel
theorem dX4_bathe_4 : decode cX4_bathe 4 = .ok (.ifCond .eq 15, 3) := by decide +kernel
theorem dX4_bathe_7 : decode cX4_bathe 7 = .ok (.iload_n 2, 1) := by decide +kernel
theorem dX4_bathe_8 : decode cX4_bathe 8 = .ok (.iconst 1, 1) := by decide +kernel
theorem dX4_bathe_9 : decode cX4_bathe 9 = .ok (.if_icmp .lt 10, 3) := by decide +kernel
theorem dX4_bathe_12 : decode cX4_bathe 12 = .ok (.iload_n 2, 1) := by decide +kernel
theorem dX4_bathe_13 : decode cX4_bathe 13 = .ok (.sipush 200, 3) := by decide +kernel
theorem dX4_bathe_16 : decode cX4_bathe 16 = .ok (.if_icmp .le 10, 3) := by decide +kernel
theorem dX4_bathe_19 : decode cX4_bathe 19 = .ok (.aload_n 0, 1) := by decide +kernel
theorem dX4_bathe_20 : decode cX4_bathe 20 = .ok (.ldc 66, 2) := by decide +kernel
theorem dX4_bathe_22 : decode cX4_bathe 22 = .ok (.invokevirtual 67, 3) := by decide +kernel
theorem dX4_bathe_25 : decode cX4_bathe 25 = .ok (.ireturn, 1) := by decide +kernel
theorem dX4_bathe_26 : decode cX4_bathe 26 = .ok (.aload_n 0, 1) := by decide +kernel
theorem dX4_bathe_27 : decode cX4_bathe 27 = .ok (.getfield 12, 3) := by decide +kernel
theorem dX4_bathe_30 : decode cX4_bathe 30 = .ok (.iload_n 1, 1) := by decide +kernel
theorem dX4_bathe_31 : decode cX4_bathe 31 = .ok (.aload_n 0, 1) := by decide +kernel
theorem dX4_bathe_32 : decode cX4_bathe 32 = .ok (.invokevirtual 98, 3) := by decide +kernel
theorem dX4_bathe_35 : decode cX4_bathe 35 = .ok (.iload_n 2, 1) := by decide +kernel
theorem dX4_bathe_36 : decode cX4_bathe 36 = .ok (.invokevirtual 102, 3) := by decide +kernel
theorem dX4_bathe_39 : decode cX4_bathe 39 = .ok (.aload_n 0, 1) := by decide +kernel
theorem dX4_bathe_40 : decode cX4_bathe 40 = .ok (.getfield 12, 3) := by decide +kernel
theorem dX4_bathe_43 : decode cX4_bathe 43 = .ok (.iload_n 1, 1) := by decide +kernel
theorem dX4_bathe_44 : decode cX4_bathe 44 = .ok (.invokevirtual 106, 3) := by decide +kernel
theorem dX4_bathe_47 : decode cX4_bathe 47 = .ok (.ireturn, 1) := by decide +kernel
theorem dX4_scrape_0 : decode cX4_scrape 0 = .ok (.iload_n 1, 1) := by decide +kernel
theorem dX4_scrape_1 : decode cX4_scrape 1 = .ok (.invokestatic 58, 3) := by decide +kernel
theorem dX4_scrape_4 : decode cX4_scrape 4 = .ok (.istore_n 3, 1) := by decide +kernel
theorem dX4_scrape_5 : decode cX4_scrape 5 = .ok (.iload_n 3, 1) := by decide +kernel
theorem dX4_scrape_6 : decode cX4_scrape 6 = .ok (.ifCond .lt 14, 3) := by decide +kernel
theorem dX4_scrape_9 : decode cX4_scrape 9 = .ok (.iload_n 2, 1) := by decide +kernel
theorem dX4_scrape_10 : decode cX4_scrape 10 = .ok (.iconst 1, 1) := by decide +kernel
theorem dX4_scrape_11 : decode cX4_scrape 11 = .ok (.if_icmp .lt 9, 3) := by decide +kernel
theorem dX4_scrape_14 : decode cX4_scrape 14 = .ok (.iload_n 2, 1) := by decide +kernel
theorem dX4_scrape_15 : decode cX4_scrape 15 = .ok (.bipush 100, 2) := by decide +kernel
theorem dX4_scrape_17 : decode cX4_scrape 17 = .ok (.if_icmp .le 10, 3) := by decide +kernel
theorem dX4_scrape_20 : decode cX4_scrape 20 = .ok (.aload_n 0, 1) := by decide +kernel
theorem dX4_scrape_21 : decode cX4_scrape 21 = .ok (.ldc 66, 2) := by decide +kernel
theorem dX4_scrape_23 : decode cX4_scrape 23 = .ok (.invokevirtual 67, 3) := by decide +kernel
theorem dX4_scrape_26 : decode cX4_scrape 26 = .ok (.ireturn, 1) := by decide +kernel
theorem dX4_scrape_27 : decode cX4_scrape 27 = .ok (.aload_n 0, 1) := by decide +kernel
theorem dX4_scrape_28 : decode cX4_scrape 28 = .ok (.getfield 12, 3) := by decide +kernel
theorem dX4_scrape_31 : decode cX4_scrape 31 = .ok (.iload_n 3, 1) := by decide +kernel
theorem dX4_scrape_32 : decode cX4_scrape 32 = .ok (.iload_n 2, 1) := by decide +kernel
theorem dX4_scrape_33 : decode cX4_scrape 33 = .ok (.invokevirtual 109, 3) := by decide +kernel
theorem dX4_scrape_36 : decode cX4_scrape 36 = .ok (.aload_n 0, 1) := by decide +kernel
theorem dX4_scrape_37 : decode cX4_scrape 37 = .ok (.getfield 12, 3) := by decide +kernel
theorem dX4_scrape_40 : decode cX4_scrape 40 = .ok (.getfield 112, 3) := by decide +kernel
theorem dX4_scrape_43 : decode cX4_scrape 43 = .ok (.iload_n 3, 1) := by decide +kernel
theorem dX4_scrape_44 : decode cX4_scrape 44 = .ok (.iaload, 1) := by decide +kernel
theorem dX4_scrape_45 : decode cX4_scrape 45 = .ok (.ireturn, 1) := by decide +kernel
theorem dX4_about_0 : decode cX4_about 0 = .ok (.iload_n 1, 1) := by decide +kernel
theorem dX4_about_1 : decode cX4_about 1 = .ok (.invokestatic 58, 3) := by decide +kernel
theorem dX4_about_4 : decode cX4_about 4 = .ok (.istore_n 3, 1) := by decide +kernel
theorem dX4_about_5 : decode cX4_about 5 = .ok (.iload_n 3, 1) := by decide +kernel
theorem dX4_about_6 : decode cX4_about 6 = .ok (.ifCond .ge 10, 3) := by decide +kernel
theorem dX4_about_9 : decode cX4_about 9 = .ok (.aload_n 0, 1) := by decide +kernel
theorem dX4_about_10 : decode cX4_about 10 = .ok (.ldc 66, 2) := by decide +kernel
theorem dX4_about_12 : decode cX4_about 12 = .ok (.invokevirtual 67, 3) := by decide +kernel
theorem dX4_about_15 : decode cX4_about 15 = .ok (.ireturn, 1) := by decide +kernel
theorem dX4_about_16 : decode cX4_about 16 = .ok (.iload_n 2, 1) := by decide +kernel
theorem dX4_about_17 : decode cX4_about 17 = .ok (.tableswitch 92 0 4 #[35, 45, 55, 73, 82], 35) := by decide +kernel
theorem dX4_about_52 : decode cX4_about 52 = .ok (.aload_n 0, 1) := by decide +kernel
theorem dX4_about_53 : decode cX4_about 53 = .ok (.getfield 12, 3) := by decide +kernel
theorem dX4_about_56 : decode cX4_about 56 = .ok (.getfield 70, 3) := by decide +kernel
theorem dX4_about_59 : decode cX4_about 59 = .ok (.iload_n 3, 1) := by decide +kernel
theorem dX4_about_60 : decode cX4_about 60 = .ok (.iaload, 1) := by decide +kernel
theorem dX4_about_61 : decode cX4_about 61 = .ok (.ireturn, 1) := by decide +kernel
theorem dX4_about_62 : decode cX4_about 62 = .ok (.aload_n 0, 1) := by decide +kernel
theorem dX4_about_63 : decode cX4_about 63 = .ok (.getfield 12, 3) := by decide +kernel
theorem dX4_about_66 : decode cX4_about 66 = .ok (.getfield 112, 3) := by decide +kernel
theorem dX4_about_69 : decode cX4_about 69 = .ok (.iload_n 3, 1) := by decide +kernel
theorem dX4_about_70 : decode cX4_about 70 = .ok (.iaload, 1) := by decide +kernel
theorem dX4_about_71 : decode cX4_about 71 = .ok (.ireturn, 1) := by decide +kernel
theorem dX4_about_72 : decode cX4_about 72 = .ok (.aload_n 0, 1) := by decide +kernel
theorem dX4_about_73 : decode cX4_about 73 = .ok (.getfield 12, 3) := by decide +kernel
theorem dX4_about_76 : decode cX4_about 76 = .ok (.getfield 88, 3) := by decide +kernel
theorem dX4_about_79 : decode cX4_about 79 = .ok (.iload_n 3, 1) := by decide +kernel
theorem dX4_about_80 : decode cX4_about 80 = .ok (.baload, 1) := by decide +kernel
theorem dX4_about_81 : decode cX4_about 81 = .ok (.ifCond .eq 7, 3) := by decide +kernel
theorem dX4_about_84 : decode cX4_about 84 = .ok (.iconst 1, 1) := by decide +kernel
theorem dX4_about_85 : decode cX4_about 85 = .ok (.goto 4, 3) := by decide +kernel
theorem dX4_about_88 : decode cX4_about 88 = .ok (.iconst 0, 1) := by decide +kernel
theorem dX4_about_89 : decode cX4_about 89 = .ok (.ireturn, 1) := by decide +kernel
theorem dX4_about_90 : decode cX4_about 90 = .ok (.aload_n 0, 1) := by decide +kernel
theorem dX4_about_91 : decode cX4_about 91 = .ok (.getfield 12, 3) := by decide +kernel
theorem dX4_about_94 : decode cX4_about 94 = .ok (.iload_n 3, 1) := by decide +kernel
theorem dX4_about_95 : decode cX4_about 95 = .ok (.invokevirtual 115, 3) := by decide +kernel
theorem dX4_about_98 : decode cX4_about 98 = .ok (.ireturn, 1) := by decide +kernel
theorem dX4_about_99 : decode cX4_about 99 = .ok (.aload_n 0, 1) := by decide +kernel
theorem dX4_about_100 : decode cX4_about 100 = .ok (.getfield 12, 3) := by decide +kernel
theorem dX4_about_103 : decode cX4_about 103 = .ok (.getfield 118, 3) := by decide +kernel
theorem dX4_about_106 : decode cX4_about 106 = .ok (.iload_n 3, 1) := by decide +kernel
theorem dX4_about_107 : decode cX4_about 107 = .ok (.iaload, 1) := by decide +kernel
theorem dX4_about_108 : decode cX4_about 108 = .ok (.ireturn, 1) := by decide +kernel
theorem dX4_about_109 : decode cX4_about 109 = .ok (.aload_n 0, 1) := by decide +kernel
theorem dX4_about_110 : decode cX4_about 110 = .ok (.ldc 66, 2) := by decide +kernel
theorem dX4_about_112 : decode cX4_about 112 = .ok (.invokevirtual 67, 3) := by decide +kernel
theorem dX4_about_115 : decode cX4_about 115 = .ok (.ireturn, 1) := by decide +kernel
theorem dX4_span_0 : decode cX4_span 0 = .ok (.iload_n 1, 1) := by decide +kernel
theorem dX4_span_1 : decode cX4_span 1 = .ok (.invokestatic 58, 3) := by decide +kernel
theorem dX4_span_4 : decode cX4_span 4 = .ok (.istore 4, 2) := by decide +kernel
theorem dX4_span_6 : decode cX4_span 6 = .ok (.iload 4, 2) := by decide +kernel
theorem dX4_span_8 : decode cX4_span 8 = .ok (.ifCond .lt 10, 3) := by decide +kernel
theorem dX4_span_11 : decode cX4_span 11 = .ok (.iload_n 2, 1) := by decide +kernel
theorem dX4_span_12 : decode cX4_span 12 = .ok (.invokestatic 121, 3) := by decide +kernel
theorem dX4_span_15 : decode cX4_span 15 = .ok (.ifCond .ne 10, 3) := by decide +kernel
theorem dX4_span_18 : decode cX4_span 18 = .ok (.aload_n 0, 1) := by decide +kernel
theorem dX4_span_19 : decode cX4_span 19 = .ok (.ldc 66, 2) := by decide +kernel
theorem dX4_span_21 : decode cX4_span 21 = .ok (.invokevirtual 67, 3) := by decide +kernel
theorem dX4_span_24 : decode cX4_span 24 = .ok (.ireturn, 1) := by decide +kernel
theorem dX4_span_25 : decode cX4_span 25 = .ok (.aload_n 0, 1) := by decide +kernel
theorem dX4_span_26 : decode cX4_span 26 = .ok (.getfield 12, 3) := by decide +kernel
theorem dX4_span_29 : decode cX4_span 29 = .ok (.getfield 88, 3) := by decide +kernel
theorem dX4_span_32 : decode cX4_span 32 = .ok (.iload 4, 2) := by decide +kernel
theorem dX4_span_34 : decode cX4_span 34 = .ok (.baload, 1) := by decide +kernel
theorem dX4_span_35 : decode cX4_span 35 = .ok (.ifCond .eq 10, 3) := by decide +kernel
theorem dX4_span_38 : decode cX4_span 38 = .ok (.aload_n 0, 1) := by decide +kernel
theorem dX4_span_39 : decode cX4_span 39 = .ok (.ldc 124, 2) := by decide +kernel
theorem dX4_span_41 : decode cX4_span 41 = .ok (.invokevirtual 67, 3) := by decide +kernel
theorem dX4_span_44 : decode cX4_span 44 = .ok (.ireturn, 1) := by decide +kernel
theorem dX4_span_45 : decode cX4_span 45 = .ok (.aload_n 0, 1) := by decide +kernel
theorem dX4_span_46 : decode cX4_span 46 = .ok (.getfield 12, 3) := by decide +kernel
theorem dX4_span_49 : decode cX4_span 49 = .ok (.iload 4, 2) := by decide +kernel
theorem dX4_span_51 : decode cX4_span 51 = .ok (.iload_n 2, 1) := by decide +kernel
theorem dX4_span_52 : decode cX4_span 52 = .ok (.aload_n 0, 1) := by decide +kernel
theorem dX4_span_53 : decode cX4_span 53 = .ok (.invokevirtual 98, 3) := by decide +kernel
theorem dX4_span_56 : decode cX4_span 56 = .ok (.invokevirtual 125, 3) := by decide +kernel
theorem dX4_span_59 : decode cX4_span 59 = .ok (.istore 5, 2) := by decide +kernel
theorem dX4_span_61 : decode cX4_span 61 = .ok (.aload_n 0, 1) := by decide +kernel
theorem dX4_span_62 : decode cX4_span 62 = .ok (.getfield 12, 3) := by decide +kernel
theorem dX4_span_65 : decode cX4_span 65 = .ok (.iload 4, 2) := by decide +kernel
theorem dX4_span_67 : decode cX4_span 67 = .ok (.iload_n 2, 1) := by decide +kernel
theorem dX4_span_68 : decode cX4_span 68 = .ok (.aload_n 0, 1) := by decide +kernel
theorem dX4_span_69 : decode cX4_span 69 = .ok (.invokevirtual 98, 3) := by decide +kernel
theorem dX4_span_72 : decode cX4_span 72 = .ok (.invokevirtual 129, 3) := by decide +kernel
theorem dX4_span_75 : decode cX4_span 75 = .ok (.istore 6, 2) := by decide +kernel
theorem dX4_span_77 : decode cX4_span 77 = .ok (.iload 5, 2) := by decide +kernel
theorem dX4_span_79 : decode cX4_span 79 = .ok (.iload 6, 2) := by decide +kernel
theorem dX4_span_81 : decode cX4_span 81 = .ok (.if_icmp .le 10, 3) := by decide +kernel
theorem dX4_span_84 : decode cX4_span 84 = .ok (.aload_n 0, 1) := by decide +kernel
theorem dX4_span_85 : decode cX4_span 85 = .ok (.ldc 132, 2) := by decide +kernel
theorem dX4_span_87 : decode cX4_span 87 = .ok (.invokevirtual 67, 3) := by decide +kernel
theorem dX4_span_90 : decode cX4_span 90 = .ok (.ireturn, 1) := by decide +kernel
theorem dX4_span_91 : decode cX4_span 91 = .ok (.iload_n 3, 1) := by decide +kernel
theorem dX4_span_92 : decode cX4_span 92 = .ok (.ifCond .eq 8, 3) := by decide +kernel
theorem dX4_span_95 : decode cX4_span 95 = .ok (.iload 6, 2) := by decide +kernel
theorem dX4_span_97 : decode cX4_span 97 = .ok (.goto 5, 3) := by decide +kernel
theorem dX4_span_100 : decode cX4_span 100 = .ok (.iload 5, 2) := by decide +kernel
theorem dX4_span_102 : decode cX4_span 102 = .ok (.ireturn, 1) := by decide +kernel
theorem dX4_wish_0 : decode cX4_wish 0 = .ok (.iload_n 1, 1) := by decide +kernel
theorem dX4_wish_1 : decode cX4_wish 1 = .ok (.invokestatic 58, 3) := by decide +kernel
theorem dX4_wish_4 : decode cX4_wish 4 = .ok (.istore_n 3, 1) := by decide +kernel
theorem dX4_wish_5 : decode cX4_wish 5 = .ok (.iload_n 3, 1) := by decide +kernel
theorem dX4_wish_6 : decode cX4_wish 6 = .ok (.ifCond .lt 10, 3) := by decide +kernel
theorem dX4_wish_9 : decode cX4_wish 9 = .ok (.iload_n 2, 1) := by decide +kernel
theorem dX4_wish_10 : decode cX4_wish 10 = .ok (.invokestatic 121, 3) := by decide +kernel
theorem dX4_wish_13 : decode cX4_wish 13 = .ok (.ifCond .ne 10, 3) := by decide +kernel
theorem dX4_wish_16 : decode cX4_wish 16 = .ok (.aload_n 0, 1) := by decide +kernel
theorem dX4_wish_17 : decode cX4_wish 17 = .ok (.ldc 66, 2) := by decide +kernel
theorem dX4_wish_19 : decode cX4_wish 19 = .ok (.invokevirtual 67, 3) := by decide +kernel
theorem dX4_wish_22 : decode cX4_wish 22 = .ok (.ireturn, 1) := by decide +kernel
theorem dX4_wish_23 : decode cX4_wish 23 = .ok (.aload_n 0, 1) := by decide +kernel
theorem dX4_wish_24 : decode cX4_wish 24 = .ok (.getfield 12, 3) := by decide +kernel
theorem dX4_wish_27 : decode cX4_wish 27 = .ok (.getfield 88, 3) := by decide +kernel
theorem dX4_wish_30 : decode cX4_wish 30 = .ok (.iload_n 3, 1) := by decide +kernel
theorem dX4_wish_31 : decode cX4_wish 31 = .ok (.baload, 1) := by decide +kernel
theorem dX4_wish_32 : decode cX4_wish 32 = .ok (.ifCond .ne 25, 3) := by decide +kernel
theorem dX4_wish_35 : decode cX4_wish 35 = .ok (.aload_n 0, 1) := by decide +kernel
theorem dX4_wish_36 : decode cX4_wish 36 = .ok (.getfield 23, 3) := by decide +kernel
theorem dX4_wish_39 : decode cX4_wish 39 = .ok (.iload_n 3, 1) := by decide +kernel
theorem dX4_wish_40 : decode cX4_wish 40 = .ok (.invokevirtual 133, 3) := by decide +kernel
theorem dX4_wish_43 : decode cX4_wish 43 = .ok (.ifCond .eq 14, 3) := by decide +kernel
theorem dX4_wish_46 : decode cX4_wish 46 = .ok (.aload_n 0, 1) := by decide +kernel
theorem dX4_wish_47 : decode cX4_wish 47 = .ok (.getfield 23, 3) := by decide +kernel
theorem dX4_wish_50 : decode cX4_wish 50 = .ok (.iload_n 3, 1) := by decide +kernel
theorem dX4_wish_51 : decode cX4_wish 51 = .ok (.invokevirtual 136, 3) := by decide +kernel
theorem dX4_wish_54 : decode cX4_wish 54 = .ok (.ifCond .eq 10, 3) := by decide +kernel
theorem dX4_wish_57 : decode cX4_wish 57 = .ok (.aload_n 0, 1) := by decide +kernel
theorem dX4_wish_58 : decode cX4_wish 58 = .ok (.ldc 124, 2) := by decide +kernel
theorem dX4_wish_60 : decode cX4_wish 60 = .ok (.invokevirtual 67, 3) := by decide +kernel
theorem dX4_wish_63 : decode cX4_wish 63 = .ok (.ireturn, 1) := by decide +kernel
theorem dX4_wish_64 : decode cX4_wish 64 = .ok (.aload_n 0, 1) := by decide +kernel
theorem dX4_wish_65 : decode cX4_wish 65 = .ok (.getfield 23, 3) := by decide +kernel
theorem dX4_wish_68 : decode cX4_wish 68 = .ok (.getfield 139, 3) := by decide +kernel
theorem dX4_wish_71 : decode cX4_wish 71 = .ok (.bipush 8, 2) := by decide +kernel
theorem dX4_wish_73 : decode cX4_wish 73 = .ok (.if_icmp .lt 10, 3) := by decide +kernel
theorem dX4_wish_76 : decode cX4_wish 76 = .ok (.aload_n 0, 1) := by decide +kernel
theorem dX4_wish_77 : decode cX4_wish 77 = .ok (.ldc 142, 2) := by decide +kernel
theorem dX4_wish_79 : decode cX4_wish 79 = .ok (.invokevirtual 67, 3) := by decide +kernel
theorem dX4_wish_82 : decode cX4_wish 82 = .ok (.ireturn, 1) := by decide +kernel
theorem dX4_wish_83 : decode cX4_wish 83 = .ok (.aload_n 0, 1) := by decide +kernel
theorem dX4_wish_84 : decode cX4_wish 84 = .ok (.getfield 23, 3) := by decide +kernel
theorem dX4_wish_87 : decode cX4_wish 87 = .ok (.iload_n 3, 1) := by decide +kernel
theorem dX4_wish_88 : decode cX4_wish 88 = .ok (.iload_n 2, 1) := by decide +kernel
theorem dX4_wish_89 : decode cX4_wish 89 = .ok (.invokevirtual 143, 3) := by decide +kernel
theorem dX4_wish_92 : decode cX4_wish 92 = .ok (.aload_n 0, 1) := by decide +kernel
theorem dX4_wish_93 : decode cX4_wish 93 = .ok (.getfield 23, 3) := by decide +kernel
theorem dX4_wish_96 : decode cX4_wish 96 = .ok (.getfield 139, 3) := by decide +kernel
theorem dX4_wish_99 : decode cX4_wish 99 = .ok (.ireturn, 1) := by decide +kernel
theorem dX4_clear_0 : decode cX4_clear 0 = .ok (.aload_n 0, 1) := by decide +kernel
theorem dX4_clear_1 : decode cX4_clear 1 = .ok (.getfield 23, 3) := by decide +kernel
theorem dX4_clear_4 : decode cX4_clear 4 = .ok (.getfield 139, 3) := by decide +kernel
theorem dX4_clear_7 : decode cX4_clear 7 = .ok (.istore_n 1, 1) := by decide +kernel
theorem dX4_clear_8 : decode cX4_clear 8 = .ok (.aload_n 0, 1) := by decide +kernel
theorem dX4_clear_9 : decode cX4_clear 9 = .ok (.getfield 23, 3) := by decide +kernel
theorem dX4_clear_12 : decode cX4_clear 12 = .ok (.iconst 0, 1) := by decide +kernel
theorem dX4_clear_13 : decode cX4_clear 13 = .ok (.putfield 139, 3) := by decide +kernel
theorem dX4_clear_16 : decode cX4_clear 16 = .ok (.iload_n 1, 1) := by decide +kernel
theorem dX4_clear_17 : decode cX4_clear 17 = .ok (.ireturn, 1) := by decide +kernel
theorem dX4_baths_0 : decode cX4_baths 0 = .ok (.aload_n 0, 1) := by decide +kernel
theorem dX4_baths_1 : decode cX4_baths 1 = .ok (.getfield 23, 3) := by decide +kernel
theorem dX4_baths_4 : decode cX4_baths 4 = .ok (.aload_n 0, 1) := by decide +kernel
theorem dX4_baths_5 : decode cX4_baths 5 = .ok (.getfield 12, 3) := by decide +kernel
theorem dX4_baths_8 : decode cX4_baths 8 = .ok (.aload_n 0, 1) := by decide +kernel
theorem dX4_baths_9 : decode cX4_baths 9 = .ok (.invokevirtual 98, 3) := by decide +kernel
theorem dX4_baths_12 : decode cX4_baths 12 = .ok (.invokevirtual 146, 3) := by decide +kernel
theorem dX4_baths_15 : decode cX4_baths 15 = .ok (.ifCond .eq 13, 3) := by decide +kernel
theorem dX4_baths_18 : decode cX4_baths 18 = .ok (.aload_n 0, 1) := by decide +kernel
theorem dX4_baths_19 : decode cX4_baths 19 = .ok (.getfield 23, 3) := by decide +kernel
theorem dX4_baths_22 : decode cX4_baths 22 = .ok (.getfield 150, 3) := by decide +kernel
theorem dX4_baths_25 : decode cX4_baths 25 = .ok (.goto 9, 3) := by decide +kernel
theorem dX4_baths_28 : decode cX4_baths 28 = .ok (.aload_n 0, 1) := by decide +kernel
theorem dX4_baths_29 : decode cX4_baths 29 = .ok (.ldc 132, 2) := by decide +kernel
theorem dX4_baths_31 : decode cX4_baths 31 = .ok (.invokevirtual 67, 3) := by decide +kernel
theorem dX4_baths_34 : decode cX4_baths 34 = .ok (.ireturn, 1) := by decide +kernel
theorem dX4_minute_0 : decode cX4_minute 0 = .ok (.iload_n 1, 1) := by decide +kernel
theorem dX4_minute_1 : decode cX4_minute 1 = .ok (.ifCond .ge 10, 3) := by decide +kernel
theorem dX4_minute_4 : decode cX4_minute 4 = .ok (.aload_n 0, 1) := by decide +kernel
theorem dX4_minute_5 : decode cX4_minute 5 = .ok (.ldc 66, 2) := by decide +kernel
theorem dX4_minute_7 : decode cX4_minute 7 = .ok (.invokevirtual 67, 3) := by decide +kernel
theorem dX4_minute_10 : decode cX4_minute 10 = .ok (.ireturn, 1) := by decide +kernel
theorem dX4_minute_11 : decode cX4_minute 11 = .ok (.aload_n 0, 1) := by decide +kernel
theorem dX4_minute_12 : decode cX4_minute 12 = .ok (.getfield 23, 3) := by decide +kernel
theorem dX4_minute_15 : decode cX4_minute 15 = .ok (.aload_n 0, 1) := by decide +kernel
theorem dX4_minute_16 : decode cX4_minute 16 = .ok (.getfield 12, 3) := by decide +kernel
theorem dX4_minute_19 : decode cX4_minute 19 = .ok (.aload_n 0, 1) := by decide +kernel
theorem dX4_minute_20 : decode cX4_minute 20 = .ok (.invokevirtual 98, 3) := by decide +kernel
theorem dX4_minute_23 : decode cX4_minute 23 = .ok (.invokevirtual 146, 3) := by decide +kernel
theorem dX4_minute_26 : decode cX4_minute 26 = .ok (.ifCond .eq 14, 3) := by decide +kernel
theorem dX4_minute_29 : decode cX4_minute 29 = .ok (.iload_n 1, 1) := by decide +kernel
theorem dX4_minute_30 : decode cX4_minute 30 = .ok (.aload_n 0, 1) := by decide +kernel
theorem dX4_minute_31 : decode cX4_minute 31 = .ok (.getfield 23, 3) := by decide +kernel
theorem dX4_minute_34 : decode cX4_minute 34 = .ok (.getfield 150, 3) := by decide +kernel
theorem dX4_minute_37 : decode cX4_minute 37 = .ok (.if_icmp .lt 10, 3) := by decide +kernel
theorem dX4_minute_40 : decode cX4_minute 40 = .ok (.aload_n 0, 1) := by decide +kernel
theorem dX4_minute_41 : decode cX4_minute 41 = .ok (.ldc 132, 2) := by decide +kernel
theorem dX4_minute_43 : decode cX4_minute 43 = .ok (.invokevirtual 67, 3) := by decide +kernel
theorem dX4_minute_46 : decode cX4_minute 46 = .ok (.ireturn, 1) := by decide +kernel
theorem dX4_minute_47 : decode cX4_minute 47 = .ok (.aload_n 0, 1) := by decide +kernel
theorem dX4_minute_48 : decode cX4_minute 48 = .ok (.getfield 23, 3) := by decide +kernel
theorem dX4_minute_51 : decode cX4_minute 51 = .ok (.getfield 153, 3) := by decide +kernel
theorem dX4_minute_54 : decode cX4_minute 54 = .ok (.iload_n 1, 1) := by decide +kernel
theorem dX4_minute_55 : decode cX4_minute 55 = .ok (.iaload, 1) := by decide +kernel
theorem dX4_minute_56 : decode cX4_minute 56 = .ok (.ireturn, 1) := by decide +kernel
theorem dX4_work_0 : decode cX4_work 0 = .ok (.aload_n 0, 1) := by decide +kernel
theorem dX4_work_1 : decode cX4_work 1 = .ok (.getfield 23, 3) := by decide +kernel
theorem dX4_work_4 : decode cX4_work 4 = .ok (.aload_n 0, 1) := by decide +kernel
theorem dX4_work_5 : decode cX4_work 5 = .ok (.getfield 12, 3) := by decide +kernel
theorem dX4_work_8 : decode cX4_work 8 = .ok (.aload_n 0, 1) := by decide +kernel
theorem dX4_work_9 : decode cX4_work 9 = .ok (.invokevirtual 98, 3) := by decide +kernel
theorem dX4_work_12 : decode cX4_work 12 = .ok (.invokevirtual 146, 3) := by decide +kernel
theorem dX4_work_15 : decode cX4_work 15 = .ok (.ifCond .ne 10, 3) := by decide +kernel
theorem dX4_work_18 : decode cX4_work 18 = .ok (.aload_n 0, 1) := by decide +kernel
theorem dX4_work_19 : decode cX4_work 19 = .ok (.ldc 132, 2) := by decide +kernel
theorem dX4_work_21 : decode cX4_work 21 = .ok (.invokevirtual 67, 3) := by decide +kernel
theorem dX4_work_24 : decode cX4_work 24 = .ok (.ireturn, 1) := by decide +kernel
theorem dX4_work_25 : decode cX4_work 25 = .ok (.aload_n 0, 1) := by decide +kernel
theorem dX4_work_26 : decode cX4_work 26 = .ok (.getfield 23, 3) := by decide +kernel
theorem dX4_work_29 : decode cX4_work 29 = .ok (.aload_n 0, 1) := by decide +kernel
theorem dX4_work_30 : decode cX4_work 30 = .ok (.getfield 12, 3) := by decide +kernel
theorem dX4_work_33 : decode cX4_work 33 = .ok (.aload_n 0, 1) := by decide +kernel
theorem dX4_work_34 : decode cX4_work 34 = .ok (.invokevirtual 98, 3) := by decide +kernel
theorem dX4_work_37 : decode cX4_work 37 = .ok (.invokevirtual 156, 3) := by decide +kernel
theorem dX4_work_40 : decode cX4_work 40 = .ok (.aload_n 0, 1) := by decide +kernel
theorem dX4_work_41 : decode cX4_work 41 = .ok (.getfield 23, 3) := by decide +kernel
theorem dX4_work_44 : decode cX4_work 44 = .ok (.getfield 150, 3) := by decide +kernel
theorem dX4_work_47 : decode cX4_work 47 = .ok (.ireturn, 1) := by decide +kernel
theorem dX4_keep_0 : decode cX4_keep 0 = .ok (.iload_n 1, 1) := by decide +kernel
theorem dX4_keep_1 : decode cX4_keep 1 = .ok (.invokestatic 160, 3) := by decide +kernel
theorem dX4_keep_4 : decode cX4_keep 4 = .ok (.ifCond .ne 10, 3) := by decide +kernel
theorem dX4_keep_7 : decode cX4_keep 7 = .ok (.aload_n 0, 1) := by decide +kernel
theorem dX4_keep_8 : decode cX4_keep 8 = .ok (.ldc 66, 2) := by decide +kernel
theorem dX4_keep_10 : decode cX4_keep 10 = .ok (.invokevirtual 67, 3) := by decide +kernel
theorem dX4_keep_13 : decode cX4_keep 13 = .ok (.ireturn, 1) := by decide +kernel
theorem dX4_keep_14 : decode cX4_keep 14 = .ok (.aload_n 0, 1) := by decide +kernel
theorem dX4_keep_15 : decode cX4_keep 15 = .ok (.getfield 16, 3) := by decide +kernel
theorem dX4_keep_18 : decode cX4_keep 18 = .ok (.iload_n 1, 1) := by decide +kernel
theorem dX4_keep_19 : decode cX4_keep 19 = .ok (.aaload, 1) := by decide +kernel
theorem dX4_keep_20 : decode cX4_keep 20 = .ok (.astore_n 2, 1) := by decide +kernel
theorem dX4_keep_21 : decode cX4_keep 21 = .ok (.aload_n 2, 1) := by decide +kernel
theorem dX4_keep_22 : decode cX4_keep 22 = .ok (.ifnonnull 7, 3) := by decide +kernel
theorem dX4_keep_25 : decode cX4_keep 25 = .ok (.iconst 1, 1) := by decide +kernel
theorem dX4_keep_26 : decode cX4_keep 26 = .ok (.goto 4, 3) := by decide +kernel
theorem dX4_keep_29 : decode cX4_keep 29 = .ok (.iconst 0, 1) := by decide +kernel
theorem dX4_keep_30 : decode cX4_keep 30 = .ok (.istore_n 3, 1) := by decide +kernel
theorem dX4_keep_31 : decode cX4_keep 31 = .ok (.aload_n 2, 1) := by decide +kernel
theorem dX4_keep_32 : decode cX4_keep 32 = .ok (.ifnonnull 18, 3) := by decide +kernel
theorem dX4_keep_35 : decode cX4_keep 35 = .ok (.new 9, 3) := by decide +kernel
theorem dX4_keep_38 : decode cX4_keep 38 = .ok (.dup, 1) := by decide +kernel
theorem dX4_keep_39 : decode cX4_keep 39 = .ok (.invokespecial 11, 3) := by decide +kernel
theorem dX4_keep_42 : decode cX4_keep 42 = .ok (.astore_n 2, 1) := by decide +kernel
theorem dX4_keep_43 : decode cX4_keep 43 = .ok (.aload_n 0, 1) := by decide +kernel
theorem dX4_keep_44 : decode cX4_keep 44 = .ok (.getfield 16, 3) := by decide +kernel
theorem dX4_keep_47 : decode cX4_keep 47 = .ok (.iload_n 1, 1) := by decide +kernel
theorem dX4_keep_48 : decode cX4_keep 48 = .ok (.aload_n 2, 1) := by decide +kernel
theorem dX4_keep_49 : decode cX4_keep 49 = .ok (.aastore, 1) := by decide +kernel
theorem dX4_keep_50 : decode cX4_keep 50 = .ok (.iconst 0, 1) := by decide +kernel
theorem dX4_keep_51 : decode cX4_keep 51 = .ok (.istore 4, 2) := by decide +kernel
theorem dX4_keep_53 : decode cX4_keep 53 = .ok (.iload 4, 2) := by decide +kernel
theorem dX4_keep_55 : decode cX4_keep 55 = .ok (.iconst 3, 1) := by decide +kernel
theorem dX4_keep_56 : decode cX4_keep 56 = .ok (.if_icmp .ge 19, 3) := by decide +kernel
theorem dX4_keep_59 : decode cX4_keep 59 = .ok (.aload_n 2, 1) := by decide +kernel
theorem dX4_keep_60 : decode cX4_keep 60 = .ok (.aload_n 0, 1) := by decide +kernel
theorem dX4_keep_61 : decode cX4_keep 61 = .ok (.getfield 12, 3) := by decide +kernel
theorem dX4_keep_64 : decode cX4_keep 64 = .ok (.iload 4, 2) := by decide +kernel
theorem dX4_keep_66 : decode cX4_keep 66 = .ok (.invokevirtual 163, 3) := by decide +kernel
theorem dX4_keep_69 : decode cX4_keep 69 = .ok (.iinc 4 1, 3) := by decide +kernel
theorem dX4_keep_72 : decode cX4_keep 72 = .ok (.goto (-19), 3) := by decide +kernel
theorem dX4_keep_75 : decode cX4_keep 75 = .ok (.iload_n 3, 1) := by decide +kernel
theorem dX4_keep_76 : decode cX4_keep 76 = .ok (.ifCond .eq 7, 3) := by decide +kernel
theorem dX4_keep_79 : decode cX4_keep 79 = .ok (.iconst 1, 1) := by decide +kernel
theorem dX4_keep_80 : decode cX4_keep 80 = .ok (.goto 4, 3) := by decide +kernel
theorem dX4_keep_83 : decode cX4_keep 83 = .ok (.iconst 0, 1) := by decide +kernel
theorem dX4_keep_84 : decode cX4_keep 84 = .ok (.ireturn, 1) := by decide +kernel
theorem dX4_changed_0 : decode cX4_changed 0 = .ok (.iload_n 1, 1) := by decide +kernel
theorem dX4_changed_1 : decode cX4_changed 1 = .ok (.invokestatic 92, 3) := by decide +kernel
theorem dX4_changed_4 : decode cX4_changed 4 = .ok (.ifCond .eq 10, 3) := by decide +kernel
theorem dX4_changed_7 : decode cX4_changed 7 = .ok (.iload_n 2, 1) := by decide +kernel
theorem dX4_changed_8 : decode cX4_changed 8 = .ok (.invokestatic 160, 3) := by decide +kernel
theorem dX4_changed_11 : decode cX4_changed 11 = .ok (.ifCond .ne 10, 3) := by decide +kernel
theorem dX4_changed_14 : decode cX4_changed 14 = .ok (.aload_n 0, 1) := by decide +kernel
theorem dX4_changed_15 : decode cX4_changed 15 = .ok (.ldc 66, 2) := by decide +kernel
theorem dX4_changed_17 : decode cX4_changed 17 = .ok (.invokevirtual 67, 3) := by decide +kernel
theorem dX4_changed_20 : decode cX4_changed 20 = .ok (.ireturn, 1) := by decide +kernel
theorem dX4_changed_21 : decode cX4_changed 21 = .ok (.aload_n 0, 1) := by decide +kernel
theorem dX4_changed_22 : decode cX4_changed 22 = .ok (.getfield 16, 3) := by decide +kernel
theorem dX4_changed_25 : decode cX4_changed 25 = .ok (.iload_n 2, 1) := by decide +kernel
theorem dX4_changed_26 : decode cX4_changed 26 = .ok (.aaload, 1) := by decide +kernel
theorem dX4_changed_27 : decode cX4_changed 27 = .ok (.astore_n 3, 1) := by decide +kernel
theorem dX4_changed_28 : decode cX4_changed 28 = .ok (.aload_n 3, 1) := by decide +kernel
theorem dX4_changed_29 : decode cX4_changed 29 = .ok (.ifnonnull 10, 3) := by decide +kernel
theorem dX4_changed_32 : decode cX4_changed 32 = .ok (.aload_n 0, 1) := by decide +kernel
theorem dX4_changed_33 : decode cX4_changed 33 = .ok (.ldc 132, 2) := by decide +kernel
theorem dX4_changed_35 : decode cX4_changed 35 = .ok (.invokevirtual 67, 3) := by decide +kernel
theorem dX4_changed_38 : decode cX4_changed 38 = .ok (.ireturn, 1) := by decide +kernel
theorem dX4_changed_39 : decode cX4_changed 39 = .ok (.aload_n 0, 1) := by decide +kernel
theorem dX4_changed_40 : decode cX4_changed 40 = .ok (.getfield 12, 3) := by decide +kernel
theorem dX4_changed_43 : decode cX4_changed 43 = .ok (.aload_n 3, 1) := by decide +kernel
theorem dX4_changed_44 : decode cX4_changed 44 = .ok (.iload_n 1, 1) := by decide +kernel
theorem dX4_changed_45 : decode cX4_changed 45 = .ok (.invokevirtual 166, 3) := by decide +kernel
theorem dX4_changed_48 : decode cX4_changed 48 = .ok (.ireturn, 1) := by decide +kernel
theorem dX4_back_0 : decode cX4_back 0 = .ok (.iload_n 1, 1) := by decide +kernel
theorem dX4_back_1 : decode cX4_back 1 = .ok (.invokestatic 92, 3) := by decide +kernel
theorem dX4_back_4 : decode cX4_back 4 = .ok (.ifCond .eq 10, 3) := by decide +kernel
theorem dX4_back_7 : decode cX4_back 7 = .ok (.iload_n 2, 1) := by decide +kernel
theorem dX4_back_8 : decode cX4_back 8 = .ok (.invokestatic 160, 3) := by decide +kernel
theorem dX4_back_11 : decode cX4_back 11 = .ok (.ifCond .ne 10, 3) := by decide +kernel
theorem dX4_back_14 : decode cX4_back 14 = .ok (.aload_n 0, 1) := by decide +kernel
theorem dX4_back_15 : decode cX4_back 15 = .ok (.ldc 66, 2) := by decide +kernel
theorem dX4_back_17 : decode cX4_back 17 = .ok (.invokevirtual 67, 3) := by decide +kernel
theorem dX4_back_20 : decode cX4_back 20 = .ok (.ireturn, 1) := by decide +kernel
theorem dX4_back_21 : decode cX4_back 21 = .ok (.aload_n 0, 1) := by decide +kernel
theorem dX4_back_22 : decode cX4_back 22 = .ok (.getfield 16, 3) := by decide +kernel
theorem dX4_back_25 : decode cX4_back 25 = .ok (.iload_n 2, 1) := by decide +kernel
theorem dX4_back_26 : decode cX4_back 26 = .ok (.aaload, 1) := by decide +kernel
theorem dX4_back_27 : decode cX4_back 27 = .ok (.astore_n 3, 1) := by decide +kernel
theorem dX4_back_28 : decode cX4_back 28 = .ok (.aload_n 3, 1) := by decide +kernel
theorem dX4_back_29 : decode cX4_back 29 = .ok (.ifnonnull 10, 3) := by decide +kernel
theorem dX4_back_32 : decode cX4_back 32 = .ok (.aload_n 0, 1) := by decide +kernel
theorem dX4_back_33 : decode cX4_back 33 = .ok (.ldc 132, 2) := by decide +kernel
theorem dX4_back_35 : decode cX4_back 35 = .ok (.invokevirtual 67, 3) := by decide +kernel
theorem dX4_back_38 : decode cX4_back 38 = .ok (.ireturn, 1) := by decide +kernel
theorem dX4_back_39 : decode cX4_back 39 = .ok (.aload_n 0, 1) := by decide +kernel
theorem dX4_back_40 : decode cX4_back 40 = .ok (.getfield 12, 3) := by decide +kernel
theorem dX4_back_43 : decode cX4_back 43 = .ok (.aload_n 3, 1) := by decide +kernel
theorem dX4_back_44 : decode cX4_back 44 = .ok (.iload_n 1, 1) := by decide +kernel
theorem dX4_back_45 : decode cX4_back 45 = .ok (.invokevirtual 166, 3) := by decide +kernel
theorem dX4_back_48 : decode cX4_back 48 = .ok (.istore 4, 2) := by decide +kernel
theorem dX4_back_50 : decode cX4_back 50 = .ok (.aload_n 0, 1) := by decide +kernel
theorem dX4_back_51 : decode cX4_back 51 = .ok (.getfield 12, 3) := by decide +kernel
theorem dX4_back_54 : decode cX4_back 54 = .ok (.aload_n 3, 1) := by decide +kernel
theorem dX4_back_55 : decode cX4_back 55 = .ok (.iload_n 1, 1) := by decide +kernel
theorem dX4_back_56 : decode cX4_back 56 = .ok (.invokevirtual 163, 3) := by decide +kernel
theorem dX4_back_59 : decode cX4_back 59 = .ok (.iload 4, 2) := by decide +kernel
theorem dX4_back_61 : decode cX4_back 61 = .ok (.ireturn, 1) := by decide +kernel
theorem dX4_offset_0 : decode cX4_offset 0 = .ok (.iload_n 1, 1) := by decide +kernel
theorem dX4_offset_1 : decode cX4_offset 1 = .ok (.invokestatic 92, 3) := by decide +kernel
theorem dX4_offset_4 : decode cX4_offset 4 = .ok (.ifCond .eq 23, 3) := by decide +kernel
theorem dX4_offset_7 : decode cX4_offset 7 = .ok (.iload_n 2, 1) := by decide +kernel
theorem dX4_offset_8 : decode cX4_offset 8 = .ok (.iconst (-1), 1) := by decide +kernel
theorem dX4_offset_9 : decode cX4_offset 9 = .ok (.if_icmp .lt 18, 3) := by decide +kernel
theorem dX4_offset_12 : decode cX4_offset 12 = .ok (.iload_n 2, 1) := by decide +kernel
theorem dX4_offset_13 : decode cX4_offset 13 = .ok (.iconst 1, 1) := by decide +kernel
theorem dX4_offset_14 : decode cX4_offset 14 = .ok (.if_icmp .gt 13, 3) := by decide +kernel
theorem dX4_offset_17 : decode cX4_offset 17 = .ok (.iload_n 3, 1) := by decide +kernel
theorem dX4_offset_18 : decode cX4_offset 18 = .ok (.iconst (-1), 1) := by decide +kernel
theorem dX4_offset_19 : decode cX4_offset 19 = .ok (.if_icmp .lt 8, 3) := by decide +kernel
theorem dX4_offset_22 : decode cX4_offset 22 = .ok (.iload_n 3, 1) := by decide +kernel
theorem dX4_offset_23 : decode cX4_offset 23 = .ok (.iconst 1, 1) := by decide +kernel
theorem dX4_offset_24 : decode cX4_offset 24 = .ok (.if_icmp .le 10, 3) := by decide +kernel
theorem dX4_offset_27 : decode cX4_offset 27 = .ok (.aload_n 0, 1) := by decide +kernel
theorem dX4_offset_28 : decode cX4_offset 28 = .ok (.ldc 66, 2) := by decide +kernel
theorem dX4_offset_30 : decode cX4_offset 30 = .ok (.invokevirtual 67, 3) := by decide +kernel
theorem dX4_offset_33 : decode cX4_offset 33 = .ok (.ireturn, 1) := by decide +kernel
theorem dX4_offset_34 : decode cX4_offset 34 = .ok (.aload_n 0, 1) := by decide +kernel
theorem dX4_offset_35 : decode cX4_offset 35 = .ok (.getfield 30, 3) := by decide +kernel
theorem dX4_offset_38 : decode cX4_offset 38 = .ok (.getfield 170, 3) := by decide +kernel
theorem dX4_offset_41 : decode cX4_offset 41 = .ok (.iload_n 1, 1) := by decide +kernel
theorem dX4_offset_42 : decode cX4_offset 42 = .ok (.iload_n 2, 1) := by decide +kernel
theorem dX4_offset_43 : decode cX4_offset 43 = .ok (.iastore, 1) := by decide +kernel
theorem dX4_offset_44 : decode cX4_offset 44 = .ok (.aload_n 0, 1) := by decide +kernel
theorem dX4_offset_45 : decode cX4_offset 45 = .ok (.getfield 30, 3) := by decide +kernel
theorem dX4_offset_48 : decode cX4_offset 48 = .ok (.getfield 173, 3) := by decide +kernel
theorem dX4_offset_51 : decode cX4_offset 51 = .ok (.iload_n 1, 1) := by decide +kernel
theorem dX4_offset_52 : decode cX4_offset 52 = .ok (.iload_n 3, 1) := by decide +kernel
theorem dX4_offset_53 : decode cX4_offset 53 = .ok (.iastore, 1) := by decide +kernel
theorem dX4_offset_54 : decode cX4_offset 54 = .ok (.iconst 1, 1) := by decide +kernel
theorem dX4_offset_55 : decode cX4_offset 55 = .ok (.ireturn, 1) := by decide +kernel
theorem dX4_colour_0 : decode cX4_colour 0 = .ok (.iload_n 1, 1) := by decide +kernel
theorem dX4_colour_1 : decode cX4_colour 1 = .ok (.ifCond .lt 9, 3) := by decide +kernel
theorem dX4_colour_4 : decode cX4_colour 4 = .ok (.iload_n 1, 1) := by decide +kernel
theorem dX4_colour_5 : decode cX4_colour 5 = .ok (.bipush 36, 2) := by decide +kernel
theorem dX4_colour_7 : decode cX4_colour 7 = .ok (.if_icmp .lt 10, 3) := by decide +kernel
theorem dX4_colour_10 : decode cX4_colour 10 = .ok (.aload_n 0, 1) := by decide +kernel
theorem dX4_colour_11 : decode cX4_colour 11 = .ok (.ldc 66, 2) := by decide +kernel
theorem dX4_colour_13 : decode cX4_colour 13 = .ok (.invokevirtual 67, 3) := by decide +kernel
theorem dX4_colour_16 : decode cX4_colour 16 = .ok (.ireturn, 1) := by decide +kernel
theorem dX4_colour_17 : decode cX4_colour 17 = .ok (.aload_n 0, 1) := by decide +kernel
theorem dX4_colour_18 : decode cX4_colour 18 = .ok (.getfield 30, 3) := by decide +kernel
theorem dX4_colour_21 : decode cX4_colour 21 = .ok (.aload_n 0, 1) := by decide +kernel
theorem dX4_colour_22 : decode cX4_colour 22 = .ok (.getfield 12, 3) := by decide +kernel
theorem dX4_colour_25 : decode cX4_colour 25 = .ok (.iload_n 1, 1) := by decide +kernel
theorem dX4_colour_26 : decode cX4_colour 26 = .ok (.invokevirtual 176, 3) := by decide +kernel
theorem dX4_colour_29 : decode cX4_colour 29 = .ok (.ireturn, 1) := by decide +kernel
theorem dX4_steel_0 : decode cX4_steel 0 = .ok (.iload_n 1, 1) := by decide +kernel
theorem dX4_steel_1 : decode cX4_steel 1 = .ok (.invokestatic 92, 3) := by decide +kernel
theorem dX4_steel_4 : decode cX4_steel 4 = .ok (.ifCond .eq 10, 3) := by decide +kernel
theorem dX4_steel_7 : decode cX4_steel 7 = .ok (.iload_n 2, 1) := by decide +kernel
theorem dX4_steel_8 : decode cX4_steel 8 = .ok (.invokestatic 85, 3) := by decide +kernel
theorem dX4_steel_11 : decode cX4_steel 11 = .ok (.ifCond .ne 10, 3) := by decide +kernel
theorem dX4_steel_14 : decode cX4_steel 14 = .ok (.aload_n 0, 1) := by decide +kernel
theorem dX4_steel_15 : decode cX4_steel 15 = .ok (.ldc 66, 2) := by decide +kernel
theorem dX4_steel_17 : decode cX4_steel 17 = .ok (.invokevirtual 67, 3) := by decide +kernel
theorem dX4_steel_20 : decode cX4_steel 20 = .ok (.ireturn, 1) := by decide +kernel
theorem dX4_steel_21 : decode cX4_steel 21 = .ok (.aload_n 0, 1) := by decide +kernel
theorem dX4_steel_22 : decode cX4_steel 22 = .ok (.getfield 30, 3) := by decide +kernel
theorem dX4_steel_25 : decode cX4_steel 25 = .ok (.getfield 179, 3) := by decide +kernel
theorem dX4_steel_28 : decode cX4_steel 28 = .ok (.iload_n 1, 1) := by decide +kernel
theorem dX4_steel_29 : decode cX4_steel 29 = .ok (.iaload, 1) := by decide +kernel
theorem dX4_steel_30 : decode cX4_steel 30 = .ok (.istore_n 3, 1) := by decide +kernel
theorem dX4_steel_31 : decode cX4_steel 31 = .ok (.aload_n 0, 1) := by decide +kernel
theorem dX4_steel_32 : decode cX4_steel 32 = .ok (.getfield 30, 3) := by decide +kernel
theorem dX4_steel_35 : decode cX4_steel 35 = .ok (.getfield 179, 3) := by decide +kernel
theorem dX4_steel_38 : decode cX4_steel 38 = .ok (.iload_n 1, 1) := by decide +kernel
theorem dX4_steel_39 : decode cX4_steel 39 = .ok (.iload_n 2, 1) := by decide +kernel
theorem dX4_steel_40 : decode cX4_steel 40 = .ok (.iconst 1, 1) := by decide +kernel
theorem dX4_steel_41 : decode cX4_steel 41 = .ok (.if_icmp .ne 8, 3) := by decide +kernel
theorem dX4_steel_44 : decode cX4_steel 44 = .ok (.bipush 100, 2) := by decide +kernel
theorem dX4_steel_46 : decode cX4_steel 46 = .ok (.goto 4, 3) := by decide +kernel
theorem dX4_steel_49 : decode cX4_steel 49 = .ok (.iconst 0, 1) := by decide +kernel
theorem dX4_steel_50 : decode cX4_steel 50 = .ok (.iastore, 1) := by decide +kernel
theorem dX4_steel_51 : decode cX4_steel 51 = .ok (.iload_n 3, 1) := by decide +kernel
theorem dX4_steel_52 : decode cX4_steel 52 = .ok (.ireturn, 1) := by decide +kernel
theorem dX4_pull_0 : decode cX4_pull 0 = .ok (.iload_n 1, 1) := by decide +kernel
theorem dX4_pull_1 : decode cX4_pull 1 = .ok (.iconst 1, 1) := by decide +kernel
theorem dX4_pull_2 : decode cX4_pull 2 = .ok (.if_icmp .lt 9, 3) := by decide +kernel
theorem dX4_pull_5 : decode cX4_pull 5 = .ok (.iload_n 1, 1) := by decide +kernel
theorem dX4_pull_6 : decode cX4_pull 6 = .ok (.bipush 100, 2) := by decide +kernel
theorem dX4_pull_8 : decode cX4_pull 8 = .ok (.if_icmp .le 10, 3) := by decide +kernel
theorem dX4_pull_11 : decode cX4_pull 11 = .ok (.aload_n 0, 1) := by decide +kernel
theorem dX4_pull_12 : decode cX4_pull 12 = .ok (.ldc 66, 2) := by decide +kernel
theorem dX4_pull_14 : decode cX4_pull 14 = .ok (.invokevirtual 67, 3) := by decide +kernel
theorem dX4_pull_17 : decode cX4_pull 17 = .ok (.ireturn, 1) := by decide +kernel
theorem dX4_pull_18 : decode cX4_pull 18 = .ok (.aload_n 0, 1) := by decide +kernel
theorem dX4_pull_19 : decode cX4_pull 19 = .ok (.getfield 30, 3) := by decide +kernel
theorem dX4_pull_22 : decode cX4_pull 22 = .ok (.aload_n 0, 1) := by decide +kernel
theorem dX4_pull_23 : decode cX4_pull 23 = .ok (.getfield 12, 3) := by decide +kernel
theorem dX4_pull_26 : decode cX4_pull 26 = .ok (.iload_n 1, 1) := by decide +kernel
theorem dX4_pull_27 : decode cX4_pull 27 = .ok (.invokevirtual 182, 3) := by decide +kernel
theorem dX4_pull_30 : decode cX4_pull 30 = .ok (.aload_n 0, 1) := by decide +kernel
theorem dX4_pull_31 : decode cX4_pull 31 = .ok (.getfield 30, 3) := by decide +kernel
theorem dX4_pull_34 : decode cX4_pull 34 = .ok (.aload_n 0, 1) := by decide +kernel
theorem dX4_pull_35 : decode cX4_pull 35 = .ok (.getfield 12, 3) := by decide +kernel
theorem dX4_pull_38 : decode cX4_pull 38 = .ok (.invokevirtual 185, 3) := by decide +kernel
theorem dX4_pull_41 : decode cX4_pull 41 = .ok (.ireturn, 1) := by decide +kernel
theorem dX4_guard_0 : decode cX4_guard 0 = .ok (.iload_n 1, 1) := by decide +kernel
theorem dX4_guard_1 : decode cX4_guard 1 = .ok (.invokestatic 58, 3) := by decide +kernel
theorem dX4_guard_4 : decode cX4_guard 4 = .ok (.istore 4, 2) := by decide +kernel
theorem dX4_guard_6 : decode cX4_guard 6 = .ok (.iload 4, 2) := by decide +kernel
theorem dX4_guard_8 : decode cX4_guard 8 = .ok (.ifCond .lt 22, 3) := by decide +kernel
theorem dX4_guard_11 : decode cX4_guard 11 = .ok (.iload_n 2, 1) := by decide +kernel
theorem dX4_guard_12 : decode cX4_guard 12 = .ok (.invokestatic 121, 3) := by decide +kernel
theorem dX4_guard_15 : decode cX4_guard 15 = .ok (.ifCond .eq 15, 3) := by decide +kernel
theorem dX4_guard_18 : decode cX4_guard 18 = .ok (.iload_n 3, 1) := by decide +kernel
theorem dX4_guard_19 : decode cX4_guard 19 = .ok (.invokestatic 121, 3) := by decide +kernel
theorem dX4_guard_22 : decode cX4_guard 22 = .ok (.ifCond .eq 8, 3) := by decide +kernel
theorem dX4_guard_25 : decode cX4_guard 25 = .ok (.iload_n 2, 1) := by decide +kernel
theorem dX4_guard_26 : decode cX4_guard 26 = .ok (.iload_n 3, 1) := by decide +kernel
theorem dX4_guard_27 : decode cX4_guard 27 = .ok (.if_icmp .le 10, 3) := by decide +kernel
theorem dX4_guard_30 : decode cX4_guard 30 = .ok (.aload_n 0, 1) := by decide +kernel
theorem dX4_guard_31 : decode cX4_guard 31 = .ok (.ldc 66, 2) := by decide +kernel
theorem dX4_guard_33 : decode cX4_guard 33 = .ok (.invokevirtual 67, 3) := by decide +kernel
theorem dX4_guard_36 : decode cX4_guard 36 = .ok (.ireturn, 1) := by decide +kernel
theorem dX4_guard_37 : decode cX4_guard 37 = .ok (.aload_n 0, 1) := by decide +kernel
theorem dX4_guard_38 : decode cX4_guard 38 = .ok (.getfield 37, 3) := by decide +kernel
theorem dX4_guard_41 : decode cX4_guard 41 = .ok (.getfield 189, 3) := by decide +kernel
theorem dX4_guard_44 : decode cX4_guard 44 = .ok (.ifCond .le 25, 3) := by decide +kernel
theorem dX4_guard_47 : decode cX4_guard 47 = .ok (.aload_n 0, 1) := by decide +kernel
theorem dX4_guard_48 : decode cX4_guard 48 = .ok (.getfield 37, 3) := by decide +kernel
theorem dX4_guard_51 : decode cX4_guard 51 = .ok (.invokevirtual 190, 3) := by decide +kernel
theorem dX4_guard_54 : decode cX4_guard 54 = .ok (.iload 4, 2) := by decide +kernel
theorem dX4_guard_56 : decode cX4_guard 56 = .ok (.bipush 36, 2) := by decide +kernel
theorem dX4_guard_58 : decode cX4_guard 58 = .ok (.idiv, 1) := by decide +kernel
theorem dX4_guard_59 : decode cX4_guard 59 = .ok (.if_icmp .eq 10, 3) := by decide +kernel
theorem dX4_guard_62 : decode cX4_guard 62 = .ok (.aload_n 0, 1) := by decide +kernel
theorem dX4_guard_63 : decode cX4_guard 63 = .ok (.ldc 124, 2) := by decide +kernel
theorem dX4_guard_65 : decode cX4_guard 65 = .ok (.invokevirtual 67, 3) := by decide +kernel
theorem dX4_guard_68 : decode cX4_guard 68 = .ok (.ireturn, 1) := by decide +kernel
theorem dX4_guard_69 : decode cX4_guard 69 = .ok (.aload_n 0, 1) := by decide +kernel
theorem dX4_guard_70 : decode cX4_guard 70 = .ok (.getfield 37, 3) := by decide +kernel
theorem dX4_guard_73 : decode cX4_guard 73 = .ok (.getfield 189, 3) := by decide +kernel
theorem dX4_guard_76 : decode cX4_guard 76 = .ok (.bipush 8, 2) := by decide +kernel
theorem dX4_guard_78 : decode cX4_guard 78 = .ok (.if_icmp .lt 10, 3) := by decide +kernel
theorem dX4_guard_81 : decode cX4_guard 81 = .ok (.aload_n 0, 1) := by decide +kernel
theorem dX4_guard_82 : decode cX4_guard 82 = .ok (.ldc 142, 2) := by decide +kernel
theorem dX4_guard_84 : decode cX4_guard 84 = .ok (.invokevirtual 67, 3) := by decide +kernel
theorem dX4_guard_87 : decode cX4_guard 87 = .ok (.ireturn, 1) := by decide +kernel
theorem dX4_guard_88 : decode cX4_guard 88 = .ok (.aload_n 0, 1) := by decide +kernel
theorem dX4_guard_89 : decode cX4_guard 89 = .ok (.getfield 37, 3) := by decide +kernel
theorem dX4_guard_92 : decode cX4_guard 92 = .ok (.iload 4, 2) := by decide +kernel
theorem dX4_guard_94 : decode cX4_guard 94 = .ok (.iload_n 2, 1) := by decide +kernel
theorem dX4_guard_95 : decode cX4_guard 95 = .ok (.iload_n 3, 1) := by decide +kernel
theorem dX4_guard_96 : decode cX4_guard 96 = .ok (.invokevirtual 193, 3) := by decide +kernel
theorem dX4_guard_99 : decode cX4_guard 99 = .ok (.aload_n 0, 1) := by decide +kernel
theorem dX4_guard_100 : decode cX4_guard 100 = .ok (.getfield 37, 3) := by decide +kernel
theorem dX4_guard_103 : decode cX4_guard 103 = .ok (.getfield 189, 3) := by decide +kernel
theorem dX4_guard_106 : decode cX4_guard 106 = .ok (.ireturn, 1) := by decide +kernel
theorem dX4_edition_0 : decode cX4_edition 0 = .ok (.aload_n 0, 1) := by decide +kernel
theorem dX4_edition_1 : decode cX4_edition 1 = .ok (.getfield 37, 3) := by decide +kernel
theorem dX4_edition_4 : decode cX4_edition 4 = .ok (.getfield 189, 3) := by decide +kernel
theorem dX4_edition_7 : decode cX4_edition 7 = .ok (.ifCond .ne 10, 3) := by decide +kernel
theorem dX4_edition_10 : decode cX4_edition 10 = .ok (.aload_n 0, 1) := by decide +kernel
theorem dX4_edition_11 : decode cX4_edition 11 = .ok (.ldc 132, 2) := by decide +kernel
theorem dX4_edition_13 : decode cX4_edition 13 = .ok (.invokevirtual 67, 3) := by decide +kernel
theorem dX4_edition_16 : decode cX4_edition 16 = .ok (.ireturn, 1) := by decide +kernel
theorem dX4_edition_17 : decode cX4_edition 17 = .ok (.aload_n 0, 1) := by decide +kernel
theorem dX4_edition_18 : decode cX4_edition 18 = .ok (.getfield 37, 3) := by decide +kernel
theorem dX4_edition_21 : decode cX4_edition 21 = .ok (.aload_n 0, 1) := by decide +kernel
theorem dX4_edition_22 : decode cX4_edition 22 = .ok (.getfield 12, 3) := by decide +kernel
theorem dX4_edition_25 : decode cX4_edition 25 = .ok (.aload_n 0, 1) := by decide +kernel
theorem dX4_edition_26 : decode cX4_edition 26 = .ok (.getfield 30, 3) := by decide +kernel
theorem dX4_edition_29 : decode cX4_edition 29 = .ok (.getfield 179, 3) := by decide +kernel
theorem dX4_edition_32 : decode cX4_edition 32 = .ok (.aload_n 0, 1) := by decide +kernel
theorem dX4_edition_33 : decode cX4_edition 33 = .ok (.getfield 37, 3) := by decide +kernel
theorem dX4_edition_36 : decode cX4_edition 36 = .ok (.invokevirtual 190, 3) := by decide +kernel
theorem dX4_edition_39 : decode cX4_edition 39 = .ok (.iaload, 1) := by decide +kernel
theorem dX4_edition_40 : decode cX4_edition 40 = .ok (.invokevirtual 196, 3) := by decide +kernel
theorem dX4_edition_43 : decode cX4_edition 43 = .ok (.istore_n 1, 1) := by decide +kernel
theorem dX4_edition_44 : decode cX4_edition 44 = .ok (.aload_n 0, 1) := by decide +kernel
theorem dX4_edition_45 : decode cX4_edition 45 = .ok (.getfield 37, 3) := by decide +kernel
theorem dX4_edition_48 : decode cX4_edition 48 = .ok (.iconst 0, 1) := by decide +kernel
theorem dX4_edition_49 : decode cX4_edition 49 = .ok (.putfield 189, 3) := by decide +kernel
theorem dX4_edition_52 : decode cX4_edition 52 = .ok (.iload_n 1, 1) := by decide +kernel
theorem dX4_edition_53 : decode cX4_edition 53 = .ok (.ireturn, 1) := by decide +kernel
theorem dX4_tell_0 : decode cX4_tell 0 = .ok (.aload_n 0, 1) := by decide +kernel
theorem dX4_tell_1 : decode cX4_tell 1 = .ok (.getfield 48, 3) := by decide +kernel
theorem dX4_tell_4 : decode cX4_tell 4 = .ok (.bipush 36, 2) := by decide +kernel
theorem dX4_tell_6 : decode cX4_tell 6 = .ok (.if_icmp .lt 10, 3) := by decide +kernel
theorem dX4_tell_9 : decode cX4_tell 9 = .ok (.aload_n 0, 1) := by decide +kernel
theorem dX4_tell_10 : decode cX4_tell 10 = .ok (.ldc 142, 2) := by decide +kernel
theorem dX4_tell_12 : decode cX4_tell 12 = .ok (.invokevirtual 67, 3) := by decide +kernel
theorem dX4_tell_15 : decode cX4_tell 15 = .ok (.ireturn, 1) := by decide +kernel
theorem dX4_tell_16 : decode cX4_tell 16 = .ok (.aload_n 0, 1) := by decide +kernel
theorem dX4_tell_17 : decode cX4_tell 17 = .ok (.getfield 41, 3) := by decide +kernel
theorem dX4_tell_20 : decode cX4_tell 20 = .ok (.aload_n 0, 1) := by decide +kernel
theorem dX4_tell_21 : decode cX4_tell 21 = .ok (.getfield 48, 3) := by decide +kernel
theorem dX4_tell_24 : decode cX4_tell 24 = .ok (.iload_n 1, 1) := by decide +kernel
theorem dX4_tell_25 : decode cX4_tell 25 = .ok (.iastore, 1) := by decide +kernel
theorem dX4_tell_26 : decode cX4_tell 26 = .ok (.aload_n 0, 1) := by decide +kernel
theorem dX4_tell_27 : decode cX4_tell 27 = .ok (.dup, 1) := by decide +kernel
theorem dX4_tell_28 : decode cX4_tell 28 = .ok (.getfield 48, 3) := by decide +kernel
theorem dX4_tell_31 : decode cX4_tell 31 = .ok (.iconst 1, 1) := by decide +kernel
theorem dX4_tell_32 : decode cX4_tell 32 = .ok (.iadd, 1) := by decide +kernel
theorem dX4_tell_33 : decode cX4_tell 33 = .ok (.putfield 48, 3) := by decide +kernel
theorem dX4_tell_36 : decode cX4_tell 36 = .ok (.aload_n 0, 1) := by decide +kernel
theorem dX4_tell_37 : decode cX4_tell 37 = .ok (.getfield 48, 3) := by decide +kernel
theorem dX4_tell_40 : decode cX4_tell 40 = .ok (.ireturn, 1) := by decide +kernel
theorem dX4_check_0 : decode cX4_check 0 = .ok (.aload_n 0, 1) := by decide +kernel
theorem dX4_check_1 : decode cX4_check 1 = .ok (.getfield 48, 3) := by decide +kernel
theorem dX4_check_4 : decode cX4_check 4 = .ok (.istore_n 2, 1) := by decide +kernel
theorem dX4_check_5 : decode cX4_check 5 = .ok (.aload_n 0, 1) := by decide +kernel
theorem dX4_check_6 : decode cX4_check 6 = .ok (.iconst 0, 1) := by decide +kernel
theorem dX4_check_7 : decode cX4_check 7 = .ok (.putfield 48, 3) := by decide +kernel
theorem dX4_check_10 : decode cX4_check 10 = .ok (.iload_n 1, 1) := by decide +kernel
theorem dX4_check_11 : decode cX4_check 11 = .ok (.invokestatic 92, 3) := by decide +kernel
theorem dX4_check_14 : decode cX4_check 14 = .ok (.ifCond .ne 10, 3) := by decide +kernel
theorem dX4_check_17 : decode cX4_check 17 = .ok (.aload_n 0, 1) := by decide +kernel
theorem dX4_check_18 : decode cX4_check 18 = .ok (.ldc 66, 2) := by decide +kernel
theorem dX4_check_20 : decode cX4_check 20 = .ok (.invokevirtual 67, 3) := by decide +kernel
theorem dX4_check_23 : decode cX4_check 23 = .ok (.ireturn, 1) := by decide +kernel
theorem dX4_check_24 : decode cX4_check 24 = .ok (.iconst 0, 1) := by decide +kernel
theorem dX4_check_25 : decode cX4_check 25 = .ok (.istore_n 3, 1) := by decide +kernel
theorem dX4_check_26 : decode cX4_check 26 = .ok (.iload_n 3, 1) := by decide +kernel
theorem dX4_check_27 : decode cX4_check 27 = .ok (.iload_n 2, 1) := by decide +kernel
theorem dX4_check_28 : decode cX4_check 28 = .ok (.if_icmp .ge 35, 3) := by decide +kernel
theorem dX4_check_31 : decode cX4_check 31 = .ok (.aload_n 0, 1) := by decide +kernel
theorem dX4_check_32 : decode cX4_check 32 = .ok (.getfield 41, 3) := by decide +kernel
theorem dX4_check_35 : decode cX4_check 35 = .ok (.iload_n 3, 1) := by decide +kernel
theorem dX4_check_36 : decode cX4_check 36 = .ok (.iaload, 1) := by decide +kernel
theorem dX4_check_37 : decode cX4_check 37 = .ok (.aload_n 0, 1) := by decide +kernel
theorem dX4_check_38 : decode cX4_check 38 = .ok (.getfield 12, 3) := by decide +kernel
theorem dX4_check_41 : decode cX4_check 41 = .ok (.iload_n 1, 1) := by decide +kernel
theorem dX4_check_42 : decode cX4_check 42 = .ok (.bipush 36, 2) := by decide +kernel
theorem dX4_check_44 : decode cX4_check 44 = .ok (.imul, 1) := by decide +kernel
theorem dX4_check_45 : decode cX4_check 45 = .ok (.iload_n 3, 1) := by decide +kernel
theorem dX4_check_46 : decode cX4_check 46 = .ok (.iadd, 1) := by decide +kernel
theorem dX4_check_47 : decode cX4_check 47 = .ok (.invokevirtual 115, 3) := by decide +kernel
theorem dX4_check_50 : decode cX4_check 50 = .ok (.if_icmp .eq 7, 3) := by decide +kernel
theorem dX4_check_53 : decode cX4_check 53 = .ok (.iconst 1, 1) := by decide +kernel
theorem dX4_check_54 : decode cX4_check 54 = .ok (.iload_n 3, 1) := by decide +kernel
theorem dX4_check_55 : decode cX4_check 55 = .ok (.iadd, 1) := by decide +kernel
theorem dX4_check_56 : decode cX4_check 56 = .ok (.ireturn, 1) := by decide +kernel
theorem dX4_check_57 : decode cX4_check 57 = .ok (.iinc 3 1, 3) := by decide +kernel
theorem dX4_check_60 : decode cX4_check 60 = .ok (.goto (-34), 3) := by decide +kernel
theorem dX4_check_63 : decode cX4_check 63 = .ok (.iconst 0, 1) := by decide +kernel
theorem dX4_check_64 : decode cX4_check 64 = .ok (.ireturn, 1) := by decide +kernel
theorem dX4_count_0 : decode cX4_count 0 = .ok (.iload_n 1, 1) := by decide +kernel
theorem dX4_count_1 : decode cX4_count 1 = .ok (.tableswitch 90 0 6 #[43, 48, 56, 64, 69, 74, 82], 43) := by decide +kernel
theorem dX4_count_44 : decode cX4_count 44 = .ok (.aload_n 0, 1) := by decide +kernel
theorem dX4_count_45 : decode cX4_count 45 = .ok (.invokevirtual 98, 3) := by decide +kernel
theorem dX4_count_48 : decode cX4_count 48 = .ok (.ireturn, 1) := by decide +kernel
theorem dX4_count_49 : decode cX4_count 49 = .ok (.aload_n 0, 1) := by decide +kernel
theorem dX4_count_50 : decode cX4_count 50 = .ok (.getfield 23, 3) := by decide +kernel
theorem dX4_count_53 : decode cX4_count 53 = .ok (.getfield 139, 3) := by decide +kernel
theorem dX4_count_56 : decode cX4_count 56 = .ok (.ireturn, 1) := by decide +kernel
theorem dX4_count_57 : decode cX4_count 57 = .ok (.aload_n 0, 1) := by decide +kernel
theorem dX4_count_58 : decode cX4_count 58 = .ok (.getfield 37, 3) := by decide +kernel
theorem dX4_count_61 : decode cX4_count 61 = .ok (.getfield 189, 3) := by decide +kernel
theorem dX4_count_64 : decode cX4_count 64 = .ok (.ireturn, 1) := by decide +kernel
theorem dX4_count_65 : decode cX4_count 65 = .ok (.aload_n 0, 1) := by decide +kernel
theorem dX4_count_66 : decode cX4_count 66 = .ok (.invokevirtual 199, 3) := by decide +kernel
theorem dX4_count_69 : decode cX4_count 69 = .ok (.ireturn, 1) := by decide +kernel
theorem dX4_count_70 : decode cX4_count 70 = .ok (.aload_n 0, 1) := by decide +kernel
theorem dX4_count_71 : decode cX4_count 71 = .ok (.getfield 48, 3) := by decide +kernel
theorem dX4_count_74 : decode cX4_count 74 = .ok (.ireturn, 1) := by decide +kernel
theorem dX4_count_75 : decode cX4_count 75 = .ok (.aload_n 0, 1) := by decide +kernel
theorem dX4_count_76 : decode cX4_count 76 = .ok (.getfield 12, 3) := by decide +kernel
theorem dX4_count_79 : decode cX4_count 79 = .ok (.invokevirtual 202, 3) := by decide +kernel
theorem dX4_count_82 : decode cX4_count 82 = .ok (.ireturn, 1) := by decide +kernel
theorem dX4_count_83 : decode cX4_count 83 = .ok (.aload_n 0, 1) := by decide +kernel
theorem dX4_count_84 : decode cX4_count 84 = .ok (.getfield 30, 3) := by decide +kernel
theorem dX4_count_87 : decode cX4_count 87 = .ok (.getfield 205, 3) := by decide +kernel
theorem dX4_count_90 : decode cX4_count 90 = .ok (.ireturn, 1) := by decide +kernel
theorem dX4_count_91 : decode cX4_count 91 = .ok (.aload_n 0, 1) := by decide +kernel
theorem dX4_count_92 : decode cX4_count 92 = .ok (.ldc 66, 2) := by decide +kernel
theorem dX4_count_94 : decode cX4_count 94 = .ok (.invokevirtual 67, 3) := by decide +kernel
theorem dX4_count_97 : decode cX4_count 97 = .ok (.ireturn, 1) := by decide +kernel
theorem dX4_found_0 : decode cX4_found 0 = .ok (.iload_n 1, 1) := by decide +kernel
theorem dX4_found_1 : decode cX4_found 1 = .ok (.iconst 1, 1) := by decide +kernel
theorem dX4_found_2 : decode cX4_found 2 = .ok (.if_icmp .lt 8, 3) := by decide +kernel
theorem dX4_found_5 : decode cX4_found 5 = .ok (.iload_n 1, 1) := by decide +kernel
theorem dX4_found_6 : decode cX4_found 6 = .ok (.iconst 5, 1) := by decide +kernel
theorem dX4_found_7 : decode cX4_found 7 = .ok (.if_icmp .le 10, 3) := by decide +kernel
theorem dX4_found_10 : decode cX4_found 10 = .ok (.aload_n 0, 1) := by decide +kernel
theorem dX4_found_11 : decode cX4_found 11 = .ok (.ldc 66, 2) := by decide +kernel
theorem dX4_found_13 : decode cX4_found 13 = .ok (.invokevirtual 67, 3) := by decide +kernel
theorem dX4_found_16 : decode cX4_found 16 = .ok (.ireturn, 1) := by decide +kernel
theorem dX4_found_17 : decode cX4_found 17 = .ok (.aload_n 0, 1) := by decide +kernel
theorem dX4_found_18 : decode cX4_found 18 = .ok (.getfield 45, 3) := by decide +kernel
theorem dX4_found_21 : decode cX4_found 21 = .ok (.iload_n 1, 1) := by decide +kernel
theorem dX4_found_22 : decode cX4_found 22 = .ok (.iaload, 1) := by decide +kernel
theorem dX4_found_23 : decode cX4_found 23 = .ok (.ireturn, 1) := by decide +kernel
theorem dX4_finding_0 : decode cX4_finding 0 = .ok (.ldc 208, 2) := by decide +kernel
theorem dX4_finding_2 : decode cX4_finding 2 = .ok (.iload_n 1, 1) := by decide +kernel
theorem dX4_finding_3 : decode cX4_finding 3 = .ok (.isub, 1) := by decide +kernel
theorem dX4_finding_4 : decode cX4_finding 4 = .ok (.istore_n 2, 1) := by decide +kernel
theorem dX4_finding_5 : decode cX4_finding 5 = .ok (.iload_n 2, 1) := by decide +kernel
theorem dX4_finding_6 : decode cX4_finding 6 = .ok (.iconst 1, 1) := by decide +kernel
theorem dX4_finding_7 : decode cX4_finding 7 = .ok (.if_icmp .lt 18, 3) := by decide +kernel
theorem dX4_finding_10 : decode cX4_finding 10 = .ok (.iload_n 2, 1) := by decide +kernel
theorem dX4_finding_11 : decode cX4_finding 11 = .ok (.iconst 5, 1) := by decide +kernel
theorem dX4_finding_12 : decode cX4_finding 12 = .ok (.if_icmp .gt 13, 3) := by decide +kernel
theorem dX4_finding_15 : decode cX4_finding 15 = .ok (.aload_n 0, 1) := by decide +kernel
theorem dX4_finding_16 : decode cX4_finding 16 = .ok (.getfield 45, 3) := by decide +kernel
theorem dX4_finding_19 : decode cX4_finding 19 = .ok (.iload_n 2, 1) := by decide +kernel
theorem dX4_finding_20 : decode cX4_finding 20 = .ok (.dup2, 1) := by decide +kernel
theorem dX4_finding_21 : decode cX4_finding 21 = .ok (.iaload, 1) := by decide +kernel
theorem dX4_finding_22 : decode cX4_finding 22 = .ok (.iconst 1, 1) := by decide +kernel
theorem dX4_finding_23 : decode cX4_finding 23 = .ok (.iadd, 1) := by decide +kernel
theorem dX4_finding_24 : decode cX4_finding 24 = .ok (.iastore, 1) := by decide +kernel
theorem dX4_finding_25 : decode cX4_finding 25 = .ok (.iload_n 1, 1) := by decide +kernel
theorem dX4_finding_26 : decode cX4_finding 26 = .ok (.ireturn, 1) := by decide +kernel
theorem dX4_bite_0 : decode cX4_bite 0 = .ok (.iconst 1, 1) := by decide +kernel
theorem dX4_bite_1 : decode cX4_bite 1 = .ok (.aload_n 0, 1) := by decide +kernel
theorem dX4_bite_2 : decode cX4_bite 2 = .ok (.getfield 52, 3) := by decide +kernel
theorem dX4_bite_5 : decode cX4_bite 5 = .ok (.aload_n 0, 1) := by decide +kernel
theorem dX4_bite_6 : decode cX4_bite 6 = .ok (.getfield 55, 3) := by decide +kernel
theorem dX4_bite_9 : decode cX4_bite 9 = .ok (.iconst 2, 1) := by decide +kernel
theorem dX4_bite_10 : decode cX4_bite 10 = .ok (.iadd, 1) := by decide +kernel
theorem dX4_bite_11 : decode cX4_bite 11 = .ok (.imul, 1) := by decide +kernel
theorem dX4_bite_12 : decode cX4_bite 12 = .ok (.iconst 4, 1) := by decide +kernel
theorem dX4_bite_13 : decode cX4_bite 13 = .ok (.idiv, 1) := by decide +kernel
theorem dX4_bite_14 : decode cX4_bite 14 = .ok (.invokestatic 209, 3) := by decide +kernel
theorem dX4_bite_17 : decode cX4_bite 17 = .ok (.ireturn, 1) := by decide +kernel
theorem dX4_statesKept_0 : decode cX4_statesKept 0 = .ok (.iconst 0, 1) := by decide +kernel
theorem dX4_statesKept_1 : decode cX4_statesKept 1 = .ok (.istore_n 1, 1) := by decide +kernel
theorem dX4_statesKept_2 : decode cX4_statesKept 2 = .ok (.iconst 0, 1) := by decide +kernel
theorem dX4_statesKept_3 : decode cX4_statesKept 3 = .ok (.istore_n 2, 1) := by decide +kernel
theorem dX4_statesKept_4 : decode cX4_statesKept 4 = .ok (.iload_n 2, 1) := by decide +kernel
theorem dX4_statesKept_5 : decode cX4_statesKept 5 = .ok (.iconst 4, 1) := by decide +kernel
theorem dX4_statesKept_6 : decode cX4_statesKept 6 = .ok (.if_icmp .ge 21, 3) := by decide +kernel
theorem dX4_statesKept_9 : decode cX4_statesKept 9 = .ok (.aload_n 0, 1) := by decide +kernel
theorem dX4_statesKept_10 : decode cX4_statesKept 10 = .ok (.getfield 16, 3) := by decide +kernel
theorem dX4_statesKept_13 : decode cX4_statesKept 13 = .ok (.iload_n 2, 1) := by decide +kernel
theorem dX4_statesKept_14 : decode cX4_statesKept 14 = .ok (.aaload, 1) := by decide +kernel
theorem dX4_statesKept_15 : decode cX4_statesKept 15 = .ok (.ifnull 6, 3) := by decide +kernel
theorem dX4_statesKept_18 : decode cX4_statesKept 18 = .ok (.iinc 1 1, 3) := by decide +kernel
theorem dX4_statesKept_21 : decode cX4_statesKept 21 = .ok (.iinc 2 1, 3) := by decide +kernel
theorem dX4_statesKept_24 : decode cX4_statesKept 24 = .ok (.goto (-20), 3) := by decide +kernel
theorem dX4_statesKept_27 : decode cX4_statesKept 27 = .ok (.iload_n 1, 1) := by decide +kernel
theorem dX4_statesKept_28 : decode cX4_statesKept 28 = .ok (.ireturn, 1) := by decide +kernel
theorem dX4_spotOf_0 : decode cX4_spotOf 0 = .ok (.iload_n 0, 1) := by decide +kernel
theorem dX4_spotOf_1 : decode cX4_spotOf 1 = .ok (.ifCond .lt 20, 3) := by decide +kernel
theorem dX4_spotOf_4 : decode cX4_spotOf 4 = .ok (.iload_n 0, 1) := by decide +kernel
theorem dX4_spotOf_5 : decode cX4_spotOf 5 = .ok (.bipush 100, 2) := by decide +kernel
theorem dX4_spotOf_7 : decode cX4_spotOf 7 = .ok (.idiv, 1) := by decide +kernel
theorem dX4_spotOf_8 : decode cX4_spotOf 8 = .ok (.iconst 3, 1) := by decide +kernel
theorem dX4_spotOf_9 : decode cX4_spotOf 9 = .ok (.if_icmp .ge 12, 3) := by decide +kernel
theorem dX4_spotOf_12 : decode cX4_spotOf 12 = .ok (.iload_n 0, 1) := by decide +kernel
theorem dX4_spotOf_13 : decode cX4_spotOf 13 = .ok (.bipush 100, 2) := by decide +kernel
theorem dX4_spotOf_15 : decode cX4_spotOf 15 = .ok (.irem, 1) := by decide +kernel
theorem dX4_spotOf_16 : decode cX4_spotOf 16 = .ok (.bipush 36, 2) := by decide +kernel
theorem dX4_spotOf_18 : decode cX4_spotOf 18 = .ok (.if_icmp .lt 5, 3) := by decide +kernel
theorem dX4_spotOf_21 : decode cX4_spotOf 21 = .ok (.iconst (-1), 1) := by decide +kernel
theorem dX4_spotOf_22 : decode cX4_spotOf 22 = .ok (.ireturn, 1) := by decide +kernel
theorem dX4_spotOf_23 : decode cX4_spotOf 23 = .ok (.iload_n 0, 1) := by decide +kernel
theorem dX4_spotOf_24 : decode cX4_spotOf 24 = .ok (.bipush 100, 2) := by decide +kernel
theorem dX4_spotOf_26 : decode cX4_spotOf 26 = .ok (.idiv, 1) := by decide +kernel
theorem dX4_spotOf_27 : decode cX4_spotOf 27 = .ok (.bipush 36, 2) := by decide +kernel
theorem dX4_spotOf_29 : decode cX4_spotOf 29 = .ok (.imul, 1) := by decide +kernel
theorem dX4_spotOf_30 : decode cX4_spotOf 30 = .ok (.iload_n 0, 1) := by decide +kernel
theorem dX4_spotOf_31 : decode cX4_spotOf 31 = .ok (.bipush 100, 2) := by decide +kernel
theorem dX4_spotOf_33 : decode cX4_spotOf 33 = .ok (.irem, 1) := by decide +kernel
theorem dX4_spotOf_34 : decode cX4_spotOf 34 = .ok (.iadd, 1) := by decide +kernel
theorem dX4_spotOf_35 : decode cX4_spotOf 35 = .ok (.ireturn, 1) := by decide +kernel
theorem dX4_isPlate_0 : decode cX4_isPlate 0 = .ok (.iload_n 0, 1) := by decide +kernel
theorem dX4_isPlate_1 : decode cX4_isPlate 1 = .ok (.ifCond .lt 12, 3) := by decide +kernel
theorem dX4_isPlate_4 : decode cX4_isPlate 4 = .ok (.iload_n 0, 1) := by decide +kernel
theorem dX4_isPlate_5 : decode cX4_isPlate 5 = .ok (.iconst 3, 1) := by decide +kernel
theorem dX4_isPlate_6 : decode cX4_isPlate 6 = .ok (.if_icmp .ge 7, 3) := by decide +kernel
theorem dX4_isPlate_9 : decode cX4_isPlate 9 = .ok (.iconst 1, 1) := by decide +kernel
theorem dX4_isPlate_10 : decode cX4_isPlate 10 = .ok (.goto 4, 3) := by decide +kernel
theorem dX4_isPlate_13 : decode cX4_isPlate 13 = .ok (.iconst 0, 1) := by decide +kernel
theorem dX4_isPlate_14 : decode cX4_isPlate 14 = .ok (.ireturn, 1) := by decide +kernel
theorem dX4_isKind_0 : decode cX4_isKind 0 = .ok (.iload_n 0, 1) := by decide +kernel
theorem dX4_isKind_1 : decode cX4_isKind 1 = .ok (.ifCond .lt 12, 3) := by decide +kernel
theorem dX4_isKind_4 : decode cX4_isKind 4 = .ok (.iload_n 0, 1) := by decide +kernel
theorem dX4_isKind_5 : decode cX4_isKind 5 = .ok (.iconst 2, 1) := by decide +kernel
theorem dX4_isKind_6 : decode cX4_isKind 6 = .ok (.if_icmp .gt 7, 3) := by decide +kernel
theorem dX4_isKind_9 : decode cX4_isKind 9 = .ok (.iconst 1, 1) := by decide +kernel
theorem dX4_isKind_10 : decode cX4_isKind 10 = .ok (.goto 4, 3) := by decide +kernel
theorem dX4_isKind_13 : decode cX4_isKind 13 = .ok (.iconst 0, 1) := by decide +kernel
theorem dX4_isKind_14 : decode cX4_isKind 14 = .ok (.ireturn, 1) := by decide +kernel
theorem dX4_isUnder_0 : decode cX4_isUnder 0 = .ok (.iload_n 0, 1) := by decide +kernel
theorem dX4_isUnder_1 : decode cX4_isUnder 1 = .ok (.iload_n 1, 1) := by decide +kernel
theorem dX4_isUnder_2 : decode cX4_isUnder 2 = .ok (.if_icmp .eq 7, 3) := by decide +kernel
theorem dX4_isUnder_5 : decode cX4_isUnder 5 = .ok (.iload_n 1, 1) := by decide +kernel
theorem dX4_isUnder_6 : decode cX4_isUnder 6 = .ok (.ifCond .ne 7, 3) := by decide +kernel
theorem dX4_isUnder_9 : decode cX4_isUnder 9 = .ok (.iconst 1, 1) := by decide +kernel
theorem dX4_isUnder_10 : decode cX4_isUnder 10 = .ok (.goto 4, 3) := by decide +kernel
theorem dX4_isUnder_13 : decode cX4_isUnder 13 = .ok (.iconst 0, 1) := by decide +kernel
theorem dX4_isUnder_14 : decode cX4_isUnder 14 = .ok (.ireturn, 1) := by decide +kernel
theorem dX4_isTone_0 : decode cX4_isTone 0 = .ok (.iload_n 0, 1) := by decide +kernel
theorem dX4_isTone_1 : decode cX4_isTone 1 = .ok (.ifCond .lt 13, 3) := by decide +kernel
theorem dX4_isTone_4 : decode cX4_isTone 4 = .ok (.iload_n 0, 1) := by decide +kernel
theorem dX4_isTone_5 : decode cX4_isTone 5 = .ok (.bipush 15, 2) := by decide +kernel
theorem dX4_isTone_7 : decode cX4_isTone 7 = .ok (.if_icmp .gt 7, 3) := by decide +kernel
theorem dX4_isTone_10 : decode cX4_isTone 10 = .ok (.iconst 1, 1) := by decide +kernel
theorem dX4_isTone_11 : decode cX4_isTone 11 = .ok (.goto 4, 3) := by decide +kernel
theorem dX4_isTone_14 : decode cX4_isTone 14 = .ok (.iconst 0, 1) := by decide +kernel
theorem dX4_isTone_15 : decode cX4_isTone 15 = .ok (.ireturn, 1) := by decide +kernel
theorem dX4_isState_0 : decode cX4_isState 0 = .ok (.iload_n 0, 1) := by decide +kernel
theorem dX4_isState_1 : decode cX4_isState 1 = .ok (.ifCond .lt 12, 3) := by decide +kernel
theorem dX4_isState_4 : decode cX4_isState 4 = .ok (.iload_n 0, 1) := by decide +kernel
theorem dX4_isState_5 : decode cX4_isState 5 = .ok (.iconst 4, 1) := by decide +kernel
theorem dX4_isState_6 : decode cX4_isState 6 = .ok (.if_icmp .ge 7, 3) := by decide +kernel
theorem dX4_isState_9 : decode cX4_isState 9 = .ok (.iconst 1, 1) := by decide +kernel
theorem dX4_isState_10 : decode cX4_isState 10 = .ok (.goto 4, 3) := by decide +kernel
theorem dX4_isState_13 : decode cX4_isState 13 = .ok (.iconst 0, 1) := by decide +kernel
theorem dX4_isState_14 : decode cX4_isState 14 = .ok (.ireturn, 1) := by decide +kernel
theorem dX4_isSwitch_0 : decode cX4_isSwitch 0 = .ok (.iload_n 0, 1) := by decide +kernel
theorem dX4_isSwitch_1 : decode cX4_isSwitch 1 = .ok (.ifCond .eq 8, 3) := by decide +kernel
theorem dX4_isSwitch_4 : decode cX4_isSwitch 4 = .ok (.iload_n 0, 1) := by decide +kernel
theorem dX4_isSwitch_5 : decode cX4_isSwitch 5 = .ok (.iconst 1, 1) := by decide +kernel
theorem dX4_isSwitch_6 : decode cX4_isSwitch 6 = .ok (.if_icmp .ne 7, 3) := by decide +kernel
theorem dX4_isSwitch_9 : decode cX4_isSwitch 9 = .ok (.iconst 1, 1) := by decide +kernel
theorem dX4_isSwitch_10 : decode cX4_isSwitch 10 = .ok (.goto 4, 3) := by decide +kernel
theorem dX4_isSwitch_13 : decode cX4_isSwitch 13 = .ok (.iconst 0, 1) := by decide +kernel
theorem dX4_isSwitch_14 : decode cX4_isSwitch 14 = .ok (.ireturn, 1) := by decide +kernel
