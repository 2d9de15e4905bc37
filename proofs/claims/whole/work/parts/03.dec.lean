theorem dX0_plateOfAll_0 : decode cX0_plateOfAll 0 = .ok (.aload_n 0, 1) := by decide +kernel
theorem dX0_plateOfAll_1 : decode cX0_plateOfAll 1 = .ok (.getfield 9, 3) := by decide +kernel
theorem dX0_plateOfAll_4 : decode cX0_plateOfAll 4 = .ok (.iconst 0, 1) := by decide +kernel
theorem dX0_plateOfAll_5 : decode cX0_plateOfAll 5 = .ok (.iaload, 1) := by decide +kernel
theorem dX0_plateOfAll_6 : decode cX0_plateOfAll 6 = .ok (.bipush 36, 2) := by decide +kernel
theorem dX0_plateOfAll_8 : decode cX0_plateOfAll 8 = .ok (.idiv, 1) := by decide +kernel
theorem dX0_plateOfAll_9 : decode cX0_plateOfAll 9 = .ok (.ireturn, 1) := by decide +kernel
theorem dX0_addGuard_0 : decode cX0_addGuard 0 = .ok (.aload_n 0, 1) := by decide +kernel
theorem dX0_addGuard_1 : decode cX0_addGuard 1 = .ok (.getfield 9, 3) := by decide +kernel
theorem dX0_addGuard_4 : decode cX0_addGuard 4 = .ok (.aload_n 0, 1) := by decide +kernel
theorem dX0_addGuard_5 : decode cX0_addGuard 5 = .ok (.getfield 21, 3) := by decide +kernel
theorem dX0_addGuard_8 : decode cX0_addGuard 8 = .ok (.iload_n 1, 1) := by decide +kernel
theorem dX0_addGuard_9 : decode cX0_addGuard 9 = .ok (.iastore, 1) := by decide +kernel
theorem dX0_addGuard_10 : decode cX0_addGuard 10 = .ok (.aload_n 0, 1) := by decide +kernel
theorem dX0_addGuard_11 : decode cX0_addGuard 11 = .ok (.getfield 15, 3) := by decide +kernel
theorem dX0_addGuard_14 : decode cX0_addGuard 14 = .ok (.aload_n 0, 1) := by decide +kernel
theorem dX0_addGuard_15 : decode cX0_addGuard 15 = .ok (.getfield 21, 3) := by decide +kernel
theorem dX0_addGuard_18 : decode cX0_addGuard 18 = .ok (.iload_n 2, 1) := by decide +kernel
theorem dX0_addGuard_19 : decode cX0_addGuard 19 = .ok (.iastore, 1) := by decide +kernel
theorem dX0_addGuard_20 : decode cX0_addGuard 20 = .ok (.aload_n 0, 1) := by decide +kernel
theorem dX0_addGuard_21 : decode cX0_addGuard 21 = .ok (.getfield 18, 3) := by decide +kernel
theorem dX0_addGuard_24 : decode cX0_addGuard 24 = .ok (.aload_n 0, 1) := by decide +kernel
theorem dX0_addGuard_25 : decode cX0_addGuard 25 = .ok (.getfield 21, 3) := by decide +kernel
theorem dX0_addGuard_28 : decode cX0_addGuard 28 = .ok (.iload_n 3, 1) := by decide +kernel
theorem dX0_addGuard_29 : decode cX0_addGuard 29 = .ok (.iastore, 1) := by decide +kernel
theorem dX0_addGuard_30 : decode cX0_addGuard 30 = .ok (.aload_n 0, 1) := by decide +kernel
theorem dX0_addGuard_31 : decode cX0_addGuard 31 = .ok (.dup, 1) := by decide +kernel
theorem dX0_addGuard_32 : decode cX0_addGuard 32 = .ok (.getfield 21, 3) := by decide +kernel
theorem dX0_addGuard_35 : decode cX0_addGuard 35 = .ok (.iconst 1, 1) := by decide +kernel
theorem dX0_addGuard_36 : decode cX0_addGuard 36 = .ok (.iadd, 1) := by decide +kernel
theorem dX0_addGuard_37 : decode cX0_addGuard 37 = .ok (.putfield 21, 3) := by decide +kernel
theorem dX0_addGuard_40 : decode cX0_addGuard 40 = .ok (.return_, 1) := by decide +kernel
theorem dX0_pullsHeld_0 : decode cX0_pullsHeld 0 = .ok (.sipush 300, 3) := by decide +kernel
theorem dX0_pullsHeld_3 : decode cX0_pullsHeld 3 = .ok (.istore_n 3, 1) := by decide +kernel
theorem dX0_pullsHeld_4 : decode cX0_pullsHeld 4 = .ok (.iconst 0, 1) := by decide +kernel
theorem dX0_pullsHeld_5 : decode cX0_pullsHeld 5 = .ok (.istore 4, 2) := by decide +kernel
theorem dX0_pullsHeld_7 : decode cX0_pullsHeld 7 = .ok (.iload 4, 2) := by decide +kernel
theorem dX0_pullsHeld_9 : decode cX0_pullsHeld 9 = .ok (.aload_n 0, 1) := by decide +kernel
theorem dX0_pullsHeld_10 : decode cX0_pullsHeld 10 = .ok (.getfield 21, 3) := by decide +kernel
theorem dX0_pullsHeld_13 : decode cX0_pullsHeld 13 = .ok (.if_icmp .ge 33, 3) := by decide +kernel
theorem dX0_pullsHeld_16 : decode cX0_pullsHeld 16 = .ok (.iload_n 3, 1) := by decide +kernel
theorem dX0_pullsHeld_17 : decode cX0_pullsHeld 17 = .ok (.aload_n 0, 1) := by decide +kernel
theorem dX0_pullsHeld_18 : decode cX0_pullsHeld 18 = .ok (.iload 4, 2) := by decide +kernel
theorem dX0_pullsHeld_20 : decode cX0_pullsHeld 20 = .ok (.aload_n 1, 1) := by decide +kernel
theorem dX0_pullsHeld_21 : decode cX0_pullsHeld 21 = .ok (.getfield 25, 3) := by decide +kernel
theorem dX0_pullsHeld_24 : decode cX0_pullsHeld 24 = .ok (.aload_n 0, 1) := by decide +kernel
theorem dX0_pullsHeld_25 : decode cX0_pullsHeld 25 = .ok (.getfield 9, 3) := by decide +kernel
theorem dX0_pullsHeld_28 : decode cX0_pullsHeld 28 = .ok (.iload 4, 2) := by decide +kernel
theorem dX0_pullsHeld_30 : decode cX0_pullsHeld 30 = .ok (.iaload, 1) := by decide +kernel
theorem dX0_pullsHeld_31 : decode cX0_pullsHeld 31 = .ok (.iaload, 1) := by decide +kernel
theorem dX0_pullsHeld_32 : decode cX0_pullsHeld 32 = .ok (.iload_n 2, 1) := by decide +kernel
theorem dX0_pullsHeld_33 : decode cX0_pullsHeld 33 = .ok (.invokevirtual 30, 3) := by decide +kernel
theorem dX0_pullsHeld_36 : decode cX0_pullsHeld 36 = .ok (.invokestatic 34, 3) := by decide +kernel
theorem dX0_pullsHeld_39 : decode cX0_pullsHeld 39 = .ok (.istore_n 3, 1) := by decide +kernel
theorem dX0_pullsHeld_40 : decode cX0_pullsHeld 40 = .ok (.iinc 4 1, 3) := by decide +kernel
theorem dX0_pullsHeld_43 : decode cX0_pullsHeld 43 = .ok (.goto (-36), 3) := by decide +kernel
theorem dX0_pullsHeld_46 : decode cX0_pullsHeld 46 = .ok (.iload_n 3, 1) := by decide +kernel
theorem dX0_pullsHeld_47 : decode cX0_pullsHeld 47 = .ok (.ireturn, 1) := by decide +kernel
theorem dX0_pullsHeldBy_0 : decode cX0_pullsHeldBy 0 = .ok (.iload_n 2, 1) := by decide +kernel
theorem dX0_pullsHeldBy_1 : decode cX0_pullsHeldBy 1 = .ok (.invokestatic 40, 3) := by decide +kernel
theorem dX0_pullsHeldBy_4 : decode cX0_pullsHeldBy 4 = .ok (.aload_n 0, 1) := by decide +kernel
theorem dX0_pullsHeldBy_5 : decode cX0_pullsHeldBy 5 = .ok (.getfield 15, 3) := by decide +kernel
theorem dX0_pullsHeldBy_8 : decode cX0_pullsHeldBy 8 = .ok (.iload_n 1, 1) := by decide +kernel
theorem dX0_pullsHeldBy_9 : decode cX0_pullsHeldBy 9 = .ok (.iaload, 1) := by decide +kernel
theorem dX0_pullsHeldBy_10 : decode cX0_pullsHeldBy 10 = .ok (.if_icmp .lt 16, 3) := by decide +kernel
theorem dX0_pullsHeldBy_13 : decode cX0_pullsHeldBy 13 = .ok (.iload_n 2, 1) := by decide +kernel
theorem dX0_pullsHeldBy_14 : decode cX0_pullsHeldBy 14 = .ok (.invokestatic 40, 3) := by decide +kernel
theorem dX0_pullsHeldBy_17 : decode cX0_pullsHeldBy 17 = .ok (.aload_n 0, 1) := by decide +kernel
theorem dX0_pullsHeldBy_18 : decode cX0_pullsHeldBy 18 = .ok (.getfield 18, 3) := by decide +kernel
theorem dX0_pullsHeldBy_21 : decode cX0_pullsHeldBy 21 = .ok (.iload_n 1, 1) := by decide +kernel
theorem dX0_pullsHeldBy_22 : decode cX0_pullsHeldBy 22 = .ok (.iaload, 1) := by decide +kernel
theorem dX0_pullsHeldBy_23 : decode cX0_pullsHeldBy 23 = .ok (.if_icmp .le 5, 3) := by decide +kernel
theorem dX0_pullsHeldBy_26 : decode cX0_pullsHeldBy 26 = .ok (.iconst 0, 1) := by decide +kernel
theorem dX0_pullsHeldBy_27 : decode cX0_pullsHeldBy 27 = .ok (.ireturn, 1) := by decide +kernel
theorem dX0_pullsHeldBy_28 : decode cX0_pullsHeldBy 28 = .ok (.iload_n 3, 1) := by decide +kernel
theorem dX0_pullsHeldBy_29 : decode cX0_pullsHeldBy 29 = .ok (.sipush 300, 3) := by decide +kernel
theorem dX0_pullsHeldBy_32 : decode cX0_pullsHeldBy 32 = .ok (.invokestatic 34, 3) := by decide +kernel
theorem dX0_pullsHeldBy_35 : decode cX0_pullsHeldBy 35 = .ok (.istore 4, 2) := by decide +kernel
theorem dX0_pullsHeldBy_37 : decode cX0_pullsHeldBy 37 = .ok (.iload_n 2, 1) := by decide +kernel
theorem dX0_pullsHeldBy_38 : decode cX0_pullsHeldBy 38 = .ok (.invokestatic 44, 3) := by decide +kernel
theorem dX0_pullsHeldBy_41 : decode cX0_pullsHeldBy 41 = .ok (.istore 5, 2) := by decide +kernel
theorem dX0_pullsHeldBy_43 : decode cX0_pullsHeldBy 43 = .ok (.iload 4, 2) := by decide +kernel
theorem dX0_pullsHeldBy_45 : decode cX0_pullsHeldBy 45 = .ok (.sipush 300, 3) := by decide +kernel
theorem dX0_pullsHeldBy_48 : decode cX0_pullsHeldBy 48 = .ok (.if_icmp .ge 30, 3) := by decide +kernel
theorem dX0_pullsHeldBy_51 : decode cX0_pullsHeldBy 51 = .ok (.iload 5, 2) := by decide +kernel
theorem dX0_pullsHeldBy_53 : decode cX0_pullsHeldBy 53 = .ok (.invokestatic 40, 3) := by decide +kernel
theorem dX0_pullsHeldBy_56 : decode cX0_pullsHeldBy 56 = .ok (.aload_n 0, 1) := by decide +kernel
theorem dX0_pullsHeldBy_57 : decode cX0_pullsHeldBy 57 = .ok (.getfield 15, 3) := by decide +kernel
theorem dX0_pullsHeldBy_60 : decode cX0_pullsHeldBy 60 = .ok (.iload_n 1, 1) := by decide +kernel
theorem dX0_pullsHeldBy_61 : decode cX0_pullsHeldBy 61 = .ok (.iaload, 1) := by decide +kernel
theorem dX0_pullsHeldBy_62 : decode cX0_pullsHeldBy 62 = .ok (.if_icmp .lt 16, 3) := by decide +kernel
theorem dX0_pullsHeldBy_65 : decode cX0_pullsHeldBy 65 = .ok (.iinc 4 1, 3) := by decide +kernel
theorem dX0_pullsHeldBy_68 : decode cX0_pullsHeldBy 68 = .ok (.iload 5, 2) := by decide +kernel
theorem dX0_pullsHeldBy_70 : decode cX0_pullsHeldBy 70 = .ok (.invokestatic 44, 3) := by decide +kernel
theorem dX0_pullsHeldBy_73 : decode cX0_pullsHeldBy 73 = .ok (.istore 5, 2) := by decide +kernel
theorem dX0_pullsHeldBy_75 : decode cX0_pullsHeldBy 75 = .ok (.goto (-32), 3) := by decide +kernel
theorem dX0_pullsHeldBy_78 : decode cX0_pullsHeldBy 78 = .ok (.iload 4, 2) := by decide +kernel
theorem dX0_pullsHeldBy_80 : decode cX0_pullsHeldBy 80 = .ok (.ireturn, 1) := by decide +kernel
theorem dX1_layGround_0 : decode cX1_layGround 0 = .ok (.aload_n 0, 1) := by decide +kernel
theorem dX1_layGround_1 : decode cX1_layGround 1 = .ok (.getfield 9, 3) := by decide +kernel
theorem dX1_layGround_4 : decode cX1_layGround 4 = .ok (.iload_n 1, 1) := by decide +kernel
theorem dX1_layGround_5 : decode cX1_layGround 5 = .ok (.iload_n 2, 1) := by decide +kernel
theorem dX1_layGround_6 : decode cX1_layGround 6 = .ok (.iastore, 1) := by decide +kernel
theorem dX1_layGround_7 : decode cX1_layGround 7 = .ok (.aload_n 0, 1) := by decide +kernel
theorem dX1_layGround_8 : decode cX1_layGround 8 = .ok (.getfield 18, 3) := by decide +kernel
theorem dX1_layGround_11 : decode cX1_layGround 11 = .ok (.iload_n 1, 1) := by decide +kernel
theorem dX1_layGround_12 : decode cX1_layGround 12 = .ok (.iload_n 2, 1) := by decide +kernel
theorem dX1_layGround_13 : decode cX1_layGround 13 = .ok (.iconst 2, 1) := by decide +kernel
theorem dX1_layGround_14 : decode cX1_layGround 14 = .ok (.if_icmp .ne 8, 3) := by decide +kernel
theorem dX1_layGround_17 : decode cX1_layGround 17 = .ok (.bipush 60, 2) := by decide +kernel
theorem dX1_layGround_19 : decode cX1_layGround 19 = .ok (.goto 4, 3) := by decide +kernel
theorem dX1_layGround_22 : decode cX1_layGround 22 = .ok (.iconst 0, 1) := by decide +kernel
theorem dX1_layGround_23 : decode cX1_layGround 23 = .ok (.iastore, 1) := by decide +kernel
theorem dX1_layGround_24 : decode cX1_layGround 24 = .ok (.return_, 1) := by decide +kernel
theorem dX1_toneAt_0 : decode cX1_toneAt 0 = .ok (.aload_n 0, 1) := by decide +kernel
theorem dX1_toneAt_1 : decode cX1_toneAt 1 = .ok (.getfield 15, 3) := by decide +kernel
theorem dX1_toneAt_4 : decode cX1_toneAt 4 = .ok (.iload_n 1, 1) := by decide +kernel
theorem dX1_toneAt_5 : decode cX1_toneAt 5 = .ok (.iaload, 1) := by decide +kernel
theorem dX1_toneAt_6 : decode cX1_toneAt 6 = .ok (.invokestatic 25, 3) := by decide +kernel
theorem dX1_toneAt_9 : decode cX1_toneAt 9 = .ok (.ireturn, 1) := by decide +kernel
theorem dX1_timesBite_0 : decode cX1_timesBite 0 = .ok (.aload_n 0, 1) := by decide +kernel
theorem dX1_timesBite_1 : decode cX1_timesBite 1 = .ok (.getfield 9, 3) := by decide +kernel
theorem dX1_timesBite_4 : decode cX1_timesBite 4 = .ok (.iload_n 1, 1) := by decide +kernel
theorem dX1_timesBite_5 : decode cX1_timesBite 5 = .ok (.iaload, 1) := by decide +kernel
theorem dX1_timesBite_6 : decode cX1_timesBite 6 = .ok (.lookupswitch 43 #[(1, 26), (2, 28)], 26) := by decide +kernel
theorem dX1_timesBite_32 : decode cX1_timesBite 32 = .ok (.iconst 2, 1) := by decide +kernel
theorem dX1_timesBite_33 : decode cX1_timesBite 33 = .ok (.ireturn, 1) := by decide +kernel
theorem dX1_timesBite_34 : decode cX1_timesBite 34 = .ok (.aload_n 0, 1) := by decide +kernel
theorem dX1_timesBite_35 : decode cX1_timesBite 35 = .ok (.getfield 18, 3) := by decide +kernel
theorem dX1_timesBite_38 : decode cX1_timesBite 38 = .ok (.iload_n 1, 1) := by decide +kernel
theorem dX1_timesBite_39 : decode cX1_timesBite 39 = .ok (.iaload, 1) := by decide +kernel
theorem dX1_timesBite_40 : decode cX1_timesBite 40 = .ok (.ifCond .le 7, 3) := by decide +kernel
theorem dX1_timesBite_43 : decode cX1_timesBite 43 = .ok (.iconst 3, 1) := by decide +kernel
theorem dX1_timesBite_44 : decode cX1_timesBite 44 = .ok (.goto 4, 3) := by decide +kernel
theorem dX1_timesBite_47 : decode cX1_timesBite 47 = .ok (.iconst 0, 1) := by decide +kernel
theorem dX1_timesBite_48 : decode cX1_timesBite 48 = .ok (.ireturn, 1) := by decide +kernel
theorem dX1_timesBite_49 : decode cX1_timesBite 49 = .ok (.iconst 1, 1) := by decide +kernel
theorem dX1_timesBite_50 : decode cX1_timesBite 50 = .ok (.ireturn, 1) := by decide +kernel
theorem dX1_cleanPlate_0 : decode cX1_cleanPlate 0 = .ok (.iconst 0, 1) := by decide +kernel
theorem dX1_cleanPlate_1 : decode cX1_cleanPlate 1 = .ok (.istore_n 2, 1) := by decide +kernel
theorem dX1_cleanPlate_2 : decode cX1_cleanPlate 2 = .ok (.iload_n 1, 1) := by decide +kernel
theorem dX1_cleanPlate_3 : decode cX1_cleanPlate 3 = .ok (.bipush 36, 2) := by decide +kernel
theorem dX1_cleanPlate_5 : decode cX1_cleanPlate 5 = .ok (.imul, 1) := by decide +kernel
theorem dX1_cleanPlate_6 : decode cX1_cleanPlate 6 = .ok (.istore_n 3, 1) := by decide +kernel
theorem dX1_cleanPlate_7 : decode cX1_cleanPlate 7 = .ok (.iload_n 3, 1) := by decide +kernel
theorem dX1_cleanPlate_8 : decode cX1_cleanPlate 8 = .ok (.iload_n 1, 1) := by decide +kernel
theorem dX1_cleanPlate_9 : decode cX1_cleanPlate 9 = .ok (.iconst 1, 1) := by decide +kernel
theorem dX1_cleanPlate_10 : decode cX1_cleanPlate 10 = .ok (.iadd, 1) := by decide +kernel
theorem dX1_cleanPlate_11 : decode cX1_cleanPlate 11 = .ok (.bipush 36, 2) := by decide +kernel
theorem dX1_cleanPlate_13 : decode cX1_cleanPlate 13 = .ok (.imul, 1) := by decide +kernel
theorem dX1_cleanPlate_14 : decode cX1_cleanPlate 14 = .ok (.if_icmp .ge 28, 3) := by decide +kernel
theorem dX1_cleanPlate_17 : decode cX1_cleanPlate 17 = .ok (.aload_n 0, 1) := by decide +kernel
theorem dX1_cleanPlate_18 : decode cX1_cleanPlate 18 = .ok (.getfield 21, 3) := by decide +kernel
theorem dX1_cleanPlate_21 : decode cX1_cleanPlate 21 = .ok (.iload_n 3, 1) := by decide +kernel
theorem dX1_cleanPlate_22 : decode cX1_cleanPlate 22 = .ok (.baload, 1) := by decide +kernel
theorem dX1_cleanPlate_23 : decode cX1_cleanPlate 23 = .ok (.ifCond .eq 13, 3) := by decide +kernel
theorem dX1_cleanPlate_26 : decode cX1_cleanPlate 26 = .ok (.iinc 2 1, 3) := by decide +kernel
theorem dX1_cleanPlate_29 : decode cX1_cleanPlate 29 = .ok (.aload_n 0, 1) := by decide +kernel
theorem dX1_cleanPlate_30 : decode cX1_cleanPlate 30 = .ok (.getfield 21, 3) := by decide +kernel
theorem dX1_cleanPlate_33 : decode cX1_cleanPlate 33 = .ok (.iload_n 3, 1) := by decide +kernel
theorem dX1_cleanPlate_34 : decode cX1_cleanPlate 34 = .ok (.iconst 0, 1) := by decide +kernel
theorem dX1_cleanPlate_35 : decode cX1_cleanPlate 35 = .ok (.bastore, 1) := by decide +kernel
theorem dX1_cleanPlate_36 : decode cX1_cleanPlate 36 = .ok (.iinc 3 1, 3) := by decide +kernel
theorem dX1_cleanPlate_39 : decode cX1_cleanPlate 39 = .ok (.goto (-32), 3) := by decide +kernel
theorem dX1_cleanPlate_42 : decode cX1_cleanPlate 42 = .ok (.iload_n 2, 1) := by decide +kernel
theorem dX1_cleanPlate_43 : decode cX1_cleanPlate 43 = .ok (.ireturn, 1) := by decide +kernel
theorem dX1_bathePlate_0 : decode cX1_bathePlate 0 = .ok (.iload_n 1, 1) := by decide +kernel
theorem dX1_bathePlate_1 : decode cX1_bathePlate 1 = .ok (.bipush 36, 2) := by decide +kernel
theorem dX1_bathePlate_3 : decode cX1_bathePlate 3 = .ok (.imul, 1) := by decide +kernel
theorem dX1_bathePlate_4 : decode cX1_bathePlate 4 = .ok (.istore 4, 2) := by decide +kernel
theorem dX1_bathePlate_6 : decode cX1_bathePlate 6 = .ok (.iload 4, 2) := by decide +kernel
theorem dX1_bathePlate_8 : decode cX1_bathePlate 8 = .ok (.iload_n 1, 1) := by decide +kernel
theorem dX1_bathePlate_9 : decode cX1_bathePlate 9 = .ok (.iconst 1, 1) := by decide +kernel
theorem dX1_bathePlate_10 : decode cX1_bathePlate 10 = .ok (.iadd, 1) := by decide +kernel
theorem dX1_bathePlate_11 : decode cX1_bathePlate 11 = .ok (.bipush 36, 2) := by decide +kernel
theorem dX1_bathePlate_13 : decode cX1_bathePlate 13 = .ok (.imul, 1) := by decide +kernel
theorem dX1_bathePlate_14 : decode cX1_bathePlate 14 = .ok (.if_icmp .ge 27, 3) := by decide +kernel
theorem dX1_bathePlate_17 : decode cX1_bathePlate 17 = .ok (.aload_n 0, 1) := by decide +kernel
theorem dX1_bathePlate_18 : decode cX1_bathePlate 18 = .ok (.getfield 21, 3) := by decide +kernel
theorem dX1_bathePlate_21 : decode cX1_bathePlate 21 = .ok (.iload 4, 2) := by decide +kernel
theorem dX1_bathePlate_23 : decode cX1_bathePlate 23 = .ok (.baload, 1) := by decide +kernel
theorem dX1_bathePlate_24 : decode cX1_bathePlate 24 = .ok (.ifCond .ne 11, 3) := by decide +kernel
theorem dX1_bathePlate_27 : decode cX1_bathePlate 27 = .ok (.aload_n 0, 1) := by decide +kernel
theorem dX1_bathePlate_28 : decode cX1_bathePlate 28 = .ok (.iload 4, 2) := by decide +kernel
theorem dX1_bathePlate_30 : decode cX1_bathePlate 30 = .ok (.iload_n 2, 1) := by decide +kernel
theorem dX1_bathePlate_31 : decode cX1_bathePlate 31 = .ok (.iload_n 3, 1) := by decide +kernel
theorem dX1_bathePlate_32 : decode cX1_bathePlate 32 = .ok (.invokevirtual 29, 3) := by decide +kernel
theorem dX1_bathePlate_35 : decode cX1_bathePlate 35 = .ok (.iinc 4 1, 3) := by decide +kernel
theorem dX1_bathePlate_38 : decode cX1_bathePlate 38 = .ok (.goto (-32), 3) := by decide +kernel
theorem dX1_bathePlate_41 : decode cX1_bathePlate 41 = .ok (.return_, 1) := by decide +kernel
theorem dX1_batheCell_0 : decode cX1_batheCell 0 = .ok (.aload_n 0, 1) := by decide +kernel
theorem dX1_batheCell_1 : decode cX1_batheCell 1 = .ok (.iload_n 1, 1) := by decide +kernel
theorem dX1_batheCell_2 : decode cX1_batheCell 2 = .ok (.iload_n 3, 1) := by decide +kernel
theorem dX1_batheCell_3 : decode cX1_batheCell 3 = .ok (.invokevirtual 33, 3) := by decide +kernel
theorem dX1_batheCell_6 : decode cX1_batheCell 6 = .ok (.istore 4, 2) := by decide +kernel
theorem dX1_batheCell_8 : decode cX1_batheCell 8 = .ok (.aload_n 0, 1) := by decide +kernel
theorem dX1_batheCell_9 : decode cX1_batheCell 9 = .ok (.getfield 15, 3) := by decide +kernel
theorem dX1_batheCell_12 : decode cX1_batheCell 12 = .ok (.iload_n 1, 1) := by decide +kernel
theorem dX1_batheCell_13 : decode cX1_batheCell 13 = .ok (.sipush 9999, 3) := by decide +kernel
theorem dX1_batheCell_16 : decode cX1_batheCell 16 = .ok (.aload_n 0, 1) := by decide +kernel
theorem dX1_batheCell_17 : decode cX1_batheCell 17 = .ok (.getfield 15, 3) := by decide +kernel
theorem dX1_batheCell_20 : decode cX1_batheCell 20 = .ok (.iload_n 1, 1) := by decide +kernel
theorem dX1_batheCell_21 : decode cX1_batheCell 21 = .ok (.iaload, 1) := by decide +kernel
theorem dX1_batheCell_22 : decode cX1_batheCell 22 = .ok (.aload_n 0, 1) := by decide +kernel
theorem dX1_batheCell_23 : decode cX1_batheCell 23 = .ok (.iload_n 1, 1) := by decide +kernel
theorem dX1_batheCell_24 : decode cX1_batheCell 24 = .ok (.invokevirtual 37, 3) := by decide +kernel
theorem dX1_batheCell_27 : decode cX1_batheCell 27 = .ok (.iload_n 2, 1) := by decide +kernel
theorem dX1_batheCell_28 : decode cX1_batheCell 28 = .ok (.imul, 1) := by decide +kernel
theorem dX1_batheCell_29 : decode cX1_batheCell 29 = .ok (.iload 4, 2) := by decide +kernel
theorem dX1_batheCell_31 : decode cX1_batheCell 31 = .ok (.imul, 1) := by decide +kernel
theorem dX1_batheCell_32 : decode cX1_batheCell 32 = .ok (.iadd, 1) := by decide +kernel
theorem dX1_batheCell_33 : decode cX1_batheCell 33 = .ok (.invokestatic 40, 3) := by decide +kernel
theorem dX1_batheCell_36 : decode cX1_batheCell 36 = .ok (.iastore, 1) := by decide +kernel
theorem dX1_batheCell_37 : decode cX1_batheCell 37 = .ok (.aload_n 0, 1) := by decide +kernel
theorem dX1_batheCell_38 : decode cX1_batheCell 38 = .ok (.getfield 9, 3) := by decide +kernel
theorem dX1_batheCell_41 : decode cX1_batheCell 41 = .ok (.iload_n 1, 1) := by decide +kernel
theorem dX1_batheCell_42 : decode cX1_batheCell 42 = .ok (.iaload, 1) := by decide +kernel
theorem dX1_batheCell_43 : decode cX1_batheCell 43 = .ok (.iconst 2, 1) := by decide +kernel
theorem dX1_batheCell_44 : decode cX1_batheCell 44 = .ok (.if_icmp .ne 14, 3) := by decide +kernel
theorem dX1_batheCell_47 : decode cX1_batheCell 47 = .ok (.aload_n 0, 1) := by decide +kernel
theorem dX1_batheCell_48 : decode cX1_batheCell 48 = .ok (.getfield 18, 3) := by decide +kernel
theorem dX1_batheCell_51 : decode cX1_batheCell 51 = .ok (.iload_n 1, 1) := by decide +kernel
theorem dX1_batheCell_52 : decode cX1_batheCell 52 = .ok (.dup2, 1) := by decide +kernel
theorem dX1_batheCell_53 : decode cX1_batheCell 53 = .ok (.iaload, 1) := by decide +kernel
theorem dX1_batheCell_54 : decode cX1_batheCell 54 = .ok (.iload 4, 2) := by decide +kernel
theorem dX1_batheCell_56 : decode cX1_batheCell 56 = .ok (.isub, 1) := by decide +kernel
theorem dX1_batheCell_57 : decode cX1_batheCell 57 = .ok (.iastore, 1) := by decide +kernel
theorem dX1_batheCell_58 : decode cX1_batheCell 58 = .ok (.return_, 1) := by decide +kernel
theorem dX1_bitingMinutes_0 : decode cX1_bitingMinutes 0 = .ok (.aload_n 0, 1) := by decide +kernel
theorem dX1_bitingMinutes_1 : decode cX1_bitingMinutes 1 = .ok (.getfield 9, 3) := by decide +kernel
theorem dX1_bitingMinutes_4 : decode cX1_bitingMinutes 4 = .ok (.iload_n 1, 1) := by decide +kernel
theorem dX1_bitingMinutes_5 : decode cX1_bitingMinutes 5 = .ok (.iaload, 1) := by decide +kernel
theorem dX1_bitingMinutes_6 : decode cX1_bitingMinutes 6 = .ok (.iconst 2, 1) := by decide +kernel
theorem dX1_bitingMinutes_7 : decode cX1_bitingMinutes 7 = .ok (.if_icmp .ne 16, 3) := by decide +kernel
theorem dX1_bitingMinutes_10 : decode cX1_bitingMinutes 10 = .ok (.iload_n 2, 1) := by decide +kernel
theorem dX1_bitingMinutes_11 : decode cX1_bitingMinutes 11 = .ok (.aload_n 0, 1) := by decide +kernel
theorem dX1_bitingMinutes_12 : decode cX1_bitingMinutes 12 = .ok (.getfield 18, 3) := by decide +kernel
theorem dX1_bitingMinutes_15 : decode cX1_bitingMinutes 15 = .ok (.iload_n 1, 1) := by decide +kernel
theorem dX1_bitingMinutes_16 : decode cX1_bitingMinutes 16 = .ok (.iaload, 1) := by decide +kernel
theorem dX1_bitingMinutes_17 : decode cX1_bitingMinutes 17 = .ok (.invokestatic 40, 3) := by decide +kernel
theorem dX1_bitingMinutes_20 : decode cX1_bitingMinutes 20 = .ok (.goto 4, 3) := by decide +kernel
theorem dX1_bitingMinutes_23 : decode cX1_bitingMinutes 23 = .ok (.iload_n 2, 1) := by decide +kernel
theorem dX1_bitingMinutes_24 : decode cX1_bitingMinutes 24 = .ok (.ireturn, 1) := by decide +kernel
theorem dX1_depthOfPlate_0 : decode cX1_depthOfPlate 0 = .ok (.iconst 0, 1) := by decide +kernel
theorem dX1_depthOfPlate_1 : decode cX1_depthOfPlate 1 = .ok (.istore_n 2, 1) := by decide +kernel
theorem dX1_depthOfPlate_2 : decode cX1_depthOfPlate 2 = .ok (.iload_n 1, 1) := by decide +kernel
theorem dX1_depthOfPlate_3 : decode cX1_depthOfPlate 3 = .ok (.bipush 36, 2) := by decide +kernel
theorem dX1_depthOfPlate_5 : decode cX1_depthOfPlate 5 = .ok (.imul, 1) := by decide +kernel
theorem dX1_depthOfPlate_6 : decode cX1_depthOfPlate 6 = .ok (.istore_n 3, 1) := by decide +kernel
theorem dX1_depthOfPlate_7 : decode cX1_depthOfPlate 7 = .ok (.iload_n 3, 1) := by decide +kernel
theorem dX1_depthOfPlate_8 : decode cX1_depthOfPlate 8 = .ok (.iload_n 1, 1) := by decide +kernel
theorem dX1_depthOfPlate_9 : decode cX1_depthOfPlate 9 = .ok (.iconst 1, 1) := by decide +kernel
theorem dX1_depthOfPlate_10 : decode cX1_depthOfPlate 10 = .ok (.iadd, 1) := by decide +kernel
theorem dX1_depthOfPlate_11 : decode cX1_depthOfPlate 11 = .ok (.bipush 36, 2) := by decide +kernel
theorem dX1_depthOfPlate_13 : decode cX1_depthOfPlate 13 = .ok (.imul, 1) := by decide +kernel
theorem dX1_depthOfPlate_14 : decode cX1_depthOfPlate 14 = .ok (.if_icmp .ge 18, 3) := by decide +kernel
theorem dX1_depthOfPlate_17 : decode cX1_depthOfPlate 17 = .ok (.iload_n 2, 1) := by decide +kernel
theorem dX1_depthOfPlate_18 : decode cX1_depthOfPlate 18 = .ok (.aload_n 0, 1) := by decide +kernel
theorem dX1_depthOfPlate_19 : decode cX1_depthOfPlate 19 = .ok (.getfield 15, 3) := by decide +kernel
theorem dX1_depthOfPlate_22 : decode cX1_depthOfPlate 22 = .ok (.iload_n 3, 1) := by decide +kernel
theorem dX1_depthOfPlate_23 : decode cX1_depthOfPlate 23 = .ok (.iaload, 1) := by decide +kernel
theorem dX1_depthOfPlate_24 : decode cX1_depthOfPlate 24 = .ok (.iadd, 1) := by decide +kernel
theorem dX1_depthOfPlate_25 : decode cX1_depthOfPlate 25 = .ok (.istore_n 2, 1) := by decide +kernel
theorem dX1_depthOfPlate_26 : decode cX1_depthOfPlate 26 = .ok (.iinc 3 1, 3) := by decide +kernel
theorem dX1_depthOfPlate_29 : decode cX1_depthOfPlate 29 = .ok (.goto (-22), 3) := by decide +kernel
theorem dX1_depthOfPlate_32 : decode cX1_depthOfPlate 32 = .ok (.iload_n 2, 1) := by decide +kernel
theorem dX1_depthOfPlate_33 : decode cX1_depthOfPlate 33 = .ok (.ireturn, 1) := by decide +kernel
theorem dX1_scrapeCell_0 : decode cX1_scrapeCell 0 = .ok (.aload_n 0, 1) := by decide +kernel
theorem dX1_scrapeCell_1 : decode cX1_scrapeCell 1 = .ok (.getfield 15, 3) := by decide +kernel
theorem dX1_scrapeCell_4 : decode cX1_scrapeCell 4 = .ok (.iload_n 1, 1) := by decide +kernel
theorem dX1_scrapeCell_5 : decode cX1_scrapeCell 5 = .ok (.iaload, 1) := by decide +kernel
theorem dX1_scrapeCell_6 : decode cX1_scrapeCell 6 = .ok (.istore_n 3, 1) := by decide +kernel
theorem dX1_scrapeCell_7 : decode cX1_scrapeCell 7 = .ok (.iconst 0, 1) := by decide +kernel
theorem dX1_scrapeCell_8 : decode cX1_scrapeCell 8 = .ok (.istore 4, 2) := by decide +kernel
theorem dX1_scrapeCell_10 : decode cX1_scrapeCell 10 = .ok (.iload 4, 2) := by decide +kernel
theorem dX1_scrapeCell_12 : decode cX1_scrapeCell 12 = .ok (.iload_n 2, 1) := by decide +kernel
theorem dX1_scrapeCell_13 : decode cX1_scrapeCell 13 = .ok (.if_icmp .ge 26, 3) := by decide +kernel
theorem dX1_scrapeCell_16 : decode cX1_scrapeCell 16 = .ok (.iload_n 3, 1) := by decide +kernel
theorem dX1_scrapeCell_17 : decode cX1_scrapeCell 17 = .ok (.ifCond .le 22, 3) := by decide +kernel
theorem dX1_scrapeCell_20 : decode cX1_scrapeCell 20 = .ok (.iconst 0, 1) := by decide +kernel
theorem dX1_scrapeCell_21 : decode cX1_scrapeCell 21 = .ok (.iload_n 3, 1) := by decide +kernel
theorem dX1_scrapeCell_22 : decode cX1_scrapeCell 22 = .ok (.iload_n 3, 1) := by decide +kernel
theorem dX1_scrapeCell_23 : decode cX1_scrapeCell 23 = .ok (.bipush 10, 2) := by decide +kernel
theorem dX1_scrapeCell_25 : decode cX1_scrapeCell 25 = .ok (.idiv, 1) := by decide +kernel
theorem dX1_scrapeCell_26 : decode cX1_scrapeCell 26 = .ok (.isub, 1) := by decide +kernel
theorem dX1_scrapeCell_27 : decode cX1_scrapeCell 27 = .ok (.iconst 1, 1) := by decide +kernel
theorem dX1_scrapeCell_28 : decode cX1_scrapeCell 28 = .ok (.isub, 1) := by decide +kernel
theorem dX1_scrapeCell_29 : decode cX1_scrapeCell 29 = .ok (.invokestatic 45, 3) := by decide +kernel
theorem dX1_scrapeCell_32 : decode cX1_scrapeCell 32 = .ok (.istore_n 3, 1) := by decide +kernel
theorem dX1_scrapeCell_33 : decode cX1_scrapeCell 33 = .ok (.iinc 4 1, 3) := by decide +kernel
theorem dX1_scrapeCell_36 : decode cX1_scrapeCell 36 = .ok (.goto (-26), 3) := by decide +kernel
theorem dX1_scrapeCell_39 : decode cX1_scrapeCell 39 = .ok (.aload_n 0, 1) := by decide +kernel
theorem dX1_scrapeCell_40 : decode cX1_scrapeCell 40 = .ok (.getfield 15, 3) := by decide +kernel
theorem dX1_scrapeCell_43 : decode cX1_scrapeCell 43 = .ok (.iload_n 1, 1) := by decide +kernel
theorem dX1_scrapeCell_44 : decode cX1_scrapeCell 44 = .ok (.iload_n 3, 1) := by decide +kernel
theorem dX1_scrapeCell_45 : decode cX1_scrapeCell 45 = .ok (.iastore, 1) := by decide +kernel
theorem dX1_scrapeCell_46 : decode cX1_scrapeCell 46 = .ok (.return_, 1) := by decide +kernel
theorem dX1_firstMinute_0 : decode cX1_firstMinute 0 = .ok (.aload_n 0, 1) := by decide +kernel
theorem dX1_firstMinute_1 : decode cX1_firstMinute 1 = .ok (.iload_n 1, 1) := by decide +kernel
theorem dX1_firstMinute_2 : decode cX1_firstMinute 2 = .ok (.iload_n 2, 1) := by decide +kernel
theorem dX1_firstMinute_3 : decode cX1_firstMinute 3 = .ok (.bipush 40, 2) := by decide +kernel
theorem dX1_firstMinute_5 : decode cX1_firstMinute 5 = .ok (.imul, 1) := by decide +kernel
theorem dX1_firstMinute_6 : decode cX1_firstMinute 6 = .ok (.iload_n 3, 1) := by decide +kernel
theorem dX1_firstMinute_7 : decode cX1_firstMinute 7 = .ok (.invokevirtual 48, 3) := by decide +kernel
theorem dX1_firstMinute_10 : decode cX1_firstMinute 10 = .ok (.ireturn, 1) := by decide +kernel
theorem dX1_lastMinute_0 : decode cX1_lastMinute 0 = .ok (.iload_n 2, 1) := by decide +kernel
theorem dX1_lastMinute_1 : decode cX1_lastMinute 1 = .ok (.bipush 15, 2) := by decide +kernel
theorem dX1_lastMinute_3 : decode cX1_lastMinute 3 = .ok (.if_icmp .lt 7, 3) := by decide +kernel
theorem dX1_lastMinute_6 : decode cX1_lastMinute 6 = .ok (.sipush 200, 3) := by decide +kernel
theorem dX1_lastMinute_9 : decode cX1_lastMinute 9 = .ok (.ireturn, 1) := by decide +kernel
theorem dX1_lastMinute_10 : decode cX1_lastMinute 10 = .ok (.aload_n 0, 1) := by decide +kernel
theorem dX1_lastMinute_11 : decode cX1_lastMinute 11 = .ok (.iload_n 1, 1) := by decide +kernel
theorem dX1_lastMinute_12 : decode cX1_lastMinute 12 = .ok (.iload_n 2, 1) := by decide +kernel
theorem dX1_lastMinute_13 : decode cX1_lastMinute 13 = .ok (.iconst 1, 1) := by decide +kernel
theorem dX1_lastMinute_14 : decode cX1_lastMinute 14 = .ok (.iadd, 1) := by decide +kernel
theorem dX1_lastMinute_15 : decode cX1_lastMinute 15 = .ok (.bipush 40, 2) := by decide +kernel
theorem dX1_lastMinute_17 : decode cX1_lastMinute 17 = .ok (.imul, 1) := by decide +kernel
theorem dX1_lastMinute_18 : decode cX1_lastMinute 18 = .ok (.iload_n 3, 1) := by decide +kernel
theorem dX1_lastMinute_19 : decode cX1_lastMinute 19 = .ok (.invokevirtual 48, 3) := by decide +kernel
theorem dX1_lastMinute_22 : decode cX1_lastMinute 22 = .ok (.iconst 1, 1) := by decide +kernel
theorem dX1_lastMinute_23 : decode cX1_lastMinute 23 = .ok (.isub, 1) := by decide +kernel
theorem dX1_lastMinute_24 : decode cX1_lastMinute 24 = .ok (.ireturn, 1) := by decide +kernel
theorem dX1_minuteOfDepth_0 : decode cX1_minuteOfDepth 0 = .ok (.iload_n 2, 1) := by decide +kernel
theorem dX1_minuteOfDepth_1 : decode cX1_minuteOfDepth 1 = .ok (.aload_n 0, 1) := by decide +kernel
theorem dX1_minuteOfDepth_2 : decode cX1_minuteOfDepth 2 = .ok (.getfield 15, 3) := by decide +kernel
theorem dX1_minuteOfDepth_5 : decode cX1_minuteOfDepth 5 = .ok (.iload_n 1, 1) := by decide +kernel
theorem dX1_minuteOfDepth_6 : decode cX1_minuteOfDepth 6 = .ok (.iaload, 1) := by decide +kernel
theorem dX1_minuteOfDepth_7 : decode cX1_minuteOfDepth 7 = .ok (.isub, 1) := by decide +kernel
theorem dX1_minuteOfDepth_8 : decode cX1_minuteOfDepth 8 = .ok (.istore 4, 2) := by decide +kernel
theorem dX1_minuteOfDepth_10 : decode cX1_minuteOfDepth 10 = .ok (.iload 4, 2) := by decide +kernel
theorem dX1_minuteOfDepth_12 : decode cX1_minuteOfDepth 12 = .ok (.ifCond .gt 5, 3) := by decide +kernel
theorem dX1_minuteOfDepth_15 : decode cX1_minuteOfDepth 15 = .ok (.iconst 0, 1) := by decide +kernel
theorem dX1_minuteOfDepth_16 : decode cX1_minuteOfDepth 16 = .ok (.ireturn, 1) := by decide +kernel
theorem dX1_minuteOfDepth_17 : decode cX1_minuteOfDepth 17 = .ok (.aload_n 0, 1) := by decide +kernel
theorem dX1_minuteOfDepth_18 : decode cX1_minuteOfDepth 18 = .ok (.iload_n 1, 1) := by decide +kernel
theorem dX1_minuteOfDepth_19 : decode cX1_minuteOfDepth 19 = .ok (.invokevirtual 37, 3) := by decide +kernel
theorem dX1_minuteOfDepth_22 : decode cX1_minuteOfDepth 22 = .ok (.iload_n 3, 1) := by decide +kernel
theorem dX1_minuteOfDepth_23 : decode cX1_minuteOfDepth 23 = .ok (.imul, 1) := by decide +kernel
theorem dX1_minuteOfDepth_24 : decode cX1_minuteOfDepth 24 = .ok (.istore 5, 2) := by decide +kernel
theorem dX1_minuteOfDepth_26 : decode cX1_minuteOfDepth 26 = .ok (.iload 5, 2) := by decide +kernel
theorem dX1_minuteOfDepth_28 : decode cX1_minuteOfDepth 28 = .ok (.ifCond .gt 7, 3) := by decide +kernel
theorem dX1_minuteOfDepth_31 : decode cX1_minuteOfDepth 31 = .ok (.sipush 201, 3) := by decide +kernel
theorem dX1_minuteOfDepth_34 : decode cX1_minuteOfDepth 34 = .ok (.ireturn, 1) := by decide +kernel
theorem dX1_minuteOfDepth_35 : decode cX1_minuteOfDepth 35 = .ok (.iload 4, 2) := by decide +kernel
theorem dX1_minuteOfDepth_37 : decode cX1_minuteOfDepth 37 = .ok (.iload 5, 2) := by decide +kernel
theorem dX1_minuteOfDepth_39 : decode cX1_minuteOfDepth 39 = .ok (.iadd, 1) := by decide +kernel
theorem dX1_minuteOfDepth_40 : decode cX1_minuteOfDepth 40 = .ok (.iconst 1, 1) := by decide +kernel
theorem dX1_minuteOfDepth_41 : decode cX1_minuteOfDepth 41 = .ok (.isub, 1) := by decide +kernel
theorem dX1_minuteOfDepth_42 : decode cX1_minuteOfDepth 42 = .ok (.iload 5, 2) := by decide +kernel
theorem dX1_minuteOfDepth_44 : decode cX1_minuteOfDepth 44 = .ok (.idiv, 1) := by decide +kernel
theorem dX1_minuteOfDepth_45 : decode cX1_minuteOfDepth 45 = .ok (.istore 6, 2) := by decide +kernel
theorem dX1_minuteOfDepth_47 : decode cX1_minuteOfDepth 47 = .ok (.iload 6, 2) := by decide +kernel
theorem dX1_minuteOfDepth_49 : decode cX1_minuteOfDepth 49 = .ok (.aload_n 0, 1) := by decide +kernel
theorem dX1_minuteOfDepth_50 : decode cX1_minuteOfDepth 50 = .ok (.iload_n 1, 1) := by decide +kernel
theorem dX1_minuteOfDepth_51 : decode cX1_minuteOfDepth 51 = .ok (.sipush 200, 3) := by decide +kernel
theorem dX1_minuteOfDepth_54 : decode cX1_minuteOfDepth 54 = .ok (.invokevirtual 33, 3) := by decide +kernel
theorem dX1_minuteOfDepth_57 : decode cX1_minuteOfDepth 57 = .ok (.if_icmp .gt 8, 3) := by decide +kernel
theorem dX1_minuteOfDepth_60 : decode cX1_minuteOfDepth 60 = .ok (.iload 6, 2) := by decide +kernel
theorem dX1_minuteOfDepth_62 : decode cX1_minuteOfDepth 62 = .ok (.goto 6, 3) := by decide +kernel
theorem dX1_minuteOfDepth_65 : decode cX1_minuteOfDepth 65 = .ok (.sipush 201, 3) := by decide +kernel
theorem dX1_minuteOfDepth_68 : decode cX1_minuteOfDepth 68 = .ok (.ireturn, 1) := by decide +kernel
theorem dX1_differences_0 : decode cX1_differences 0 = .ok (.iconst 0, 1) := by decide +kernel
theorem dX1_differences_1 : decode cX1_differences 1 = .ok (.istore_n 3, 1) := by decide +kernel
theorem dX1_differences_2 : decode cX1_differences 2 = .ok (.iload_n 2, 1) := by decide +kernel
theorem dX1_differences_3 : decode cX1_differences 3 = .ok (.bipush 36, 2) := by decide +kernel
theorem dX1_differences_5 : decode cX1_differences 5 = .ok (.imul, 1) := by decide +kernel
theorem dX1_differences_6 : decode cX1_differences 6 = .ok (.istore 4, 2) := by decide +kernel
theorem dX1_differences_8 : decode cX1_differences 8 = .ok (.iload 4, 2) := by decide +kernel
theorem dX1_differences_10 : decode cX1_differences 10 = .ok (.iload_n 2, 1) := by decide +kernel
theorem dX1_differences_11 : decode cX1_differences 11 = .ok (.iconst 1, 1) := by decide +kernel
theorem dX1_differences_12 : decode cX1_differences 12 = .ok (.iadd, 1) := by decide +kernel
theorem dX1_differences_13 : decode cX1_differences 13 = .ok (.bipush 36, 2) := by decide +kernel
theorem dX1_differences_15 : decode cX1_differences 15 = .ok (.imul, 1) := by decide +kernel
theorem dX1_differences_16 : decode cX1_differences 16 = .ok (.if_icmp .ge 63, 3) := by decide +kernel
theorem dX1_differences_19 : decode cX1_differences 19 = .ok (.aload_n 0, 1) := by decide +kernel
theorem dX1_differences_20 : decode cX1_differences 20 = .ok (.getfield 9, 3) := by decide +kernel
theorem dX1_differences_23 : decode cX1_differences 23 = .ok (.iload 4, 2) := by decide +kernel
theorem dX1_differences_25 : decode cX1_differences 25 = .ok (.iaload, 1) := by decide +kernel
theorem dX1_differences_26 : decode cX1_differences 26 = .ok (.aload_n 1, 1) := by decide +kernel
theorem dX1_differences_27 : decode cX1_differences 27 = .ok (.getfield 9, 3) := by decide +kernel
theorem dX1_differences_30 : decode cX1_differences 30 = .ok (.iload 4, 2) := by decide +kernel
theorem dX1_differences_32 : decode cX1_differences 32 = .ok (.iaload, 1) := by decide +kernel
theorem dX1_differences_33 : decode cX1_differences 33 = .ok (.if_icmp .ne 37, 3) := by decide +kernel
theorem dX1_differences_36 : decode cX1_differences 36 = .ok (.aload_n 0, 1) := by decide +kernel
theorem dX1_differences_37 : decode cX1_differences 37 = .ok (.getfield 15, 3) := by decide +kernel
theorem dX1_differences_40 : decode cX1_differences 40 = .ok (.iload 4, 2) := by decide +kernel
theorem dX1_differences_42 : decode cX1_differences 42 = .ok (.iaload, 1) := by decide +kernel
theorem dX1_differences_43 : decode cX1_differences 43 = .ok (.aload_n 1, 1) := by decide +kernel
theorem dX1_differences_44 : decode cX1_differences 44 = .ok (.getfield 15, 3) := by decide +kernel
theorem dX1_differences_47 : decode cX1_differences 47 = .ok (.iload 4, 2) := by decide +kernel
theorem dX1_differences_49 : decode cX1_differences 49 = .ok (.iaload, 1) := by decide +kernel
theorem dX1_differences_50 : decode cX1_differences 50 = .ok (.if_icmp .ne 20, 3) := by decide +kernel
theorem dX1_differences_53 : decode cX1_differences 53 = .ok (.aload_n 0, 1) := by decide +kernel
theorem dX1_differences_54 : decode cX1_differences 54 = .ok (.getfield 21, 3) := by decide +kernel
theorem dX1_differences_57 : decode cX1_differences 57 = .ok (.iload 4, 2) := by decide +kernel
theorem dX1_differences_59 : decode cX1_differences 59 = .ok (.baload, 1) := by decide +kernel
theorem dX1_differences_60 : decode cX1_differences 60 = .ok (.aload_n 1, 1) := by decide +kernel
theorem dX1_differences_61 : decode cX1_differences 61 = .ok (.getfield 21, 3) := by decide +kernel
theorem dX1_differences_64 : decode cX1_differences 64 = .ok (.iload 4, 2) := by decide +kernel
theorem dX1_differences_66 : decode cX1_differences 66 = .ok (.baload, 1) := by decide +kernel
theorem dX1_differences_67 : decode cX1_differences 67 = .ok (.if_icmp .eq 6, 3) := by decide +kernel
theorem dX1_differences_70 : decode cX1_differences 70 = .ok (.iinc 3 1, 3) := by decide +kernel
theorem dX1_differences_73 : decode cX1_differences 73 = .ok (.iinc 4 1, 3) := by decide +kernel
theorem dX1_differences_76 : decode cX1_differences 76 = .ok (.goto (-68), 3) := by decide +kernel
theorem dX1_differences_79 : decode cX1_differences 79 = .ok (.iload_n 3, 1) := by decide +kernel
theorem dX1_differences_80 : decode cX1_differences 80 = .ok (.ireturn, 1) := by decide +kernel
theorem dX1_copyPlate_0 : decode cX1_copyPlate 0 = .ok (.iload_n 2, 1) := by decide +kernel
theorem dX1_copyPlate_1 : decode cX1_copyPlate 1 = .ok (.bipush 36, 2) := by decide +kernel
theorem dX1_copyPlate_3 : decode cX1_copyPlate 3 = .ok (.imul, 1) := by decide +kernel
theorem dX1_copyPlate_4 : decode cX1_copyPlate 4 = .ok (.istore_n 3, 1) := by decide +kernel
theorem dX1_copyPlate_5 : decode cX1_copyPlate 5 = .ok (.iload_n 3, 1) := by decide +kernel
theorem dX1_copyPlate_6 : decode cX1_copyPlate 6 = .ok (.iload_n 2, 1) := by decide +kernel
theorem dX1_copyPlate_7 : decode cX1_copyPlate 7 = .ok (.iconst 1, 1) := by decide +kernel
theorem dX1_copyPlate_8 : decode cX1_copyPlate 8 = .ok (.iadd, 1) := by decide +kernel
theorem dX1_copyPlate_9 : decode cX1_copyPlate 9 = .ok (.bipush 36, 2) := by decide +kernel
theorem dX1_copyPlate_11 : decode cX1_copyPlate 11 = .ok (.imul, 1) := by decide +kernel
theorem dX1_copyPlate_12 : decode cX1_copyPlate 12 = .ok (.if_icmp .ge 57, 3) := by decide +kernel
theorem dX1_copyPlate_15 : decode cX1_copyPlate 15 = .ok (.aload_n 0, 1) := by decide +kernel
theorem dX1_copyPlate_16 : decode cX1_copyPlate 16 = .ok (.getfield 9, 3) := by decide +kernel
theorem dX1_copyPlate_19 : decode cX1_copyPlate 19 = .ok (.iload_n 3, 1) := by decide +kernel
theorem dX1_copyPlate_20 : decode cX1_copyPlate 20 = .ok (.aload_n 1, 1) := by decide +kernel
theorem dX1_copyPlate_21 : decode cX1_copyPlate 21 = .ok (.getfield 9, 3) := by decide +kernel
theorem dX1_copyPlate_24 : decode cX1_copyPlate 24 = .ok (.iload_n 3, 1) := by decide +kernel
theorem dX1_copyPlate_25 : decode cX1_copyPlate 25 = .ok (.iaload, 1) := by decide +kernel
theorem dX1_copyPlate_26 : decode cX1_copyPlate 26 = .ok (.iastore, 1) := by decide +kernel
theorem dX1_copyPlate_27 : decode cX1_copyPlate 27 = .ok (.aload_n 0, 1) := by decide +kernel
theorem dX1_copyPlate_28 : decode cX1_copyPlate 28 = .ok (.getfield 15, 3) := by decide +kernel
theorem dX1_copyPlate_31 : decode cX1_copyPlate 31 = .ok (.iload_n 3, 1) := by decide +kernel
theorem dX1_copyPlate_32 : decode cX1_copyPlate 32 = .ok (.aload_n 1, 1) := by decide +kernel
theorem dX1_copyPlate_33 : decode cX1_copyPlate 33 = .ok (.getfield 15, 3) := by decide +kernel
theorem dX1_copyPlate_36 : decode cX1_copyPlate 36 = .ok (.iload_n 3, 1) := by decide +kernel
theorem dX1_copyPlate_37 : decode cX1_copyPlate 37 = .ok (.iaload, 1) := by decide +kernel
theorem dX1_copyPlate_38 : decode cX1_copyPlate 38 = .ok (.iastore, 1) := by decide +kernel
theorem dX1_copyPlate_39 : decode cX1_copyPlate 39 = .ok (.aload_n 0, 1) := by decide +kernel
theorem dX1_copyPlate_40 : decode cX1_copyPlate 40 = .ok (.getfield 18, 3) := by decide +kernel
theorem dX1_copyPlate_43 : decode cX1_copyPlate 43 = .ok (.iload_n 3, 1) := by decide +kernel
theorem dX1_copyPlate_44 : decode cX1_copyPlate 44 = .ok (.aload_n 1, 1) := by decide +kernel
theorem dX1_copyPlate_45 : decode cX1_copyPlate 45 = .ok (.getfield 18, 3) := by decide +kernel
theorem dX1_copyPlate_48 : decode cX1_copyPlate 48 = .ok (.iload_n 3, 1) := by decide +kernel
theorem dX1_copyPlate_49 : decode cX1_copyPlate 49 = .ok (.iaload, 1) := by decide +kernel
theorem dX1_copyPlate_50 : decode cX1_copyPlate 50 = .ok (.iastore, 1) := by decide +kernel
theorem dX1_copyPlate_51 : decode cX1_copyPlate 51 = .ok (.aload_n 0, 1) := by decide +kernel
theorem dX1_copyPlate_52 : decode cX1_copyPlate 52 = .ok (.getfield 21, 3) := by decide +kernel
theorem dX1_copyPlate_55 : decode cX1_copyPlate 55 = .ok (.iload_n 3, 1) := by decide +kernel
theorem dX1_copyPlate_56 : decode cX1_copyPlate 56 = .ok (.aload_n 1, 1) := by decide +kernel
theorem dX1_copyPlate_57 : decode cX1_copyPlate 57 = .ok (.getfield 21, 3) := by decide +kernel
theorem dX1_copyPlate_60 : decode cX1_copyPlate 60 = .ok (.iload_n 3, 1) := by decide +kernel
theorem dX1_copyPlate_61 : decode cX1_copyPlate 61 = .ok (.baload, 1) := by decide +kernel
theorem dX1_copyPlate_62 : decode cX1_copyPlate 62 = .ok (.bastore, 1) := by decide +kernel
theorem dX1_copyPlate_63 : decode cX1_copyPlate 63 = .ok (.iinc 3 1, 3) := by decide +kernel
theorem dX1_copyPlate_66 : decode cX1_copyPlate 66 = .ok (.goto (-61), 3) := by decide +kernel
theorem dX1_copyPlate_69 : decode cX1_copyPlate 69 = .ok (.return_, 1) := by decide +kernel
theorem dX1_stoppedOfAll_0 : decode cX1_stoppedOfAll 0 = .ok (.iconst 0, 1) := by decide +kernel
theorem dX1_stoppedOfAll_1 : decode cX1_stoppedOfAll 1 = .ok (.istore_n 1, 1) := by decide +kernel
theorem dX1_stoppedOfAll_2 : decode cX1_stoppedOfAll 2 = .ok (.iconst 0, 1) := by decide +kernel
theorem dX1_stoppedOfAll_3 : decode cX1_stoppedOfAll 3 = .ok (.istore_n 2, 1) := by decide +kernel
theorem dX1_stoppedOfAll_4 : decode cX1_stoppedOfAll 4 = .ok (.iload_n 2, 1) := by decide +kernel
theorem dX1_stoppedOfAll_5 : decode cX1_stoppedOfAll 5 = .ok (.bipush 108, 2) := by decide +kernel
theorem dX1_stoppedOfAll_7 : decode cX1_stoppedOfAll 7 = .ok (.if_icmp .ge 21, 3) := by decide +kernel
theorem dX1_stoppedOfAll_10 : decode cX1_stoppedOfAll 10 = .ok (.aload_n 0, 1) := by decide +kernel
theorem dX1_stoppedOfAll_11 : decode cX1_stoppedOfAll 11 = .ok (.getfield 21, 3) := by decide +kernel
theorem dX1_stoppedOfAll_14 : decode cX1_stoppedOfAll 14 = .ok (.iload_n 2, 1) := by decide +kernel
theorem dX1_stoppedOfAll_15 : decode cX1_stoppedOfAll 15 = .ok (.baload, 1) := by decide +kernel
theorem dX1_stoppedOfAll_16 : decode cX1_stoppedOfAll 16 = .ok (.ifCond .eq 6, 3) := by decide +kernel
theorem dX1_stoppedOfAll_19 : decode cX1_stoppedOfAll 19 = .ok (.iinc 1 1, 3) := by decide +kernel
theorem dX1_stoppedOfAll_22 : decode cX1_stoppedOfAll 22 = .ok (.iinc 2 1, 3) := by decide +kernel
theorem dX1_stoppedOfAll_25 : decode cX1_stoppedOfAll 25 = .ok (.goto (-21), 3) := by decide +kernel
theorem dX1_stoppedOfAll_28 : decode cX1_stoppedOfAll 28 = .ok (.iload_n 1, 1) := by decide +kernel
theorem dX1_stoppedOfAll_29 : decode cX1_stoppedOfAll 29 = .ok (.ireturn, 1) := by decide +kernel
theorem dX2_colourAt_0 : decode cX2_colourAt 0 = .ok (.aload_n 0, 1) := by decide +kernel
theorem dX2_colourAt_1 : decode cX2_colourAt 1 = .ok (.aload_n 1, 1) := by decide +kernel
theorem dX2_colourAt_2 : decode cX2_colourAt 2 = .ok (.iconst 0, 1) := by decide +kernel
theorem dX2_colourAt_3 : decode cX2_colourAt 3 = .ok (.iload_n 2, 1) := by decide +kernel
theorem dX2_colourAt_4 : decode cX2_colourAt 4 = .ok (.invokevirtual 25, 3) := by decide +kernel
theorem dX2_colourAt_7 : decode cX2_colourAt 7 = .ok (.bipush 16, 2) := by decide +kernel
theorem dX2_colourAt_9 : decode cX2_colourAt 9 = .ok (.aload_n 0, 1) := by decide +kernel
theorem dX2_colourAt_10 : decode cX2_colourAt 10 = .ok (.aload_n 1, 1) := by decide +kernel
theorem dX2_colourAt_11 : decode cX2_colourAt 11 = .ok (.iconst 1, 1) := by decide +kernel
theorem dX2_colourAt_12 : decode cX2_colourAt 12 = .ok (.iload_n 2, 1) := by decide +kernel
theorem dX2_colourAt_13 : decode cX2_colourAt 13 = .ok (.invokevirtual 25, 3) := by decide +kernel
theorem dX2_colourAt_16 : decode cX2_colourAt 16 = .ok (.imul, 1) := by decide +kernel
theorem dX2_colourAt_17 : decode cX2_colourAt 17 = .ok (.iadd, 1) := by decide +kernel
theorem dX2_colourAt_18 : decode cX2_colourAt 18 = .ok (.sipush 256, 3) := by decide +kernel
theorem dX2_colourAt_21 : decode cX2_colourAt 21 = .ok (.aload_n 0, 1) := by decide +kernel
theorem dX2_colourAt_22 : decode cX2_colourAt 22 = .ok (.aload_n 1, 1) := by decide +kernel
theorem dX2_colourAt_23 : decode cX2_colourAt 23 = .ok (.iconst 2, 1) := by decide +kernel
theorem dX2_colourAt_24 : decode cX2_colourAt 24 = .ok (.iload_n 2, 1) := by decide +kernel
theorem dX2_colourAt_25 : decode cX2_colourAt 25 = .ok (.invokevirtual 25, 3) := by decide +kernel
theorem dX2_colourAt_28 : decode cX2_colourAt 28 = .ok (.imul, 1) := by decide +kernel
theorem dX2_colourAt_29 : decode cX2_colourAt 29 = .ok (.iadd, 1) := by decide +kernel
theorem dX2_colourAt_30 : decode cX2_colourAt 30 = .ok (.ireturn, 1) := by decide +kernel
theorem dX2_colourOfAll_0 : decode cX2_colourOfAll 0 = .ok (.iconst 0, 1) := by decide +kernel
theorem dX2_colourOfAll_1 : decode cX2_colourOfAll 1 = .ok (.istore_n 2, 1) := by decide +kernel
theorem dX2_colourOfAll_2 : decode cX2_colourOfAll 2 = .ok (.iconst 0, 1) := by decide +kernel
theorem dX2_colourOfAll_3 : decode cX2_colourOfAll 3 = .ok (.istore_n 3, 1) := by decide +kernel
theorem dX2_colourOfAll_4 : decode cX2_colourOfAll 4 = .ok (.iload_n 3, 1) := by decide +kernel
theorem dX2_colourOfAll_5 : decode cX2_colourOfAll 5 = .ok (.bipush 36, 2) := by decide +kernel
theorem dX2_colourOfAll_7 : decode cX2_colourOfAll 7 = .ok (.if_icmp .ge 18, 3) := by decide +kernel
theorem dX2_colourOfAll_10 : decode cX2_colourOfAll 10 = .ok (.iload_n 2, 1) := by decide +kernel
theorem dX2_colourOfAll_11 : decode cX2_colourOfAll 11 = .ok (.aload_n 0, 1) := by decide +kernel
theorem dX2_colourOfAll_12 : decode cX2_colourOfAll 12 = .ok (.aload_n 1, 1) := by decide +kernel
theorem dX2_colourOfAll_13 : decode cX2_colourOfAll 13 = .ok (.iload_n 3, 1) := by decide +kernel
theorem dX2_colourOfAll_14 : decode cX2_colourOfAll 14 = .ok (.invokevirtual 29, 3) := by decide +kernel
theorem dX2_colourOfAll_17 : decode cX2_colourOfAll 17 = .ok (.iadd, 1) := by decide +kernel
theorem dX2_colourOfAll_18 : decode cX2_colourOfAll 18 = .ok (.istore_n 2, 1) := by decide +kernel
theorem dX2_colourOfAll_19 : decode cX2_colourOfAll 19 = .ok (.iinc 3 1, 3) := by decide +kernel
theorem dX2_colourOfAll_22 : decode cX2_colourOfAll 22 = .ok (.goto (-18), 3) := by decide +kernel
theorem dX2_colourOfAll_25 : decode cX2_colourOfAll 25 = .ok (.iload_n 2, 1) := by decide +kernel
theorem dX2_colourOfAll_26 : decode cX2_colourOfAll 26 = .ok (.ireturn, 1) := by decide +kernel
theorem dX2_ink_0 : decode cX2_ink 0 = .ok (.iload_n 3, 1) := by decide +kernel
theorem dX2_ink_1 : decode cX2_ink 1 = .ok (.bipush 6, 2) := by decide +kernel
theorem dX2_ink_3 : decode cX2_ink 3 = .ok (.idiv, 1) := by decide +kernel
theorem dX2_ink_4 : decode cX2_ink 4 = .ok (.aload_n 0, 1) := by decide +kernel
theorem dX2_ink_5 : decode cX2_ink 5 = .ok (.getfield 9, 3) := by decide +kernel
theorem dX2_ink_8 : decode cX2_ink 8 = .ok (.iload_n 2, 1) := by decide +kernel
theorem dX2_ink_9 : decode cX2_ink 9 = .ok (.iaload, 1) := by decide +kernel
theorem dX2_ink_10 : decode cX2_ink 10 = .ok (.isub, 1) := by decide +kernel
theorem dX2_ink_11 : decode cX2_ink 11 = .ok (.istore 4, 2) := by decide +kernel
theorem dX2_ink_13 : decode cX2_ink 13 = .ok (.iconst 5, 1) := by decide +kernel
theorem dX2_ink_14 : decode cX2_ink 14 = .ok (.iload_n 3, 1) := by decide +kernel
theorem dX2_ink_15 : decode cX2_ink 15 = .ok (.bipush 6, 2) := by decide +kernel
theorem dX2_ink_17 : decode cX2_ink 17 = .ok (.irem, 1) := by decide +kernel
theorem dX2_ink_18 : decode cX2_ink 18 = .ok (.aload_n 0, 1) := by decide +kernel
theorem dX2_ink_19 : decode cX2_ink 19 = .ok (.getfield 15, 3) := by decide +kernel
theorem dX2_ink_22 : decode cX2_ink 22 = .ok (.iload_n 2, 1) := by decide +kernel
theorem dX2_ink_23 : decode cX2_ink 23 = .ok (.iaload, 1) := by decide +kernel
theorem dX2_ink_24 : decode cX2_ink 24 = .ok (.isub, 1) := by decide +kernel
theorem dX2_ink_25 : decode cX2_ink 25 = .ok (.isub, 1) := by decide +kernel
theorem dX2_ink_26 : decode cX2_ink 26 = .ok (.istore 5, 2) := by decide +kernel
theorem dX2_ink_28 : decode cX2_ink 28 = .ok (.iload 4, 2) := by decide +kernel
theorem dX2_ink_30 : decode cX2_ink 30 = .ok (.ifCond .lt 22, 3) := by decide +kernel
theorem dX2_ink_33 : decode cX2_ink 33 = .ok (.iload 4, 2) := by decide +kernel
theorem dX2_ink_35 : decode cX2_ink 35 = .ok (.bipush 6, 2) := by decide +kernel
theorem dX2_ink_37 : decode cX2_ink 37 = .ok (.if_icmp .ge 15, 3) := by decide +kernel
theorem dX2_ink_40 : decode cX2_ink 40 = .ok (.iload 5, 2) := by decide +kernel
theorem dX2_ink_42 : decode cX2_ink 42 = .ok (.ifCond .lt 10, 3) := by decide +kernel
theorem dX2_ink_45 : decode cX2_ink 45 = .ok (.iload 5, 2) := by decide +kernel
theorem dX2_ink_47 : decode cX2_ink 47 = .ok (.bipush 6, 2) := by decide +kernel
theorem dX2_ink_49 : decode cX2_ink 49 = .ok (.if_icmp .lt 5, 3) := by decide +kernel
theorem dX2_ink_52 : decode cX2_ink 52 = .ok (.iconst 0, 1) := by decide +kernel
theorem dX2_ink_53 : decode cX2_ink 53 = .ok (.ireturn, 1) := by decide +kernel
theorem dX2_ink_54 : decode cX2_ink 54 = .ok (.aload_n 1, 1) := by decide +kernel
theorem dX2_ink_55 : decode cX2_ink 55 = .ok (.iload_n 2, 1) := by decide +kernel
theorem dX2_ink_56 : decode cX2_ink 56 = .ok (.bipush 36, 2) := by decide +kernel
theorem dX2_ink_58 : decode cX2_ink 58 = .ok (.imul, 1) := by decide +kernel
theorem dX2_ink_59 : decode cX2_ink 59 = .ok (.iload 4, 2) := by decide +kernel
theorem dX2_ink_61 : decode cX2_ink 61 = .ok (.bipush 6, 2) := by decide +kernel
theorem dX2_ink_63 : decode cX2_ink 63 = .ok (.imul, 1) := by decide +kernel
theorem dX2_ink_64 : decode cX2_ink 64 = .ok (.iadd, 1) := by decide +kernel
theorem dX2_ink_65 : decode cX2_ink 65 = .ok (.iload 5, 2) := by decide +kernel
theorem dX2_ink_67 : decode cX2_ink 67 = .ok (.iadd, 1) := by decide +kernel
theorem dX2_ink_68 : decode cX2_ink 68 = .ok (.invokevirtual 33, 3) := by decide +kernel
theorem dX2_ink_71 : decode cX2_ink 71 = .ok (.ireturn, 1) := by decide +kernel
theorem dX2_pullAll_0 : decode cX2_pullAll 0 = .ok (.iconst 0, 1) := by decide +kernel
theorem dX2_pullAll_1 : decode cX2_pullAll 1 = .ok (.istore_n 3, 1) := by decide +kernel
theorem dX2_pullAll_2 : decode cX2_pullAll 2 = .ok (.iload_n 3, 1) := by decide +kernel
theorem dX2_pullAll_3 : decode cX2_pullAll 3 = .ok (.iconst 3, 1) := by decide +kernel
theorem dX2_pullAll_4 : decode cX2_pullAll 4 = .ok (.if_icmp .ge 41, 3) := by decide +kernel
theorem dX2_pullAll_7 : decode cX2_pullAll 7 = .ok (.iload_n 2, 1) := by decide +kernel
theorem dX2_pullAll_8 : decode cX2_pullAll 8 = .ok (.aload_n 0, 1) := by decide +kernel
theorem dX2_pullAll_9 : decode cX2_pullAll 9 = .ok (.getfield 18, 3) := by decide +kernel
theorem dX2_pullAll_12 : decode cX2_pullAll 12 = .ok (.iload_n 3, 1) := by decide +kernel
theorem dX2_pullAll_13 : decode cX2_pullAll 13 = .ok (.iaload, 1) := by decide +kernel
theorem dX2_pullAll_14 : decode cX2_pullAll 14 = .ok (.invokestatic 39, 3) := by decide +kernel
theorem dX2_pullAll_17 : decode cX2_pullAll 17 = .ok (.istore 4, 2) := by decide +kernel
theorem dX2_pullAll_19 : decode cX2_pullAll 19 = .ok (.aload_n 0, 1) := by decide +kernel
theorem dX2_pullAll_20 : decode cX2_pullAll 20 = .ok (.getfield 18, 3) := by decide +kernel
theorem dX2_pullAll_23 : decode cX2_pullAll 23 = .ok (.iload_n 3, 1) := by decide +kernel
theorem dX2_pullAll_24 : decode cX2_pullAll 24 = .ok (.dup2, 1) := by decide +kernel
theorem dX2_pullAll_25 : decode cX2_pullAll 25 = .ok (.iaload, 1) := by decide +kernel
theorem dX2_pullAll_26 : decode cX2_pullAll 26 = .ok (.iload 4, 2) := by decide +kernel
theorem dX2_pullAll_28 : decode cX2_pullAll 28 = .ok (.isub, 1) := by decide +kernel
theorem dX2_pullAll_29 : decode cX2_pullAll 29 = .ok (.iastore, 1) := by decide +kernel
theorem dX2_pullAll_30 : decode cX2_pullAll 30 = .ok (.aload_n 1, 1) := by decide +kernel
theorem dX2_pullAll_31 : decode cX2_pullAll 31 = .ok (.iload_n 3, 1) := by decide +kernel
theorem dX2_pullAll_32 : decode cX2_pullAll 32 = .ok (.iload_n 2, 1) := by decide +kernel
theorem dX2_pullAll_33 : decode cX2_pullAll 33 = .ok (.iload 4, 2) := by decide +kernel
theorem dX2_pullAll_35 : decode cX2_pullAll 35 = .ok (.isub, 1) := by decide +kernel
theorem dX2_pullAll_36 : decode cX2_pullAll 36 = .ok (.invokestatic 45, 3) := by decide +kernel
theorem dX2_pullAll_39 : decode cX2_pullAll 39 = .ok (.iinc 3 1, 3) := by decide +kernel
theorem dX2_pullAll_42 : decode cX2_pullAll 42 = .ok (.goto (-40), 3) := by decide +kernel
theorem dX2_pullAll_45 : decode cX2_pullAll 45 = .ok (.aload_n 0, 1) := by decide +kernel
theorem dX2_pullAll_46 : decode cX2_pullAll 46 = .ok (.dup, 1) := by decide +kernel
theorem dX2_pullAll_47 : decode cX2_pullAll 47 = .ok (.getfield 21, 3) := by decide +kernel
theorem dX2_pullAll_50 : decode cX2_pullAll 50 = .ok (.iload_n 2, 1) := by decide +kernel
theorem dX2_pullAll_51 : decode cX2_pullAll 51 = .ok (.iadd, 1) := by decide +kernel
theorem dX2_pullAll_52 : decode cX2_pullAll 52 = .ok (.putfield 21, 3) := by decide +kernel
theorem dX2_pullAll_55 : decode cX2_pullAll 55 = .ok (.return_, 1) := by decide +kernel
theorem dX2_wearPlate_0 : decode cX2_wearPlate 0 = .ok (.iload_n 1, 1) := by decide +kernel
theorem dX2_wearPlate_1 : decode cX2_wearPlate 1 = .ok (.bipush 36, 2) := by decide +kernel
theorem dX2_wearPlate_3 : decode cX2_wearPlate 3 = .ok (.imul, 1) := by decide +kernel
theorem dX2_wearPlate_4 : decode cX2_wearPlate 4 = .ok (.istore_n 3, 1) := by decide +kernel
theorem dX2_wearPlate_5 : decode cX2_wearPlate 5 = .ok (.iload_n 3, 1) := by decide +kernel
theorem dX2_wearPlate_6 : decode cX2_wearPlate 6 = .ok (.iload_n 1, 1) := by decide +kernel
theorem dX2_wearPlate_7 : decode cX2_wearPlate 7 = .ok (.iconst 1, 1) := by decide +kernel
theorem dX2_wearPlate_8 : decode cX2_wearPlate 8 = .ok (.iadd, 1) := by decide +kernel
theorem dX2_wearPlate_9 : decode cX2_wearPlate 9 = .ok (.bipush 36, 2) := by decide +kernel
theorem dX2_wearPlate_11 : decode cX2_wearPlate 11 = .ok (.imul, 1) := by decide +kernel
theorem dX2_wearPlate_12 : decode cX2_wearPlate 12 = .ok (.if_icmp .ge 57, 3) := by decide +kernel
theorem dX2_wearPlate_15 : decode cX2_wearPlate 15 = .ok (.aload_n 0, 1) := by decide +kernel
theorem dX2_wearPlate_16 : decode cX2_wearPlate 16 = .ok (.getfield 49, 3) := by decide +kernel
theorem dX2_wearPlate_19 : decode cX2_wearPlate 19 = .ok (.iload_n 3, 1) := by decide +kernel
theorem dX2_wearPlate_20 : decode cX2_wearPlate 20 = .ok (.iaload, 1) := by decide +kernel
theorem dX2_wearPlate_21 : decode cX2_wearPlate 21 = .ok (.istore 4, 2) := by decide +kernel
theorem dX2_wearPlate_23 : decode cX2_wearPlate 23 = .ok (.iconst 0, 1) := by decide +kernel
theorem dX2_wearPlate_24 : decode cX2_wearPlate 24 = .ok (.istore 5, 2) := by decide +kernel
theorem dX2_wearPlate_26 : decode cX2_wearPlate 26 = .ok (.iload 5, 2) := by decide +kernel
theorem dX2_wearPlate_28 : decode cX2_wearPlate 28 = .ok (.iload_n 2, 1) := by decide +kernel
theorem dX2_wearPlate_29 : decode cX2_wearPlate 29 = .ok (.if_icmp .ge 26, 3) := by decide +kernel
theorem dX2_wearPlate_32 : decode cX2_wearPlate 32 = .ok (.iload 4, 2) := by decide +kernel
theorem dX2_wearPlate_34 : decode cX2_wearPlate 34 = .ok (.invokestatic 52, 3) := by decide +kernel
theorem dX2_wearPlate_37 : decode cX2_wearPlate 37 = .ok (.iload 4, 2) := by decide +kernel
theorem dX2_wearPlate_39 : decode cX2_wearPlate 39 = .ok (.if_icmp .ge 16, 3) := by decide +kernel
theorem dX2_wearPlate_42 : decode cX2_wearPlate 42 = .ok (.iload 4, 2) := by decide +kernel
theorem dX2_wearPlate_44 : decode cX2_wearPlate 44 = .ok (.invokestatic 52, 3) := by decide +kernel
theorem dX2_wearPlate_47 : decode cX2_wearPlate 47 = .ok (.istore 4, 2) := by decide +kernel
theorem dX2_wearPlate_49 : decode cX2_wearPlate 49 = .ok (.iinc 5 1, 3) := by decide +kernel
theorem dX2_wearPlate_52 : decode cX2_wearPlate 52 = .ok (.goto (-26), 3) := by decide +kernel
theorem dX2_wearPlate_55 : decode cX2_wearPlate 55 = .ok (.aload_n 0, 1) := by decide +kernel
theorem dX2_wearPlate_56 : decode cX2_wearPlate 56 = .ok (.getfield 49, 3) := by decide +kernel
theorem dX2_wearPlate_59 : decode cX2_wearPlate 59 = .ok (.iload_n 3, 1) := by decide +kernel
theorem dX2_wearPlate_60 : decode cX2_wearPlate 60 = .ok (.iload 4, 2) := by decide +kernel
theorem dX2_wearPlate_62 : decode cX2_wearPlate 62 = .ok (.iastore, 1) := by decide +kernel
theorem dX2_wearPlate_63 : decode cX2_wearPlate 63 = .ok (.iinc 3 1, 3) := by decide +kernel
theorem dX2_wearPlate_66 : decode cX2_wearPlate 66 = .ok (.goto (-61), 3) := by decide +kernel
theorem dX2_wearPlate_69 : decode cX2_wearPlate 69 = .ok (.return_, 1) := by decide +kernel
theorem dX3_isOfSamePlate_0 : decode cX3_isOfSamePlate 0 = .ok (.aload_n 0, 1) := by decide +kernel
theorem dX3_isOfSamePlate_1 : decode cX3_isOfSamePlate 1 = .ok (.getfield 27, 3) := by decide +kernel
theorem dX3_isOfSamePlate_4 : decode cX3_isOfSamePlate 4 = .ok (.ifCond .eq 19, 3) := by decide +kernel
theorem dX3_isOfSamePlate_7 : decode cX3_isOfSamePlate 7 = .ok (.aload_n 0, 1) := by decide +kernel
theorem dX3_isOfSamePlate_8 : decode cX3_isOfSamePlate 8 = .ok (.getfield 9, 3) := by decide +kernel
theorem dX3_isOfSamePlate_11 : decode cX3_isOfSamePlate 11 = .ok (.iconst 0, 1) := by decide +kernel
theorem dX3_isOfSamePlate_12 : decode cX3_isOfSamePlate 12 = .ok (.iaload, 1) := by decide +kernel
theorem dX3_isOfSamePlate_13 : decode cX3_isOfSamePlate 13 = .ok (.bipush 36, 2) := by decide +kernel
theorem dX3_isOfSamePlate_15 : decode cX3_isOfSamePlate 15 = .ok (.idiv, 1) := by decide +kernel
theorem dX3_isOfSamePlate_16 : decode cX3_isOfSamePlate 16 = .ok (.iload_n 1, 1) := by decide +kernel
theorem dX3_isOfSamePlate_17 : decode cX3_isOfSamePlate 17 = .ok (.bipush 36, 2) := by decide +kernel
theorem dX3_isOfSamePlate_19 : decode cX3_isOfSamePlate 19 = .ok (.idiv, 1) := by decide +kernel
theorem dX3_isOfSamePlate_20 : decode cX3_isOfSamePlate 20 = .ok (.if_icmp .ne 7, 3) := by decide +kernel
theorem dX3_isOfSamePlate_23 : decode cX3_isOfSamePlate 23 = .ok (.iconst 1, 1) := by decide +kernel
theorem dX3_isOfSamePlate_24 : decode cX3_isOfSamePlate 24 = .ok (.goto 4, 3) := by decide +kernel
theorem dX3_isOfSamePlate_27 : decode cX3_isOfSamePlate 27 = .ok (.iconst 0, 1) := by decide +kernel
theorem dX3_isOfSamePlate_28 : decode cX3_isOfSamePlate 28 = .ok (.ireturn, 1) := by decide +kernel
theorem dX3_hasSpot_0 : decode cX3_hasSpot 0 = .ok (.iconst 0, 1) := by decide +kernel
theorem dX3_hasSpot_1 : decode cX3_hasSpot 1 = .ok (.istore_n 2, 1) := by decide +kernel
theorem dX3_hasSpot_2 : decode cX3_hasSpot 2 = .ok (.iload_n 2, 1) := by decide +kernel
theorem dX3_hasSpot_3 : decode cX3_hasSpot 3 = .ok (.aload_n 0, 1) := by decide +kernel
theorem dX3_hasSpot_4 : decode cX3_hasSpot 4 = .ok (.getfield 27, 3) := by decide +kernel
theorem dX3_hasSpot_7 : decode cX3_hasSpot 7 = .ok (.if_icmp .ge 21, 3) := by decide +kernel
theorem dX3_hasSpot_10 : decode cX3_hasSpot 10 = .ok (.aload_n 0, 1) := by decide +kernel
theorem dX3_hasSpot_11 : decode cX3_hasSpot 11 = .ok (.getfield 9, 3) := by decide +kernel
theorem dX3_hasSpot_14 : decode cX3_hasSpot 14 = .ok (.iload_n 2, 1) := by decide +kernel
theorem dX3_hasSpot_15 : decode cX3_hasSpot 15 = .ok (.iaload, 1) := by decide +kernel
theorem dX3_hasSpot_16 : decode cX3_hasSpot 16 = .ok (.iload_n 1, 1) := by decide +kernel
theorem dX3_hasSpot_17 : decode cX3_hasSpot 17 = .ok (.if_icmp .ne 5, 3) := by decide +kernel
theorem dX3_hasSpot_20 : decode cX3_hasSpot 20 = .ok (.iconst 1, 1) := by decide +kernel
theorem dX3_hasSpot_21 : decode cX3_hasSpot 21 = .ok (.ireturn, 1) := by decide +kernel
theorem dX3_hasSpot_22 : decode cX3_hasSpot 22 = .ok (.iinc 2 1, 3) := by decide +kernel
theorem dX3_hasSpot_25 : decode cX3_hasSpot 25 = .ok (.goto (-23), 3) := by decide +kernel
theorem dX3_hasSpot_28 : decode cX3_hasSpot 28 = .ok (.iconst 0, 1) := by decide +kernel
theorem dX3_hasSpot_29 : decode cX3_hasSpot 29 = .ok (.ireturn, 1) := by decide +kernel
theorem dX3_addWish_0 : decode cX3_addWish 0 = .ok (.aload_n 0, 1) := by decide +kernel
theorem dX3_addWish_1 : decode cX3_addWish 1 = .ok (.getfield 9, 3) := by decide +kernel
theorem dX3_addWish_4 : decode cX3_addWish 4 = .ok (.aload_n 0, 1) := by decide +kernel
theorem dX3_addWish_5 : decode cX3_addWish 5 = .ok (.getfield 27, 3) := by decide +kernel
theorem dX3_addWish_8 : decode cX3_addWish 8 = .ok (.iload_n 1, 1) := by decide +kernel
theorem dX3_addWish_9 : decode cX3_addWish 9 = .ok (.iastore, 1) := by decide +kernel
theorem dX3_addWish_10 : decode cX3_addWish 10 = .ok (.aload_n 0, 1) := by decide +kernel
theorem dX3_addWish_11 : decode cX3_addWish 11 = .ok (.getfield 15, 3) := by decide +kernel
theorem dX3_addWish_14 : decode cX3_addWish 14 = .ok (.aload_n 0, 1) := by decide +kernel
theorem dX3_addWish_15 : decode cX3_addWish 15 = .ok (.getfield 27, 3) := by decide +kernel
theorem dX3_addWish_18 : decode cX3_addWish 18 = .ok (.iload_n 2, 1) := by decide +kernel
theorem dX3_addWish_19 : decode cX3_addWish 19 = .ok (.iastore, 1) := by decide +kernel
theorem dX3_addWish_20 : decode cX3_addWish 20 = .ok (.aload_n 0, 1) := by decide +kernel
theorem dX3_addWish_21 : decode cX3_addWish 21 = .ok (.dup, 1) := by decide +kernel
theorem dX3_addWish_22 : decode cX3_addWish 22 = .ok (.getfield 27, 3) := by decide +kernel
theorem dX3_addWish_25 : decode cX3_addWish 25 = .ok (.iconst 1, 1) := by decide +kernel
theorem dX3_addWish_26 : decode cX3_addWish 26 = .ok (.iadd, 1) := by decide +kernel
theorem dX3_addWish_27 : decode cX3_addWish 27 = .ok (.putfield 27, 3) := by decide +kernel
theorem dX3_addWish_30 : decode cX3_addWish 30 = .ok (.return_, 1) := by decide +kernel
theorem dX3_plan_0 : decode cX3_plan 0 = .ok (.aload_n 0, 1) := by decide +kernel
theorem dX3_plan_1 : decode cX3_plan 1 = .ok (.iconst 0, 1) := by decide +kernel
theorem dX3_plan_2 : decode cX3_plan 2 = .ok (.putfield 31, 3) := by decide +kernel
theorem dX3_plan_5 : decode cX3_plan 5 = .ok (.aload_n 0, 1) := by decide +kernel
theorem dX3_plan_6 : decode cX3_plan 6 = .ok (.aload_n 1, 1) := by decide +kernel
theorem dX3_plan_7 : decode cX3_plan 7 = .ok (.iload_n 2, 1) := by decide +kernel
theorem dX3_plan_8 : decode cX3_plan 8 = .ok (.invokevirtual 34, 3) := by decide +kernel
theorem dX3_plan_11 : decode cX3_plan 11 = .ok (.ifCond .ne 5, 3) := by decide +kernel
theorem dX3_plan_14 : decode cX3_plan 14 = .ok (.iconst 0, 1) := by decide +kernel
theorem dX3_plan_15 : decode cX3_plan 15 = .ok (.ireturn, 1) := by decide +kernel
theorem dX3_plan_16 : decode cX3_plan 16 = .ok (.aload_n 0, 1) := by decide +kernel
theorem dX3_plan_17 : decode cX3_plan 17 = .ok (.iconst (-1), 1) := by decide +kernel
theorem dX3_plan_18 : decode cX3_plan 18 = .ok (.invokevirtual 38, 3) := by decide +kernel
theorem dX3_plan_21 : decode cX3_plan 21 = .ok (.istore_n 3, 1) := by decide +kernel
theorem dX3_plan_22 : decode cX3_plan 22 = .ok (.iconst (-1), 1) := by decide +kernel
theorem dX3_plan_23 : decode cX3_plan 23 = .ok (.istore 4, 2) := by decide +kernel
theorem dX3_plan_25 : decode cX3_plan 25 = .ok (.iload_n 3, 1) := by decide +kernel
theorem dX3_plan_26 : decode cX3_plan 26 = .ok (.istore 5, 2) := by decide +kernel
theorem dX3_plan_28 : decode cX3_plan 28 = .ok (.iload 5, 2) := by decide +kernel
theorem dX3_plan_30 : decode cX3_plan 30 = .ok (.ifCond .le 40, 3) := by decide +kernel
theorem dX3_plan_33 : decode cX3_plan 33 = .ok (.aload_n 0, 1) := by decide +kernel
theorem dX3_plan_34 : decode cX3_plan 34 = .ok (.iload 4, 2) := by decide +kernel
theorem dX3_plan_36 : decode cX3_plan 36 = .ok (.iload 5, 2) := by decide +kernel
theorem dX3_plan_38 : decode cX3_plan 38 = .ok (.invokevirtual 42, 3) := by decide +kernel
theorem dX3_plan_41 : decode cX3_plan 41 = .ok (.istore 4, 2) := by decide +kernel
theorem dX3_plan_43 : decode cX3_plan 43 = .ok (.aload_n 0, 1) := by decide +kernel
theorem dX3_plan_44 : decode cX3_plan 44 = .ok (.getfield 24, 3) := by decide +kernel
theorem dX3_plan_47 : decode cX3_plan 47 = .ok (.aload_n 0, 1) := by decide +kernel
theorem dX3_plan_48 : decode cX3_plan 48 = .ok (.getfield 31, 3) := by decide +kernel
theorem dX3_plan_51 : decode cX3_plan 51 = .ok (.iload 4, 2) := by decide +kernel
theorem dX3_plan_53 : decode cX3_plan 53 = .ok (.iastore, 1) := by decide +kernel
theorem dX3_plan_54 : decode cX3_plan 54 = .ok (.aload_n 0, 1) := by decide +kernel
theorem dX3_plan_55 : decode cX3_plan 55 = .ok (.dup, 1) := by decide +kernel
theorem dX3_plan_56 : decode cX3_plan 56 = .ok (.getfield 31, 3) := by decide +kernel
theorem dX3_plan_59 : decode cX3_plan 59 = .ok (.iconst 1, 1) := by decide +kernel
theorem dX3_plan_60 : decode cX3_plan 60 = .ok (.iadd, 1) := by decide +kernel
theorem dX3_plan_61 : decode cX3_plan 61 = .ok (.putfield 31, 3) := by decide +kernel
theorem dX3_plan_64 : decode cX3_plan 64 = .ok (.iinc 5 (-1), 3) := by decide +kernel
theorem dX3_plan_67 : decode cX3_plan 67 = .ok (.goto (-39), 3) := by decide +kernel
theorem dX3_plan_70 : decode cX3_plan 70 = .ok (.iconst 1, 1) := by decide +kernel
theorem dX3_plan_71 : decode cX3_plan 71 = .ok (.ireturn, 1) := by decide +kernel
theorem dX3_findSpans_0 : decode cX3_findSpans 0 = .ok (.iconst 0, 1) := by decide +kernel
theorem dX3_findSpans_1 : decode cX3_findSpans 1 = .ok (.istore_n 3, 1) := by decide +kernel
theorem dX3_findSpans_2 : decode cX3_findSpans 2 = .ok (.iload_n 3, 1) := by decide +kernel
theorem dX3_findSpans_3 : decode cX3_findSpans 3 = .ok (.aload_n 0, 1) := by decide +kernel
theorem dX3_findSpans_4 : decode cX3_findSpans 4 = .ok (.getfield 27, 3) := by decide +kernel
theorem dX3_findSpans_7 : decode cX3_findSpans 7 = .ok (.if_icmp .ge 86, 3) := by decide +kernel
theorem dX3_findSpans_10 : decode cX3_findSpans 10 = .ok (.aload_n 0, 1) := by decide +kernel
theorem dX3_findSpans_11 : decode cX3_findSpans 11 = .ok (.getfield 18, 3) := by decide +kernel
theorem dX3_findSpans_14 : decode cX3_findSpans 14 = .ok (.iload_n 3, 1) := by decide +kernel
theorem dX3_findSpans_15 : decode cX3_findSpans 15 = .ok (.aload_n 1, 1) := by decide +kernel
theorem dX3_findSpans_16 : decode cX3_findSpans 16 = .ok (.aload_n 0, 1) := by decide +kernel
theorem dX3_findSpans_17 : decode cX3_findSpans 17 = .ok (.getfield 9, 3) := by decide +kernel
theorem dX3_findSpans_20 : decode cX3_findSpans 20 = .ok (.iload_n 3, 1) := by decide +kernel
theorem dX3_findSpans_21 : decode cX3_findSpans 21 = .ok (.iaload, 1) := by decide +kernel
theorem dX3_findSpans_22 : decode cX3_findSpans 22 = .ok (.aload_n 0, 1) := by decide +kernel
theorem dX3_findSpans_23 : decode cX3_findSpans 23 = .ok (.getfield 15, 3) := by decide +kernel
theorem dX3_findSpans_26 : decode cX3_findSpans 26 = .ok (.iload_n 3, 1) := by decide +kernel
theorem dX3_findSpans_27 : decode cX3_findSpans 27 = .ok (.iaload, 1) := by decide +kernel
theorem dX3_findSpans_28 : decode cX3_findSpans 28 = .ok (.iload_n 2, 1) := by decide +kernel
theorem dX3_findSpans_29 : decode cX3_findSpans 29 = .ok (.invokevirtual 46, 3) := by decide +kernel
theorem dX3_findSpans_32 : decode cX3_findSpans 32 = .ok (.iastore, 1) := by decide +kernel
theorem dX3_findSpans_33 : decode cX3_findSpans 33 = .ok (.aload_n 0, 1) := by decide +kernel
theorem dX3_findSpans_34 : decode cX3_findSpans 34 = .ok (.getfield 21, 3) := by decide +kernel
theorem dX3_findSpans_37 : decode cX3_findSpans 37 = .ok (.iload_n 3, 1) := by decide +kernel
theorem dX3_findSpans_38 : decode cX3_findSpans 38 = .ok (.aload_n 1, 1) := by decide +kernel
theorem dX3_findSpans_39 : decode cX3_findSpans 39 = .ok (.aload_n 0, 1) := by decide +kernel
theorem dX3_findSpans_40 : decode cX3_findSpans 40 = .ok (.getfield 9, 3) := by decide +kernel
theorem dX3_findSpans_43 : decode cX3_findSpans 43 = .ok (.iload_n 3, 1) := by decide +kernel
theorem dX3_findSpans_44 : decode cX3_findSpans 44 = .ok (.iaload, 1) := by decide +kernel
theorem dX3_findSpans_45 : decode cX3_findSpans 45 = .ok (.aload_n 0, 1) := by decide +kernel
theorem dX3_findSpans_46 : decode cX3_findSpans 46 = .ok (.getfield 15, 3) := by decide +kernel
theorem dX3_findSpans_49 : decode cX3_findSpans 49 = .ok (.iload_n 3, 1) := by decide +kernel
theorem dX3_findSpans_50 : decode cX3_findSpans 50 = .ok (.iaload, 1) := by decide +kernel
theorem dX3_findSpans_51 : decode cX3_findSpans 51 = .ok (.iload_n 2, 1) := by decide +kernel
theorem dX3_findSpans_52 : decode cX3_findSpans 52 = .ok (.invokevirtual 52, 3) := by decide +kernel
theorem dX3_findSpans_55 : decode cX3_findSpans 55 = .ok (.iastore, 1) := by decide +kernel
theorem dX3_findSpans_56 : decode cX3_findSpans 56 = .ok (.aload_n 1, 1) := by decide +kernel
theorem dX3_findSpans_57 : decode cX3_findSpans 57 = .ok (.getfield 55, 3) := by decide +kernel
theorem dX3_findSpans_60 : decode cX3_findSpans 60 = .ok (.aload_n 0, 1) := by decide +kernel
theorem dX3_findSpans_61 : decode cX3_findSpans 61 = .ok (.getfield 9, 3) := by decide +kernel
theorem dX3_findSpans_64 : decode cX3_findSpans 64 = .ok (.iload_n 3, 1) := by decide +kernel
theorem dX3_findSpans_65 : decode cX3_findSpans 65 = .ok (.iaload, 1) := by decide +kernel
theorem dX3_findSpans_66 : decode cX3_findSpans 66 = .ok (.baload, 1) := by decide +kernel
theorem dX3_findSpans_67 : decode cX3_findSpans 67 = .ok (.ifCond .ne 18, 3) := by decide +kernel
theorem dX3_findSpans_70 : decode cX3_findSpans 70 = .ok (.aload_n 0, 1) := by decide +kernel
theorem dX3_findSpans_71 : decode cX3_findSpans 71 = .ok (.getfield 18, 3) := by decide +kernel
theorem dX3_findSpans_74 : decode cX3_findSpans 74 = .ok (.iload_n 3, 1) := by decide +kernel
theorem dX3_findSpans_75 : decode cX3_findSpans 75 = .ok (.iaload, 1) := by decide +kernel
theorem dX3_findSpans_76 : decode cX3_findSpans 76 = .ok (.aload_n 0, 1) := by decide +kernel
theorem dX3_findSpans_77 : decode cX3_findSpans 77 = .ok (.getfield 21, 3) := by decide +kernel
theorem dX3_findSpans_80 : decode cX3_findSpans 80 = .ok (.iload_n 3, 1) := by decide +kernel
theorem dX3_findSpans_81 : decode cX3_findSpans 81 = .ok (.iaload, 1) := by decide +kernel
theorem dX3_findSpans_82 : decode cX3_findSpans 82 = .ok (.if_icmp .le 5, 3) := by decide +kernel
theorem dX3_findSpans_85 : decode cX3_findSpans 85 = .ok (.iconst 0, 1) := by decide +kernel
theorem dX3_findSpans_86 : decode cX3_findSpans 86 = .ok (.ireturn, 1) := by decide +kernel
theorem dX3_findSpans_87 : decode cX3_findSpans 87 = .ok (.iinc 3 1, 3) := by decide +kernel
theorem dX3_findSpans_90 : decode cX3_findSpans 90 = .ok (.goto (-88), 3) := by decide +kernel
theorem dX3_findSpans_93 : decode cX3_findSpans 93 = .ok (.iconst 1, 1) := by decide +kernel
theorem dX3_findSpans_94 : decode cX3_findSpans 94 = .ok (.ireturn, 1) := by decide +kernel
theorem dX3_fewestBehind_0 : decode cX3_fewestBehind 0 = .ok (.iconst 0, 1) := by decide +kernel
theorem dX3_fewestBehind_1 : decode cX3_fewestBehind 1 = .ok (.istore_n 2, 1) := by decide +kernel
theorem dX3_fewestBehind_2 : decode cX3_fewestBehind 2 = .ok (.aload_n 0, 1) := by decide +kernel
theorem dX3_fewestBehind_3 : decode cX3_fewestBehind 3 = .ok (.iload_n 1, 1) := by decide +kernel
theorem dX3_fewestBehind_4 : decode cX3_fewestBehind 4 = .ok (.invokevirtual 59, 3) := by decide +kernel
theorem dX3_fewestBehind_7 : decode cX3_fewestBehind 7 = .ok (.istore_n 3, 1) := by decide +kernel
theorem dX3_fewestBehind_8 : decode cX3_fewestBehind 8 = .ok (.iconst 0, 1) := by decide +kernel
theorem dX3_fewestBehind_9 : decode cX3_fewestBehind 9 = .ok (.istore 4, 2) := by decide +kernel
theorem dX3_fewestBehind_11 : decode cX3_fewestBehind 11 = .ok (.iload 4, 2) := by decide +kernel
theorem dX3_fewestBehind_13 : decode cX3_fewestBehind 13 = .ok (.aload_n 0, 1) := by decide +kernel
theorem dX3_fewestBehind_14 : decode cX3_fewestBehind 14 = .ok (.getfield 27, 3) := by decide +kernel
theorem dX3_fewestBehind_17 : decode cX3_fewestBehind 17 = .ok (.if_icmp .ge 25, 3) := by decide +kernel
theorem dX3_fewestBehind_20 : decode cX3_fewestBehind 20 = .ok (.iload_n 3, 1) := by decide +kernel
theorem dX3_fewestBehind_21 : decode cX3_fewestBehind 21 = .ok (.sipush 201, 3) := by decide +kernel
theorem dX3_fewestBehind_24 : decode cX3_fewestBehind 24 = .ok (.if_icmp .ge 18, 3) := by decide +kernel
theorem dX3_fewestBehind_27 : decode cX3_fewestBehind 27 = .ok (.iinc 2 1, 3) := by decide +kernel
theorem dX3_fewestBehind_30 : decode cX3_fewestBehind 30 = .ok (.aload_n 0, 1) := by decide +kernel
theorem dX3_fewestBehind_31 : decode cX3_fewestBehind 31 = .ok (.iload_n 3, 1) := by decide +kernel
theorem dX3_fewestBehind_32 : decode cX3_fewestBehind 32 = .ok (.invokevirtual 59, 3) := by decide +kernel
theorem dX3_fewestBehind_35 : decode cX3_fewestBehind 35 = .ok (.istore_n 3, 1) := by decide +kernel
theorem dX3_fewestBehind_36 : decode cX3_fewestBehind 36 = .ok (.iinc 4 1, 3) := by decide +kernel
theorem dX3_fewestBehind_39 : decode cX3_fewestBehind 39 = .ok (.goto (-28), 3) := by decide +kernel
theorem dX3_fewestBehind_42 : decode cX3_fewestBehind 42 = .ok (.iload_n 2, 1) := by decide +kernel
theorem dX3_fewestBehind_43 : decode cX3_fewestBehind 43 = .ok (.ireturn, 1) := by decide +kernel
theorem dX3_earliestLastBehind_0 : decode cX3_earliestLastBehind 0 = .ok (.sipush 201, 3) := by decide +kernel
theorem dX3_earliestLastBehind_3 : decode cX3_earliestLastBehind 3 = .ok (.istore_n 2, 1) := by decide +kernel
theorem dX3_earliestLastBehind_4 : decode cX3_earliestLastBehind 4 = .ok (.iconst 0, 1) := by decide +kernel
theorem dX3_earliestLastBehind_5 : decode cX3_earliestLastBehind 5 = .ok (.istore_n 3, 1) := by decide +kernel
theorem dX3_earliestLastBehind_6 : decode cX3_earliestLastBehind 6 = .ok (.iload_n 3, 1) := by decide +kernel
theorem dX3_earliestLastBehind_7 : decode cX3_earliestLastBehind 7 = .ok (.aload_n 0, 1) := by decide +kernel
theorem dX3_earliestLastBehind_8 : decode cX3_earliestLastBehind 8 = .ok (.getfield 27, 3) := by decide +kernel
theorem dX3_earliestLastBehind_11 : decode cX3_earliestLastBehind 11 = .ok (.if_icmp .ge 36, 3) := by decide +kernel
theorem dX3_earliestLastBehind_14 : decode cX3_earliestLastBehind 14 = .ok (.aload_n 0, 1) := by decide +kernel
theorem dX3_earliestLastBehind_15 : decode cX3_earliestLastBehind 15 = .ok (.getfield 18, 3) := by decide +kernel
theorem dX3_earliestLastBehind_18 : decode cX3_earliestLastBehind 18 = .ok (.iload_n 3, 1) := by decide +kernel
theorem dX3_earliestLastBehind_19 : decode cX3_earliestLastBehind 19 = .ok (.iaload, 1) := by decide +kernel
theorem dX3_earliestLastBehind_20 : decode cX3_earliestLastBehind 20 = .ok (.iload_n 1, 1) := by decide +kernel
theorem dX3_earliestLastBehind_21 : decode cX3_earliestLastBehind 21 = .ok (.if_icmp .le 20, 3) := by decide +kernel
theorem dX3_earliestLastBehind_24 : decode cX3_earliestLastBehind 24 = .ok (.aload_n 0, 1) := by decide +kernel
theorem dX3_earliestLastBehind_25 : decode cX3_earliestLastBehind 25 = .ok (.getfield 21, 3) := by decide +kernel
theorem dX3_earliestLastBehind_28 : decode cX3_earliestLastBehind 28 = .ok (.iload_n 3, 1) := by decide +kernel
theorem dX3_earliestLastBehind_29 : decode cX3_earliestLastBehind 29 = .ok (.iaload, 1) := by decide +kernel
theorem dX3_earliestLastBehind_30 : decode cX3_earliestLastBehind 30 = .ok (.iload_n 2, 1) := by decide +kernel
theorem dX3_earliestLastBehind_31 : decode cX3_earliestLastBehind 31 = .ok (.if_icmp .ge 10, 3) := by decide +kernel
theorem dX3_earliestLastBehind_34 : decode cX3_earliestLastBehind 34 = .ok (.aload_n 0, 1) := by decide +kernel
theorem dX3_earliestLastBehind_35 : decode cX3_earliestLastBehind 35 = .ok (.getfield 21, 3) := by decide +kernel
theorem dX3_earliestLastBehind_38 : decode cX3_earliestLastBehind 38 = .ok (.iload_n 3, 1) := by decide +kernel
theorem dX3_earliestLastBehind_39 : decode cX3_earliestLastBehind 39 = .ok (.iaload, 1) := by decide +kernel
theorem dX3_earliestLastBehind_40 : decode cX3_earliestLastBehind 40 = .ok (.istore_n 2, 1) := by decide +kernel
theorem dX3_earliestLastBehind_41 : decode cX3_earliestLastBehind 41 = .ok (.iinc 3 1, 3) := by decide +kernel
theorem dX3_earliestLastBehind_44 : decode cX3_earliestLastBehind 44 = .ok (.goto (-38), 3) := by decide +kernel
theorem dX3_earliestLastBehind_47 : decode cX3_earliestLastBehind 47 = .ok (.iload_n 2, 1) := by decide +kernel
theorem dX3_earliestLastBehind_48 : decode cX3_earliestLastBehind 48 = .ok (.ireturn, 1) := by decide +kernel
theorem dX3_leastMinuteBehind_0 : decode cX3_leastMinuteBehind 0 = .ok (.aload_n 0, 1) := by decide +kernel
theorem dX3_leastMinuteBehind_1 : decode cX3_leastMinuteBehind 1 = .ok (.iload_n 1, 1) := by decide +kernel
theorem dX3_leastMinuteBehind_2 : decode cX3_leastMinuteBehind 2 = .ok (.invokevirtual 59, 3) := by decide +kernel
theorem dX3_leastMinuteBehind_5 : decode cX3_leastMinuteBehind 5 = .ok (.istore_n 3, 1) := by decide +kernel
theorem dX3_leastMinuteBehind_6 : decode cX3_leastMinuteBehind 6 = .ok (.iconst 0, 1) := by decide +kernel
theorem dX3_leastMinuteBehind_7 : decode cX3_leastMinuteBehind 7 = .ok (.istore 4, 2) := by decide +kernel
theorem dX3_leastMinuteBehind_9 : decode cX3_leastMinuteBehind 9 = .ok (.iload 4, 2) := by decide +kernel
theorem dX3_leastMinuteBehind_11 : decode cX3_leastMinuteBehind 11 = .ok (.aload_n 0, 1) := by decide +kernel
theorem dX3_leastMinuteBehind_12 : decode cX3_leastMinuteBehind 12 = .ok (.getfield 27, 3) := by decide +kernel
theorem dX3_leastMinuteBehind_15 : decode cX3_leastMinuteBehind 15 = .ok (.if_icmp .ge 43, 3) := by decide +kernel
theorem dX3_leastMinuteBehind_18 : decode cX3_leastMinuteBehind 18 = .ok (.aload_n 0, 1) := by decide +kernel
theorem dX3_leastMinuteBehind_19 : decode cX3_leastMinuteBehind 19 = .ok (.getfield 18, 3) := by decide +kernel
theorem dX3_leastMinuteBehind_22 : decode cX3_leastMinuteBehind 22 = .ok (.iload 4, 2) := by decide +kernel
theorem dX3_leastMinuteBehind_24 : decode cX3_leastMinuteBehind 24 = .ok (.iaload, 1) := by decide +kernel
theorem dX3_leastMinuteBehind_25 : decode cX3_leastMinuteBehind 25 = .ok (.istore 5, 2) := by decide +kernel
theorem dX3_leastMinuteBehind_27 : decode cX3_leastMinuteBehind 27 = .ok (.iload 5, 2) := by decide +kernel
theorem dX3_leastMinuteBehind_29 : decode cX3_leastMinuteBehind 29 = .ok (.iload_n 1, 1) := by decide +kernel
theorem dX3_leastMinuteBehind_30 : decode cX3_leastMinuteBehind 30 = .ok (.if_icmp .le 22, 3) := by decide +kernel
theorem dX3_leastMinuteBehind_33 : decode cX3_leastMinuteBehind 33 = .ok (.iload 5, 2) := by decide +kernel
theorem dX3_leastMinuteBehind_35 : decode cX3_leastMinuteBehind 35 = .ok (.iload_n 3, 1) := by decide +kernel
theorem dX3_leastMinuteBehind_36 : decode cX3_leastMinuteBehind 36 = .ok (.if_icmp .ge 16, 3) := by decide +kernel
theorem dX3_leastMinuteBehind_39 : decode cX3_leastMinuteBehind 39 = .ok (.aload_n 0, 1) := by decide +kernel
theorem dX3_leastMinuteBehind_40 : decode cX3_leastMinuteBehind 40 = .ok (.iload 5, 2) := by decide +kernel
theorem dX3_leastMinuteBehind_42 : decode cX3_leastMinuteBehind 42 = .ok (.invokevirtual 38, 3) := by decide +kernel
theorem dX3_leastMinuteBehind_45 : decode cX3_leastMinuteBehind 45 = .ok (.iload_n 2, 1) := by decide +kernel
theorem dX3_leastMinuteBehind_46 : decode cX3_leastMinuteBehind 46 = .ok (.if_icmp .ge 6, 3) := by decide +kernel
theorem dX3_leastMinuteBehind_49 : decode cX3_leastMinuteBehind 49 = .ok (.iload 5, 2) := by decide +kernel
theorem dX3_leastMinuteBehind_51 : decode cX3_leastMinuteBehind 51 = .ok (.istore_n 3, 1) := by decide +kernel
theorem dX3_leastMinuteBehind_52 : decode cX3_leastMinuteBehind 52 = .ok (.iinc 4 1, 3) := by decide +kernel
theorem dX3_leastMinuteBehind_55 : decode cX3_leastMinuteBehind 55 = .ok (.goto (-46), 3) := by decide +kernel
theorem dX3_leastMinuteBehind_58 : decode cX3_leastMinuteBehind 58 = .ok (.iload_n 3, 1) := by decide +kernel
theorem dX3_leastMinuteBehind_59 : decode cX3_leastMinuteBehind 59 = .ok (.ireturn, 1) := by decide +kernel
theorem dX3_fulfil_0 : decode cX3_fulfil 0 = .ok (.iconst 0, 1) := by decide +kernel
theorem dX3_fulfil_1 : decode cX3_fulfil 1 = .ok (.istore_n 3, 1) := by decide +kernel
theorem dX3_fulfil_2 : decode cX3_fulfil 2 = .ok (.iconst 0, 1) := by decide +kernel
theorem dX3_fulfil_3 : decode cX3_fulfil 3 = .ok (.istore 4, 2) := by decide +kernel
theorem dX3_fulfil_5 : decode cX3_fulfil 5 = .ok (.iload 4, 2) := by decide +kernel
theorem dX3_fulfil_7 : decode cX3_fulfil 7 = .ok (.aload_n 0, 1) := by decide +kernel
theorem dX3_fulfil_8 : decode cX3_fulfil 8 = .ok (.getfield 31, 3) := by decide +kernel
theorem dX3_fulfil_11 : decode cX3_fulfil 11 = .ok (.if_icmp .ge 46, 3) := by decide +kernel
theorem dX3_fulfil_14 : decode cX3_fulfil 14 = .ok (.aload_n 1, 1) := by decide +kernel
theorem dX3_fulfil_15 : decode cX3_fulfil 15 = .ok (.aload_n 0, 1) := by decide +kernel
theorem dX3_fulfil_16 : decode cX3_fulfil 16 = .ok (.getfield 9, 3) := by decide +kernel
theorem dX3_fulfil_19 : decode cX3_fulfil 19 = .ok (.iconst 0, 1) := by decide +kernel
theorem dX3_fulfil_20 : decode cX3_fulfil 20 = .ok (.iaload, 1) := by decide +kernel
theorem dX3_fulfil_21 : decode cX3_fulfil 21 = .ok (.bipush 36, 2) := by decide +kernel
theorem dX3_fulfil_23 : decode cX3_fulfil 23 = .ok (.idiv, 1) := by decide +kernel
theorem dX3_fulfil_24 : decode cX3_fulfil 24 = .ok (.iload_n 2, 1) := by decide +kernel
theorem dX3_fulfil_25 : decode cX3_fulfil 25 = .ok (.aload_n 0, 1) := by decide +kernel
theorem dX3_fulfil_26 : decode cX3_fulfil 26 = .ok (.getfield 24, 3) := by decide +kernel
theorem dX3_fulfil_29 : decode cX3_fulfil 29 = .ok (.iload 4, 2) := by decide +kernel
theorem dX3_fulfil_31 : decode cX3_fulfil 31 = .ok (.iaload, 1) := by decide +kernel
theorem dX3_fulfil_32 : decode cX3_fulfil 32 = .ok (.iload_n 3, 1) := by decide +kernel
theorem dX3_fulfil_33 : decode cX3_fulfil 33 = .ok (.isub, 1) := by decide +kernel
theorem dX3_fulfil_34 : decode cX3_fulfil 34 = .ok (.invokevirtual 62, 3) := by decide +kernel
theorem dX3_fulfil_37 : decode cX3_fulfil 37 = .ok (.aload_n 0, 1) := by decide +kernel
theorem dX3_fulfil_38 : decode cX3_fulfil 38 = .ok (.getfield 24, 3) := by decide +kernel
theorem dX3_fulfil_41 : decode cX3_fulfil 41 = .ok (.iload 4, 2) := by decide +kernel
theorem dX3_fulfil_43 : decode cX3_fulfil 43 = .ok (.iaload, 1) := by decide +kernel
theorem dX3_fulfil_44 : decode cX3_fulfil 44 = .ok (.istore_n 3, 1) := by decide +kernel
theorem dX3_fulfil_45 : decode cX3_fulfil 45 = .ok (.aload_n 0, 1) := by decide +kernel
theorem dX3_fulfil_46 : decode cX3_fulfil 46 = .ok (.aload_n 1, 1) := by decide +kernel
theorem dX3_fulfil_47 : decode cX3_fulfil 47 = .ok (.iload_n 3, 1) := by decide +kernel
theorem dX3_fulfil_48 : decode cX3_fulfil 48 = .ok (.invokevirtual 66, 3) := by decide +kernel
theorem dX3_fulfil_51 : decode cX3_fulfil 51 = .ok (.iinc 4 1, 3) := by decide +kernel
theorem dX3_fulfil_54 : decode cX3_fulfil 54 = .ok (.goto (-49), 3) := by decide +kernel
theorem dX3_fulfil_57 : decode cX3_fulfil 57 = .ok (.aload_n 0, 1) := by decide +kernel
theorem dX3_fulfil_58 : decode cX3_fulfil 58 = .ok (.iconst 0, 1) := by decide +kernel
theorem dX3_fulfil_59 : decode cX3_fulfil 59 = .ok (.putfield 27, 3) := by decide +kernel
theorem dX3_fulfil_62 : decode cX3_fulfil 62 = .ok (.return_, 1) := by decide +kernel
theorem dX3_stopDue_0 : decode cX3_stopDue 0 = .ok (.iconst 0, 1) := by decide +kernel
theorem dX3_stopDue_1 : decode cX3_stopDue 1 = .ok (.istore_n 3, 1) := by decide +kernel
theorem dX3_stopDue_2 : decode cX3_stopDue 2 = .ok (.iload_n 3, 1) := by decide +kernel
theorem dX3_stopDue_3 : decode cX3_stopDue 3 = .ok (.aload_n 0, 1) := by decide +kernel
theorem dX3_stopDue_4 : decode cX3_stopDue 4 = .ok (.getfield 27, 3) := by decide +kernel
theorem dX3_stopDue_7 : decode cX3_stopDue 7 = .ok (.if_icmp .ge 41, 3) := by decide +kernel
theorem dX3_stopDue_10 : decode cX3_stopDue 10 = .ok (.aload_n 0, 1) := by decide +kernel
theorem dX3_stopDue_11 : decode cX3_stopDue 11 = .ok (.getfield 18, 3) := by decide +kernel
theorem dX3_stopDue_14 : decode cX3_stopDue 14 = .ok (.iload_n 3, 1) := by decide +kernel
theorem dX3_stopDue_15 : decode cX3_stopDue 15 = .ok (.iaload, 1) := by decide +kernel
theorem dX3_stopDue_16 : decode cX3_stopDue 16 = .ok (.iload_n 2, 1) := by decide +kernel
theorem dX3_stopDue_17 : decode cX3_stopDue 17 = .ok (.if_icmp .gt 25, 3) := by decide +kernel
theorem dX3_stopDue_20 : decode cX3_stopDue 20 = .ok (.iload_n 2, 1) := by decide +kernel
theorem dX3_stopDue_21 : decode cX3_stopDue 21 = .ok (.aload_n 0, 1) := by decide +kernel
theorem dX3_stopDue_22 : decode cX3_stopDue 22 = .ok (.getfield 21, 3) := by decide +kernel
theorem dX3_stopDue_25 : decode cX3_stopDue 25 = .ok (.iload_n 3, 1) := by decide +kernel
theorem dX3_stopDue_26 : decode cX3_stopDue 26 = .ok (.iaload, 1) := by decide +kernel
theorem dX3_stopDue_27 : decode cX3_stopDue 27 = .ok (.if_icmp .gt 15, 3) := by decide +kernel
theorem dX3_stopDue_30 : decode cX3_stopDue 30 = .ok (.aload_n 1, 1) := by decide +kernel
theorem dX3_stopDue_31 : decode cX3_stopDue 31 = .ok (.getfield 55, 3) := by decide +kernel
theorem dX3_stopDue_34 : decode cX3_stopDue 34 = .ok (.aload_n 0, 1) := by decide +kernel
theorem dX3_stopDue_35 : decode cX3_stopDue 35 = .ok (.getfield 9, 3) := by decide +kernel
theorem dX3_stopDue_38 : decode cX3_stopDue 38 = .ok (.iload_n 3, 1) := by decide +kernel
theorem dX3_stopDue_39 : decode cX3_stopDue 39 = .ok (.iaload, 1) := by decide +kernel
theorem dX3_stopDue_40 : decode cX3_stopDue 40 = .ok (.iconst 1, 1) := by decide +kernel
theorem dX3_stopDue_41 : decode cX3_stopDue 41 = .ok (.bastore, 1) := by decide +kernel
theorem dX3_stopDue_42 : decode cX3_stopDue 42 = .ok (.iinc 3 1, 3) := by decide +kernel
theorem dX3_stopDue_45 : decode cX3_stopDue 45 = .ok (.goto (-43), 3) := by decide +kernel
theorem dX3_stopDue_48 : decode cX3_stopDue 48 = .ok (.return_, 1) := by decide +kernel
theorem dX4_toneOf_0 : decode cX4_toneOf 0 = .ok (.bipush 15, 2) := by decide +kernel
theorem dX4_toneOf_2 : decode cX4_toneOf 2 = .ok (.iload_n 0, 1) := by decide +kernel
theorem dX4_toneOf_3 : decode cX4_toneOf 3 = .ok (.bipush 40, 2) := by decide +kernel
theorem dX4_toneOf_5 : decode cX4_toneOf 5 = .ok (.idiv, 1) := by decide +kernel
theorem dX4_toneOf_6 : decode cX4_toneOf 6 = .ok (.invokestatic 215, 3) := by decide +kernel
theorem dX4_toneOf_9 : decode cX4_toneOf 9 = .ok (.ireturn, 1) := by decide +kernel
theorem dX4_worn_0 : decode cX4_worn 0 = .ok (.iload_n 0, 1) := by decide +kernel
theorem dX4_worn_1 : decode cX4_worn 1 = .ok (.iload_n 0, 1) := by decide +kernel
theorem dX4_worn_2 : decode cX4_worn 2 = .ok (.bipush 50, 2) := by decide +kernel
theorem dX4_worn_4 : decode cX4_worn 4 = .ok (.idiv, 1) := by decide +kernel
theorem dX4_worn_5 : decode cX4_worn 5 = .ok (.isub, 1) := by decide +kernel
theorem dX4_worn_6 : decode cX4_worn 6 = .ok (.ireturn, 1) := by decide +kernel
