theorem dX5_init_0 : decode cX5_init 0 = .ok (.aload_n 0, 1) := by decide +kernel
theorem dX5_init_1 : decode cX5_init 1 = .ok (.invokespecial 1, 3) := by decide +kernel
theorem dX5_init_4 : decode cX5_init 4 = .ok (.aload_n 0, 1) := by decide +kernel
theorem dX5_init_5 : decode cX5_init 5 = .ok (.sipush 648, 3) := by decide +kernel
theorem dX5_init_8 : decode cX5_init 8 = .ok (.newarray .int, 2) := by decide +kernel
theorem dX5_init_10 : decode cX5_init 10 = .ok (.putfield 7, 3) := by decide +kernel
theorem dX5_init_13 : decode cX5_init 13 = .ok (.aload_n 0, 1) := by decide +kernel
theorem dX5_init_14 : decode cX5_init 14 = .ok (.sipush 648, 3) := by decide +kernel
theorem dX5_init_17 : decode cX5_init 17 = .ok (.newarray .int, 2) := by decide +kernel
theorem dX5_init_19 : decode cX5_init 19 = .ok (.putfield 13, 3) := by decide +kernel
theorem dX5_init_22 : decode cX5_init 22 = .ok (.aload_n 0, 1) := by decide +kernel
theorem dX5_init_23 : decode cX5_init 23 = .ok (.sipush 648, 3) := by decide +kernel
theorem dX5_init_26 : decode cX5_init 26 = .ok (.newarray .int, 2) := by decide +kernel
theorem dX5_init_28 : decode cX5_init 28 = .ok (.putfield 16, 3) := by decide +kernel
theorem dX5_init_31 : decode cX5_init 31 = .ok (.aload_n 0, 1) := by decide +kernel
theorem dX5_init_32 : decode cX5_init 32 = .ok (.sipush 648, 3) := by decide +kernel
theorem dX5_init_35 : decode cX5_init 35 = .ok (.newarray .boolean, 2) := by decide +kernel
theorem dX5_init_37 : decode cX5_init 37 = .ok (.putfield 19, 3) := by decide +kernel
theorem dX5_init_40 : decode cX5_init 40 = .ok (.aload_n 0, 1) := by decide +kernel
theorem dX5_init_41 : decode cX5_init 41 = .ok (.iconst 4, 1) := by decide +kernel
theorem dX5_init_42 : decode cX5_init 42 = .ok (.newarray .boolean, 2) := by decide +kernel
theorem dX5_init_44 : decode cX5_init 44 = .ok (.putfield 23, 3) := by decide +kernel
theorem dX5_init_47 : decode cX5_init 47 = .ok (.aload_n 0, 1) := by decide +kernel
theorem dX5_init_48 : decode cX5_init 48 = .ok (.iconst 4, 1) := by decide +kernel
theorem dX5_init_49 : decode cX5_init 49 = .ok (.putfield 26, 3) := by decide +kernel
theorem dX5_init_52 : decode cX5_init 52 = .ok (.aload_n 0, 1) := by decide +kernel
theorem dX5_init_53 : decode cX5_init 53 = .ok (.iconst 2, 1) := by decide +kernel
theorem dX5_init_54 : decode cX5_init 54 = .ok (.putfield 30, 3) := by decide +kernel
theorem dX5_init_57 : decode cX5_init 57 = .ok (.aload_n 0, 1) := by decide +kernel
theorem dX5_init_58 : decode cX5_init 58 = .ok (.bipush 8, 2) := by decide +kernel
theorem dX5_init_60 : decode cX5_init 60 = .ok (.newarray .int, 2) := by decide +kernel
theorem dX5_init_62 : decode cX5_init 62 = .ok (.putfield 33, 3) := by decide +kernel
theorem dX5_init_65 : decode cX5_init 65 = .ok (.aload_n 0, 1) := by decide +kernel
theorem dX5_init_66 : decode cX5_init 66 = .ok (.bipush 8, 2) := by decide +kernel
theorem dX5_init_68 : decode cX5_init 68 = .ok (.newarray .int, 2) := by decide +kernel
theorem dX5_init_70 : decode cX5_init 70 = .ok (.putfield 36, 3) := by decide +kernel
theorem dX5_init_73 : decode cX5_init 73 = .ok (.aload_n 0, 1) := by decide +kernel
theorem dX5_init_74 : decode cX5_init 74 = .ok (.bipush 8, 2) := by decide +kernel
theorem dX5_init_76 : decode cX5_init 76 = .ok (.newarray .int, 2) := by decide +kernel
theorem dX5_init_78 : decode cX5_init 78 = .ok (.putfield 39, 3) := by decide +kernel
theorem dX5_init_81 : decode cX5_init 81 = .ok (.aload_n 0, 1) := by decide +kernel
theorem dX5_init_82 : decode cX5_init 82 = .ok (.bipush 8, 2) := by decide +kernel
theorem dX5_init_84 : decode cX5_init 84 = .ok (.newarray .int, 2) := by decide +kernel
theorem dX5_init_86 : decode cX5_init 86 = .ok (.putfield 42, 3) := by decide +kernel
theorem dX5_init_89 : decode cX5_init 89 = .ok (.aload_n 0, 1) := by decide +kernel
theorem dX5_init_90 : decode cX5_init 90 = .ok (.bipush 8, 2) := by decide +kernel
theorem dX5_init_92 : decode cX5_init 92 = .ok (.newarray .int, 2) := by decide +kernel
theorem dX5_init_94 : decode cX5_init 94 = .ok (.putfield 45, 3) := by decide +kernel
theorem dX5_init_97 : decode cX5_init 97 = .ok (.aload_n 0, 1) := by decide +kernel
theorem dX5_init_98 : decode cX5_init 98 = .ok (.iconst 3, 1) := by decide +kernel
theorem dX5_init_99 : decode cX5_init 99 = .ok (.newarray .int, 2) := by decide +kernel
theorem dX5_init_101 : decode cX5_init 101 = .ok (.putfield 48, 3) := by decide +kernel
theorem dX5_init_104 : decode cX5_init 104 = .ok (.aload_n 0, 1) := by decide +kernel
theorem dX5_init_105 : decode cX5_init 105 = .ok (.iconst 3, 1) := by decide +kernel
theorem dX5_init_106 : decode cX5_init 106 = .ok (.newarray .int, 2) := by decide +kernel
theorem dX5_init_108 : decode cX5_init 108 = .ok (.putfield 51, 3) := by decide +kernel
theorem dX5_init_111 : decode cX5_init 111 = .ok (.aload_n 0, 1) := by decide +kernel
theorem dX5_init_112 : decode cX5_init 112 = .ok (.iconst 3, 1) := by decide +kernel
theorem dX5_init_113 : decode cX5_init 113 = .ok (.newarray .int, 2) := by decide +kernel
theorem dX5_init_115 : decode cX5_init 115 = .ok (.putfield 54, 3) := by decide +kernel
theorem dX5_init_118 : decode cX5_init 118 = .ok (.aload_n 0, 1) := by decide +kernel
theorem dX5_init_119 : decode cX5_init 119 = .ok (.bipush 8, 2) := by decide +kernel
theorem dX5_init_121 : decode cX5_init 121 = .ok (.newarray .int, 2) := by decide +kernel
theorem dX5_init_123 : decode cX5_init 123 = .ok (.putfield 57, 3) := by decide +kernel
theorem dX5_init_126 : decode cX5_init 126 = .ok (.aload_n 0, 1) := by decide +kernel
theorem dX5_init_127 : decode cX5_init 127 = .ok (.bipush 8, 2) := by decide +kernel
theorem dX5_init_129 : decode cX5_init 129 = .ok (.newarray .int, 2) := by decide +kernel
theorem dX5_init_131 : decode cX5_init 131 = .ok (.putfield 60, 3) := by decide +kernel
theorem dX5_init_134 : decode cX5_init 134 = .ok (.aload_n 0, 1) := by decide +kernel
theorem dX5_init_135 : decode cX5_init 135 = .ok (.bipush 8, 2) := by decide +kernel
theorem dX5_init_137 : decode cX5_init 137 = .ok (.newarray .int, 2) := by decide +kernel
theorem dX5_init_139 : decode cX5_init 139 = .ok (.putfield 63, 3) := by decide +kernel
theorem dX5_init_142 : decode cX5_init 142 = .ok (.aload_n 0, 1) := by decide +kernel
theorem dX5_init_143 : decode cX5_init 143 = .ok (.bipush 36, 2) := by decide +kernel
theorem dX5_init_145 : decode cX5_init 145 = .ok (.newarray .int, 2) := by decide +kernel
theorem dX5_init_147 : decode cX5_init 147 = .ok (.putfield 66, 3) := by decide +kernel
theorem dX5_init_150 : decode cX5_init 150 = .ok (.aload_n 0, 1) := by decide +kernel
theorem dX5_init_151 : decode cX5_init 151 = .ok (.bipush 6, 2) := by decide +kernel
theorem dX5_init_153 : decode cX5_init 153 = .ok (.newarray .int, 2) := by decide +kernel
theorem dX5_init_155 : decode cX5_init 155 = .ok (.putfield 69, 3) := by decide +kernel
theorem dX5_init_158 : decode cX5_init 158 = .ok (.aload_n 0, 1) := by decide +kernel
theorem dX5_init_159 : decode cX5_init 159 = .ok (.bipush 8, 2) := by decide +kernel
theorem dX5_init_161 : decode cX5_init 161 = .ok (.newarray .boolean, 2) := by decide +kernel
theorem dX5_init_163 : decode cX5_init 163 = .ok (.putfield 72, 3) := by decide +kernel
theorem dX5_init_166 : decode cX5_init 166 = .ok (.aload_n 0, 1) := by decide +kernel
theorem dX5_init_167 : decode cX5_init 167 = .ok (.bipush 8, 2) := by decide +kernel
theorem dX5_init_169 : decode cX5_init 169 = .ok (.newarray .boolean, 2) := by decide +kernel
theorem dX5_init_171 : decode cX5_init 171 = .ok (.putfield 75, 3) := by decide +kernel
theorem dX5_init_174 : decode cX5_init 174 = .ok (.return_, 1) := by decide +kernel
theorem dX5_in_0 : decode cX5_in 0 = .ok (.iload_n 0, 1) := by decide +kernel
theorem dX5_in_1 : decode cX5_in 1 = .ok (.iload_n 1, 1) := by decide +kernel
theorem dX5_in_2 : decode cX5_in 2 = .ok (.if_icmp .lt 12, 3) := by decide +kernel
theorem dX5_in_5 : decode cX5_in 5 = .ok (.iload_n 0, 1) := by decide +kernel
theorem dX5_in_6 : decode cX5_in 6 = .ok (.iload_n 2, 1) := by decide +kernel
theorem dX5_in_7 : decode cX5_in 7 = .ok (.if_icmp .gt 7, 3) := by decide +kernel
theorem dX5_in_10 : decode cX5_in 10 = .ok (.iconst 1, 1) := by decide +kernel
theorem dX5_in_11 : decode cX5_in 11 = .ok (.goto 4, 3) := by decide +kernel
theorem dX5_in_14 : decode cX5_in 14 = .ok (.iconst 0, 1) := by decide +kernel
theorem dX5_in_15 : decode cX5_in 15 = .ok (.ireturn, 1) := by decide +kernel
theorem dX5_finds_0 : decode cX5_finds 0 = .ok (.aload_n 0, 1) := by decide +kernel
theorem dX5_finds_1 : decode cX5_finds 1 = .ok (.getfield 69, 3) := by decide +kernel
theorem dX5_finds_4 : decode cX5_finds 4 = .ok (.iload_n 1, 1) := by decide +kernel
theorem dX5_finds_5 : decode cX5_finds 5 = .ok (.dup2, 1) := by decide +kernel
theorem dX5_finds_6 : decode cX5_finds 6 = .ok (.iaload, 1) := by decide +kernel
theorem dX5_finds_7 : decode cX5_finds 7 = .ok (.iconst 1, 1) := by decide +kernel
theorem dX5_finds_8 : decode cX5_finds 8 = .ok (.iadd, 1) := by decide +kernel
theorem dX5_finds_9 : decode cX5_finds 9 = .ok (.iastore, 1) := by decide +kernel
theorem dX5_finds_10 : decode cX5_finds 10 = .ok (.ldc 78, 2) := by decide +kernel
theorem dX5_finds_12 : decode cX5_finds 12 = .ok (.iload_n 1, 1) := by decide +kernel
theorem dX5_finds_13 : decode cX5_finds 13 = .ok (.isub, 1) := by decide +kernel
theorem dX5_finds_14 : decode cX5_finds 14 = .ok (.ireturn, 1) := by decide +kernel
theorem dX5_isPlate_0 : decode cX5_isPlate 0 = .ok (.iload_n 0, 1) := by decide +kernel
theorem dX5_isPlate_1 : decode cX5_isPlate 1 = .ok (.iconst 0, 1) := by decide +kernel
theorem dX5_isPlate_2 : decode cX5_isPlate 2 = .ok (.iconst 2, 1) := by decide +kernel
theorem dX5_isPlate_3 : decode cX5_isPlate 3 = .ok (.invokestatic 79, 3) := by decide +kernel
theorem dX5_isPlate_6 : decode cX5_isPlate 6 = .ok (.ireturn, 1) := by decide +kernel
theorem dX5_isCell_0 : decode cX5_isCell 0 = .ok (.iload_n 0, 1) := by decide +kernel
theorem dX5_isCell_1 : decode cX5_isCell 1 = .ok (.ifCond .lt 24, 3) := by decide +kernel
theorem dX5_isCell_4 : decode cX5_isCell 4 = .ok (.iload_n 0, 1) := by decide +kernel
theorem dX5_isCell_5 : decode cX5_isCell 5 = .ok (.bipush 100, 2) := by decide +kernel
theorem dX5_isCell_7 : decode cX5_isCell 7 = .ok (.idiv, 1) := by decide +kernel
theorem dX5_isCell_8 : decode cX5_isCell 8 = .ok (.iconst 3, 1) := by decide +kernel
theorem dX5_isCell_9 : decode cX5_isCell 9 = .ok (.if_icmp .ge 16, 3) := by decide +kernel
theorem dX5_isCell_12 : decode cX5_isCell 12 = .ok (.iload_n 0, 1) := by decide +kernel
theorem dX5_isCell_13 : decode cX5_isCell 13 = .ok (.bipush 100, 2) := by decide +kernel
theorem dX5_isCell_15 : decode cX5_isCell 15 = .ok (.irem, 1) := by decide +kernel
theorem dX5_isCell_16 : decode cX5_isCell 16 = .ok (.bipush 36, 2) := by decide +kernel
theorem dX5_isCell_18 : decode cX5_isCell 18 = .ok (.if_icmp .ge 7, 3) := by decide +kernel
theorem dX5_isCell_21 : decode cX5_isCell 21 = .ok (.iconst 1, 1) := by decide +kernel
theorem dX5_isCell_22 : decode cX5_isCell 22 = .ok (.goto 4, 3) := by decide +kernel
theorem dX5_isCell_25 : decode cX5_isCell 25 = .ok (.iconst 0, 1) := by decide +kernel
theorem dX5_isCell_26 : decode cX5_isCell 26 = .ok (.ireturn, 1) := by decide +kernel
theorem dX5_spot_0 : decode cX5_spot 0 = .ok (.bipush 36, 2) := by decide +kernel
theorem dX5_spot_2 : decode cX5_spot 2 = .ok (.iload_n 0, 1) := by decide +kernel
theorem dX5_spot_3 : decode cX5_spot 3 = .ok (.bipush 100, 2) := by decide +kernel
theorem dX5_spot_5 : decode cX5_spot 5 = .ok (.idiv, 1) := by decide +kernel
theorem dX5_spot_6 : decode cX5_spot 6 = .ok (.imul, 1) := by decide +kernel
theorem dX5_spot_7 : decode cX5_spot 7 = .ok (.iload_n 0, 1) := by decide +kernel
theorem dX5_spot_8 : decode cX5_spot 8 = .ok (.bipush 100, 2) := by decide +kernel
theorem dX5_spot_10 : decode cX5_spot 10 = .ok (.irem, 1) := by decide +kernel
theorem dX5_spot_11 : decode cX5_spot 11 = .ok (.iadd, 1) := by decide +kernel
theorem dX5_spot_12 : decode cX5_spot 12 = .ok (.ireturn, 1) := by decide +kernel
theorem dX5_bite_0 : decode cX5_bite 0 = .ok (.aload_n 0, 1) := by decide +kernel
theorem dX5_bite_1 : decode cX5_bite 1 = .ok (.getfield 26, 3) := by decide +kernel
theorem dX5_bite_4 : decode cX5_bite 4 = .ok (.aload_n 0, 1) := by decide +kernel
theorem dX5_bite_5 : decode cX5_bite 5 = .ok (.getfield 30, 3) := by decide +kernel
theorem dX5_bite_8 : decode cX5_bite 8 = .ok (.iconst 2, 1) := by decide +kernel
theorem dX5_bite_9 : decode cX5_bite 9 = .ok (.iadd, 1) := by decide +kernel
theorem dX5_bite_10 : decode cX5_bite 10 = .ok (.imul, 1) := by decide +kernel
theorem dX5_bite_11 : decode cX5_bite 11 = .ok (.iconst 4, 1) := by decide +kernel
theorem dX5_bite_12 : decode cX5_bite 12 = .ok (.idiv, 1) := by decide +kernel
theorem dX5_bite_13 : decode cX5_bite 13 = .ok (.istore_n 1, 1) := by decide +kernel
theorem dX5_bite_14 : decode cX5_bite 14 = .ok (.iload_n 1, 1) := by decide +kernel
theorem dX5_bite_15 : decode cX5_bite 15 = .ok (.iconst 1, 1) := by decide +kernel
theorem dX5_bite_16 : decode cX5_bite 16 = .ok (.if_icmp .ge 7, 3) := by decide +kernel
theorem dX5_bite_19 : decode cX5_bite 19 = .ok (.iconst 1, 1) := by decide +kernel
theorem dX5_bite_20 : decode cX5_bite 20 = .ok (.goto 4, 3) := by decide +kernel
theorem dX5_bite_23 : decode cX5_bite 23 = .ok (.iload_n 1, 1) := by decide +kernel
theorem dX5_bite_24 : decode cX5_bite 24 = .ok (.ireturn, 1) := by decide +kernel
theorem dX5_times_0 : decode cX5_times 0 = .ok (.aload_n 0, 1) := by decide +kernel
theorem dX5_times_1 : decode cX5_times 1 = .ok (.getfield 7, 3) := by decide +kernel
theorem dX5_times_4 : decode cX5_times 4 = .ok (.iload_n 1, 1) := by decide +kernel
theorem dX5_times_5 : decode cX5_times 5 = .ok (.iaload, 1) := by decide +kernel
theorem dX5_times_6 : decode cX5_times 6 = .ok (.iconst 1, 1) := by decide +kernel
theorem dX5_times_7 : decode cX5_times 7 = .ok (.if_icmp .ne 7, 3) := by decide +kernel
theorem dX5_times_10 : decode cX5_times 10 = .ok (.iconst 2, 1) := by decide +kernel
theorem dX5_times_11 : decode cX5_times 11 = .ok (.goto 31, 3) := by decide +kernel
theorem dX5_times_14 : decode cX5_times 14 = .ok (.aload_n 0, 1) := by decide +kernel
theorem dX5_times_15 : decode cX5_times 15 = .ok (.getfield 7, 3) := by decide +kernel
theorem dX5_times_18 : decode cX5_times 18 = .ok (.iload_n 1, 1) := by decide +kernel
theorem dX5_times_19 : decode cX5_times 19 = .ok (.iaload, 1) := by decide +kernel
theorem dX5_times_20 : decode cX5_times 20 = .ok (.iconst 2, 1) := by decide +kernel
theorem dX5_times_21 : decode cX5_times 21 = .ok (.if_icmp .ne 20, 3) := by decide +kernel
theorem dX5_times_24 : decode cX5_times 24 = .ok (.aload_n 0, 1) := by decide +kernel
theorem dX5_times_25 : decode cX5_times 25 = .ok (.getfield 16, 3) := by decide +kernel
theorem dX5_times_28 : decode cX5_times 28 = .ok (.iload_n 1, 1) := by decide +kernel
theorem dX5_times_29 : decode cX5_times 29 = .ok (.iaload, 1) := by decide +kernel
theorem dX5_times_30 : decode cX5_times 30 = .ok (.ifCond .le 7, 3) := by decide +kernel
theorem dX5_times_33 : decode cX5_times 33 = .ok (.iconst 3, 1) := by decide +kernel
theorem dX5_times_34 : decode cX5_times 34 = .ok (.goto 8, 3) := by decide +kernel
theorem dX5_times_37 : decode cX5_times 37 = .ok (.iconst 0, 1) := by decide +kernel
theorem dX5_times_38 : decode cX5_times 38 = .ok (.goto 4, 3) := by decide +kernel
theorem dX5_times_41 : decode cX5_times 41 = .ok (.iconst 1, 1) := by decide +kernel
theorem dX5_times_42 : decode cX5_times 42 = .ok (.ireturn, 1) := by decide +kernel
theorem dX5_toneOf_0 : decode cX5_toneOf 0 = .ok (.iload_n 0, 1) := by decide +kernel
theorem dX5_toneOf_1 : decode cX5_toneOf 1 = .ok (.bipush 40, 2) := by decide +kernel
theorem dX5_toneOf_3 : decode cX5_toneOf 3 = .ok (.idiv, 1) := by decide +kernel
theorem dX5_toneOf_4 : decode cX5_toneOf 4 = .ok (.bipush 15, 2) := by decide +kernel
theorem dX5_toneOf_6 : decode cX5_toneOf 6 = .ok (.if_icmp .le 8, 3) := by decide +kernel
theorem dX5_toneOf_9 : decode cX5_toneOf 9 = .ok (.bipush 15, 2) := by decide +kernel
theorem dX5_toneOf_11 : decode cX5_toneOf 11 = .ok (.goto 7, 3) := by decide +kernel
theorem dX5_toneOf_14 : decode cX5_toneOf 14 = .ok (.iload_n 0, 1) := by decide +kernel
theorem dX5_toneOf_15 : decode cX5_toneOf 15 = .ok (.bipush 40, 2) := by decide +kernel
theorem dX5_toneOf_17 : decode cX5_toneOf 17 = .ok (.idiv, 1) := by decide +kernel
theorem dX5_toneOf_18 : decode cX5_toneOf 18 = .ok (.ireturn, 1) := by decide +kernel
theorem dX5_ground_0 : decode cX5_ground 0 = .ok (.iload_n 1, 1) := by decide +kernel
theorem dX5_ground_1 : decode cX5_ground 1 = .ok (.invokestatic 83, 3) := by decide +kernel
theorem dX5_ground_4 : decode cX5_ground 4 = .ok (.ifCond .eq 12, 3) := by decide +kernel
theorem dX5_ground_7 : decode cX5_ground 7 = .ok (.iload_n 2, 1) := by decide +kernel
theorem dX5_ground_8 : decode cX5_ground 8 = .ok (.iconst 0, 1) := by decide +kernel
theorem dX5_ground_9 : decode cX5_ground 9 = .ok (.iconst 2, 1) := by decide +kernel
theorem dX5_ground_10 : decode cX5_ground 10 = .ok (.invokestatic 79, 3) := by decide +kernel
theorem dX5_ground_13 : decode cX5_ground 13 = .ok (.ifCond .ne 9, 3) := by decide +kernel
theorem dX5_ground_16 : decode cX5_ground 16 = .ok (.aload_n 0, 1) := by decide +kernel
theorem dX5_ground_17 : decode cX5_ground 17 = .ok (.iconst 1, 1) := by decide +kernel
theorem dX5_ground_18 : decode cX5_ground 18 = .ok (.invokevirtual 87, 3) := by decide +kernel
theorem dX5_ground_21 : decode cX5_ground 21 = .ok (.ireturn, 1) := by decide +kernel
theorem dX5_ground_22 : decode cX5_ground 22 = .ok (.iload_n 1, 1) := by decide +kernel
theorem dX5_ground_23 : decode cX5_ground 23 = .ok (.invokestatic 91, 3) := by decide +kernel
theorem dX5_ground_26 : decode cX5_ground 26 = .ok (.istore_n 3, 1) := by decide +kernel
theorem dX5_ground_27 : decode cX5_ground 27 = .ok (.aload_n 0, 1) := by decide +kernel
theorem dX5_ground_28 : decode cX5_ground 28 = .ok (.getfield 7, 3) := by decide +kernel
theorem dX5_ground_31 : decode cX5_ground 31 = .ok (.iload_n 3, 1) := by decide +kernel
theorem dX5_ground_32 : decode cX5_ground 32 = .ok (.iaload, 1) := by decide +kernel
theorem dX5_ground_33 : decode cX5_ground 33 = .ok (.istore 4, 2) := by decide +kernel
theorem dX5_ground_35 : decode cX5_ground 35 = .ok (.aload_n 0, 1) := by decide +kernel
theorem dX5_ground_36 : decode cX5_ground 36 = .ok (.getfield 7, 3) := by decide +kernel
theorem dX5_ground_39 : decode cX5_ground 39 = .ok (.iload_n 3, 1) := by decide +kernel
theorem dX5_ground_40 : decode cX5_ground 40 = .ok (.iload_n 2, 1) := by decide +kernel
theorem dX5_ground_41 : decode cX5_ground 41 = .ok (.iastore, 1) := by decide +kernel
theorem dX5_ground_42 : decode cX5_ground 42 = .ok (.aload_n 0, 1) := by decide +kernel
theorem dX5_ground_43 : decode cX5_ground 43 = .ok (.getfield 16, 3) := by decide +kernel
theorem dX5_ground_46 : decode cX5_ground 46 = .ok (.iload_n 3, 1) := by decide +kernel
theorem dX5_ground_47 : decode cX5_ground 47 = .ok (.iload_n 2, 1) := by decide +kernel
theorem dX5_ground_48 : decode cX5_ground 48 = .ok (.iconst 2, 1) := by decide +kernel
theorem dX5_ground_49 : decode cX5_ground 49 = .ok (.if_icmp .ne 8, 3) := by decide +kernel
theorem dX5_ground_52 : decode cX5_ground 52 = .ok (.bipush 60, 2) := by decide +kernel
theorem dX5_ground_54 : decode cX5_ground 54 = .ok (.goto 4, 3) := by decide +kernel
theorem dX5_ground_57 : decode cX5_ground 57 = .ok (.iconst 0, 1) := by decide +kernel
theorem dX5_ground_58 : decode cX5_ground 58 = .ok (.iastore, 1) := by decide +kernel
theorem dX5_ground_59 : decode cX5_ground 59 = .ok (.iload 4, 2) := by decide +kernel
theorem dX5_ground_61 : decode cX5_ground 61 = .ok (.ireturn, 1) := by decide +kernel
theorem dX5_as_0 : decode cX5_as 0 = .ok (.iload_n 1, 1) := by decide +kernel
theorem dX5_as_1 : decode cX5_as 1 = .ok (.invokestatic 83, 3) := by decide +kernel
theorem dX5_as_4 : decode cX5_as 4 = .ok (.ifCond .eq 12, 3) := by decide +kernel
theorem dX5_as_7 : decode cX5_as 7 = .ok (.iload_n 2, 1) := by decide +kernel
theorem dX5_as_8 : decode cX5_as 8 = .ok (.iconst 0, 1) := by decide +kernel
theorem dX5_as_9 : decode cX5_as 9 = .ok (.iconst 2, 1) := by decide +kernel
theorem dX5_as_10 : decode cX5_as 10 = .ok (.invokestatic 79, 3) := by decide +kernel
theorem dX5_as_13 : decode cX5_as 13 = .ok (.ifCond .ne 9, 3) := by decide +kernel
theorem dX5_as_16 : decode cX5_as 16 = .ok (.aload_n 0, 1) := by decide +kernel
theorem dX5_as_17 : decode cX5_as 17 = .ok (.iconst 1, 1) := by decide +kernel
theorem dX5_as_18 : decode cX5_as 18 = .ok (.invokevirtual 87, 3) := by decide +kernel
theorem dX5_as_21 : decode cX5_as 21 = .ok (.ireturn, 1) := by decide +kernel
theorem dX5_as_22 : decode cX5_as 22 = .ok (.iload_n 1, 1) := by decide +kernel
theorem dX5_as_23 : decode cX5_as 23 = .ok (.invokestatic 91, 3) := by decide +kernel
theorem dX5_as_26 : decode cX5_as 26 = .ok (.istore_n 3, 1) := by decide +kernel
theorem dX5_as_27 : decode cX5_as 27 = .ok (.iload_n 2, 1) := by decide +kernel
theorem dX5_as_28 : decode cX5_as 28 = .ok (.ifCond .eq 13, 3) := by decide +kernel
theorem dX5_as_31 : decode cX5_as 31 = .ok (.aload_n 0, 1) := by decide +kernel
theorem dX5_as_32 : decode cX5_as 32 = .ok (.getfield 7, 3) := by decide +kernel
theorem dX5_as_35 : decode cX5_as 35 = .ok (.iload_n 3, 1) := by decide +kernel
theorem dX5_as_36 : decode cX5_as 36 = .ok (.iaload, 1) := by decide +kernel
theorem dX5_as_37 : decode cX5_as 37 = .ok (.iload_n 2, 1) := by decide +kernel
theorem dX5_as_38 : decode cX5_as 38 = .ok (.if_icmp .ne 11, 3) := by decide +kernel
theorem dX5_as_41 : decode cX5_as 41 = .ok (.aload_n 0, 1) := by decide +kernel
theorem dX5_as_42 : decode cX5_as 42 = .ok (.iload_n 3, 1) := by decide +kernel
theorem dX5_as_43 : decode cX5_as 43 = .ok (.invokevirtual 94, 3) := by decide +kernel
theorem dX5_as_46 : decode cX5_as 46 = .ok (.goto 8, 3) := by decide +kernel
theorem dX5_as_49 : decode cX5_as 49 = .ok (.aload_n 0, 1) := by decide +kernel
theorem dX5_as_50 : decode cX5_as 50 = .ok (.iconst 5, 1) := by decide +kernel
theorem dX5_as_51 : decode cX5_as 51 = .ok (.invokevirtual 87, 3) := by decide +kernel
theorem dX5_as_54 : decode cX5_as 54 = .ok (.ireturn, 1) := by decide +kernel
theorem dX5_stop_0 : decode cX5_stop 0 = .ok (.iload_n 1, 1) := by decide +kernel
theorem dX5_stop_1 : decode cX5_stop 1 = .ok (.invokestatic 83, 3) := by decide +kernel
theorem dX5_stop_4 : decode cX5_stop 4 = .ok (.ifCond .eq 12, 3) := by decide +kernel
theorem dX5_stop_7 : decode cX5_stop 7 = .ok (.iload_n 2, 1) := by decide +kernel
theorem dX5_stop_8 : decode cX5_stop 8 = .ok (.iconst 0, 1) := by decide +kernel
theorem dX5_stop_9 : decode cX5_stop 9 = .ok (.iconst 1, 1) := by decide +kernel
theorem dX5_stop_10 : decode cX5_stop 10 = .ok (.invokestatic 79, 3) := by decide +kernel
theorem dX5_stop_13 : decode cX5_stop 13 = .ok (.ifCond .ne 9, 3) := by decide +kernel
theorem dX5_stop_16 : decode cX5_stop 16 = .ok (.aload_n 0, 1) := by decide +kernel
theorem dX5_stop_17 : decode cX5_stop 17 = .ok (.iconst 1, 1) := by decide +kernel
theorem dX5_stop_18 : decode cX5_stop 18 = .ok (.invokevirtual 87, 3) := by decide +kernel
theorem dX5_stop_21 : decode cX5_stop 21 = .ok (.ireturn, 1) := by decide +kernel
theorem dX5_stop_22 : decode cX5_stop 22 = .ok (.iload_n 1, 1) := by decide +kernel
theorem dX5_stop_23 : decode cX5_stop 23 = .ok (.invokestatic 91, 3) := by decide +kernel
theorem dX5_stop_26 : decode cX5_stop 26 = .ok (.istore_n 3, 1) := by decide +kernel
theorem dX5_stop_27 : decode cX5_stop 27 = .ok (.aload_n 0, 1) := by decide +kernel
theorem dX5_stop_28 : decode cX5_stop 28 = .ok (.getfield 19, 3) := by decide +kernel
theorem dX5_stop_31 : decode cX5_stop 31 = .ok (.iload_n 3, 1) := by decide +kernel
theorem dX5_stop_32 : decode cX5_stop 32 = .ok (.baload, 1) := by decide +kernel
theorem dX5_stop_33 : decode cX5_stop 33 = .ok (.ifCond .eq 7, 3) := by decide +kernel
theorem dX5_stop_36 : decode cX5_stop 36 = .ok (.iconst 1, 1) := by decide +kernel
theorem dX5_stop_37 : decode cX5_stop 37 = .ok (.goto 4, 3) := by decide +kernel
theorem dX5_stop_40 : decode cX5_stop 40 = .ok (.iconst 0, 1) := by decide +kernel
theorem dX5_stop_41 : decode cX5_stop 41 = .ok (.istore 4, 2) := by decide +kernel
theorem dX5_stop_43 : decode cX5_stop 43 = .ok (.aload_n 0, 1) := by decide +kernel
theorem dX5_stop_44 : decode cX5_stop 44 = .ok (.getfield 19, 3) := by decide +kernel
theorem dX5_stop_47 : decode cX5_stop 47 = .ok (.iload_n 3, 1) := by decide +kernel
theorem dX5_stop_48 : decode cX5_stop 48 = .ok (.iload_n 2, 1) := by decide +kernel
theorem dX5_stop_49 : decode cX5_stop 49 = .ok (.iconst 1, 1) := by decide +kernel
theorem dX5_stop_50 : decode cX5_stop 50 = .ok (.if_icmp .ne 7, 3) := by decide +kernel
theorem dX5_stop_53 : decode cX5_stop 53 = .ok (.iconst 1, 1) := by decide +kernel
theorem dX5_stop_54 : decode cX5_stop 54 = .ok (.goto 4, 3) := by decide +kernel
theorem dX5_stop_57 : decode cX5_stop 57 = .ok (.iconst 0, 1) := by decide +kernel
theorem dX5_stop_58 : decode cX5_stop 58 = .ok (.bastore, 1) := by decide +kernel
theorem dX5_stop_59 : decode cX5_stop 59 = .ok (.iload 4, 2) := by decide +kernel
theorem dX5_stop_61 : decode cX5_stop 61 = .ok (.ireturn, 1) := by decide +kernel
theorem dX5_clean_0 : decode cX5_clean 0 = .ok (.iload_n 1, 1) := by decide +kernel
theorem dX5_clean_1 : decode cX5_clean 1 = .ok (.invokestatic 97, 3) := by decide +kernel
theorem dX5_clean_4 : decode cX5_clean 4 = .ok (.ifCond .ne 9, 3) := by decide +kernel
theorem dX5_clean_7 : decode cX5_clean 7 = .ok (.aload_n 0, 1) := by decide +kernel
theorem dX5_clean_8 : decode cX5_clean 8 = .ok (.iconst 1, 1) := by decide +kernel
theorem dX5_clean_9 : decode cX5_clean 9 = .ok (.invokevirtual 87, 3) := by decide +kernel
theorem dX5_clean_12 : decode cX5_clean 12 = .ok (.ireturn, 1) := by decide +kernel
theorem dX5_clean_13 : decode cX5_clean 13 = .ok (.iconst 0, 1) := by decide +kernel
theorem dX5_clean_14 : decode cX5_clean 14 = .ok (.istore_n 2, 1) := by decide +kernel
theorem dX5_clean_15 : decode cX5_clean 15 = .ok (.bipush 36, 2) := by decide +kernel
theorem dX5_clean_17 : decode cX5_clean 17 = .ok (.iload_n 1, 1) := by decide +kernel
theorem dX5_clean_18 : decode cX5_clean 18 = .ok (.imul, 1) := by decide +kernel
theorem dX5_clean_19 : decode cX5_clean 19 = .ok (.istore_n 3, 1) := by decide +kernel
theorem dX5_clean_20 : decode cX5_clean 20 = .ok (.iload_n 3, 1) := by decide +kernel
theorem dX5_clean_21 : decode cX5_clean 21 = .ok (.bipush 36, 2) := by decide +kernel
theorem dX5_clean_23 : decode cX5_clean 23 = .ok (.iload_n 1, 1) := by decide +kernel
theorem dX5_clean_24 : decode cX5_clean 24 = .ok (.imul, 1) := by decide +kernel
theorem dX5_clean_25 : decode cX5_clean 25 = .ok (.bipush 36, 2) := by decide +kernel
theorem dX5_clean_27 : decode cX5_clean 27 = .ok (.iadd, 1) := by decide +kernel
theorem dX5_clean_28 : decode cX5_clean 28 = .ok (.if_icmp .ge 33, 3) := by decide +kernel
theorem dX5_clean_31 : decode cX5_clean 31 = .ok (.iload_n 2, 1) := by decide +kernel
theorem dX5_clean_32 : decode cX5_clean 32 = .ok (.aload_n 0, 1) := by decide +kernel
theorem dX5_clean_33 : decode cX5_clean 33 = .ok (.getfield 19, 3) := by decide +kernel
theorem dX5_clean_36 : decode cX5_clean 36 = .ok (.iload_n 3, 1) := by decide +kernel
theorem dX5_clean_37 : decode cX5_clean 37 = .ok (.baload, 1) := by decide +kernel
theorem dX5_clean_38 : decode cX5_clean 38 = .ok (.ifCond .eq 7, 3) := by decide +kernel
theorem dX5_clean_41 : decode cX5_clean 41 = .ok (.iconst 1, 1) := by decide +kernel
theorem dX5_clean_42 : decode cX5_clean 42 = .ok (.goto 4, 3) := by decide +kernel
theorem dX5_clean_45 : decode cX5_clean 45 = .ok (.iconst 0, 1) := by decide +kernel
theorem dX5_clean_46 : decode cX5_clean 46 = .ok (.iadd, 1) := by decide +kernel
theorem dX5_clean_47 : decode cX5_clean 47 = .ok (.istore_n 2, 1) := by decide +kernel
theorem dX5_clean_48 : decode cX5_clean 48 = .ok (.aload_n 0, 1) := by decide +kernel
theorem dX5_clean_49 : decode cX5_clean 49 = .ok (.getfield 19, 3) := by decide +kernel
theorem dX5_clean_52 : decode cX5_clean 52 = .ok (.iload_n 3, 1) := by decide +kernel
theorem dX5_clean_53 : decode cX5_clean 53 = .ok (.iconst 0, 1) := by decide +kernel
theorem dX5_clean_54 : decode cX5_clean 54 = .ok (.bastore, 1) := by decide +kernel
theorem dX5_clean_55 : decode cX5_clean 55 = .ok (.iinc 3 1, 3) := by decide +kernel
theorem dX5_clean_58 : decode cX5_clean 58 = .ok (.goto (-38), 3) := by decide +kernel
theorem dX5_clean_61 : decode cX5_clean 61 = .ok (.iload_n 2, 1) := by decide +kernel
theorem dX5_clean_62 : decode cX5_clean 62 = .ok (.ireturn, 1) := by decide +kernel
theorem dX5_bath_0 : decode cX5_bath 0 = .ok (.iload_n 1, 1) := by decide +kernel
theorem dX5_bath_1 : decode cX5_bath 1 = .ok (.iconst 1, 1) := by decide +kernel
theorem dX5_bath_2 : decode cX5_bath 2 = .ok (.bipush 9, 2) := by decide +kernel
theorem dX5_bath_4 : decode cX5_bath 4 = .ok (.invokestatic 79, 3) := by decide +kernel
theorem dX5_bath_7 : decode cX5_bath 7 = .ok (.ifCond .eq 12, 3) := by decide +kernel
theorem dX5_bath_10 : decode cX5_bath 10 = .ok (.iload_n 2, 1) := by decide +kernel
theorem dX5_bath_11 : decode cX5_bath 11 = .ok (.iconst 0, 1) := by decide +kernel
theorem dX5_bath_12 : decode cX5_bath 12 = .ok (.iconst 4, 1) := by decide +kernel
theorem dX5_bath_13 : decode cX5_bath 13 = .ok (.invokestatic 79, 3) := by decide +kernel
theorem dX5_bath_16 : decode cX5_bath 16 = .ok (.ifCond .ne 9, 3) := by decide +kernel
theorem dX5_bath_19 : decode cX5_bath 19 = .ok (.aload_n 0, 1) := by decide +kernel
theorem dX5_bath_20 : decode cX5_bath 20 = .ok (.iconst 1, 1) := by decide +kernel
theorem dX5_bath_21 : decode cX5_bath 21 = .ok (.invokevirtual 87, 3) := by decide +kernel
theorem dX5_bath_24 : decode cX5_bath 24 = .ok (.ireturn, 1) := by decide +kernel
theorem dX5_bath_25 : decode cX5_bath 25 = .ok (.aload_n 0, 1) := by decide +kernel
theorem dX5_bath_26 : decode cX5_bath 26 = .ok (.iload_n 1, 1) := by decide +kernel
theorem dX5_bath_27 : decode cX5_bath 27 = .ok (.putfield 26, 3) := by decide +kernel
theorem dX5_bath_30 : decode cX5_bath 30 = .ok (.aload_n 0, 1) := by decide +kernel
theorem dX5_bath_31 : decode cX5_bath 31 = .ok (.iload_n 2, 1) := by decide +kernel
theorem dX5_bath_32 : decode cX5_bath 32 = .ok (.putfield 30, 3) := by decide +kernel
theorem dX5_bath_35 : decode cX5_bath 35 = .ok (.aload_n 0, 1) := by decide +kernel
theorem dX5_bath_36 : decode cX5_bath 36 = .ok (.invokevirtual 100, 3) := by decide +kernel
theorem dX5_bath_39 : decode cX5_bath 39 = .ok (.ireturn, 1) := by decide +kernel
theorem dX5_bites_0 : decode cX5_bites 0 = .ok (.aload_n 0, 1) := by decide +kernel
theorem dX5_bites_1 : decode cX5_bites 1 = .ok (.getfield 19, 3) := by decide +kernel
theorem dX5_bites_4 : decode cX5_bites 4 = .ok (.iload_n 1, 1) := by decide +kernel
theorem dX5_bites_5 : decode cX5_bites 5 = .ok (.baload, 1) := by decide +kernel
theorem dX5_bites_6 : decode cX5_bites 6 = .ok (.ifCond .eq 4, 3) := by decide +kernel
theorem dX5_bites_9 : decode cX5_bites 9 = .ok (.return_, 1) := by decide +kernel
theorem dX5_bites_10 : decode cX5_bites 10 = .ok (.aload_n 0, 1) := by decide +kernel
theorem dX5_bites_11 : decode cX5_bites 11 = .ok (.getfield 13, 3) := by decide +kernel
theorem dX5_bites_14 : decode cX5_bites 14 = .ok (.iload_n 1, 1) := by decide +kernel
theorem dX5_bites_15 : decode cX5_bites 15 = .ok (.iaload, 1) := by decide +kernel
theorem dX5_bites_16 : decode cX5_bites 16 = .ok (.aload_n 0, 1) := by decide +kernel
theorem dX5_bites_17 : decode cX5_bites 17 = .ok (.iload_n 1, 1) := by decide +kernel
theorem dX5_bites_18 : decode cX5_bites 18 = .ok (.invokevirtual 94, 3) := by decide +kernel
theorem dX5_bites_21 : decode cX5_bites 21 = .ok (.aload_n 0, 1) := by decide +kernel
theorem dX5_bites_22 : decode cX5_bites 22 = .ok (.invokevirtual 100, 3) := by decide +kernel
theorem dX5_bites_25 : decode cX5_bites 25 = .ok (.imul, 1) := by decide +kernel
theorem dX5_bites_26 : decode cX5_bites 26 = .ok (.iadd, 1) := by decide +kernel
theorem dX5_bites_27 : decode cX5_bites 27 = .ok (.istore_n 2, 1) := by decide +kernel
theorem dX5_bites_28 : decode cX5_bites 28 = .ok (.aload_n 0, 1) := by decide +kernel
theorem dX5_bites_29 : decode cX5_bites 29 = .ok (.getfield 13, 3) := by decide +kernel
theorem dX5_bites_32 : decode cX5_bites 32 = .ok (.iload_n 1, 1) := by decide +kernel
theorem dX5_bites_33 : decode cX5_bites 33 = .ok (.iload_n 2, 1) := by decide +kernel
theorem dX5_bites_34 : decode cX5_bites 34 = .ok (.sipush 9999, 3) := by decide +kernel
theorem dX5_bites_37 : decode cX5_bites 37 = .ok (.if_icmp .le 9, 3) := by decide +kernel
theorem dX5_bites_40 : decode cX5_bites 40 = .ok (.sipush 9999, 3) := by decide +kernel
theorem dX5_bites_43 : decode cX5_bites 43 = .ok (.goto 4, 3) := by decide +kernel
theorem dX5_bites_46 : decode cX5_bites 46 = .ok (.iload_n 2, 1) := by decide +kernel
theorem dX5_bites_47 : decode cX5_bites 47 = .ok (.iastore, 1) := by decide +kernel
theorem dX5_bites_48 : decode cX5_bites 48 = .ok (.aload_n 0, 1) := by decide +kernel
theorem dX5_bites_49 : decode cX5_bites 49 = .ok (.getfield 16, 3) := by decide +kernel
theorem dX5_bites_52 : decode cX5_bites 52 = .ok (.iload_n 1, 1) := by decide +kernel
theorem dX5_bites_53 : decode cX5_bites 53 = .ok (.dup2, 1) := by decide +kernel
theorem dX5_bites_54 : decode cX5_bites 54 = .ok (.iaload, 1) := by decide +kernel
theorem dX5_bites_55 : decode cX5_bites 55 = .ok (.aload_n 0, 1) := by decide +kernel
theorem dX5_bites_56 : decode cX5_bites 56 = .ok (.getfield 16, 3) := by decide +kernel
theorem dX5_bites_59 : decode cX5_bites 59 = .ok (.iload_n 1, 1) := by decide +kernel
theorem dX5_bites_60 : decode cX5_bites 60 = .ok (.iaload, 1) := by decide +kernel
theorem dX5_bites_61 : decode cX5_bites 61 = .ok (.ifCond .le 7, 3) := by decide +kernel
theorem dX5_bites_64 : decode cX5_bites 64 = .ok (.iconst 1, 1) := by decide +kernel
theorem dX5_bites_65 : decode cX5_bites 65 = .ok (.goto 4, 3) := by decide +kernel
theorem dX5_bites_68 : decode cX5_bites 68 = .ok (.iconst 0, 1) := by decide +kernel
theorem dX5_bites_69 : decode cX5_bites 69 = .ok (.isub, 1) := by decide +kernel
theorem dX5_bites_70 : decode cX5_bites 70 = .ok (.iastore, 1) := by decide +kernel
theorem dX5_bites_71 : decode cX5_bites 71 = .ok (.return_, 1) := by decide +kernel
theorem dX5_bathes_0 : decode cX5_bathes 0 = .ok (.iconst 0, 1) := by decide +kernel
theorem dX5_bathes_1 : decode cX5_bathes 1 = .ok (.istore_n 3, 1) := by decide +kernel
theorem dX5_bathes_2 : decode cX5_bathes 2 = .ok (.iload_n 3, 1) := by decide +kernel
theorem dX5_bathes_3 : decode cX5_bathes 3 = .ok (.iload_n 2, 1) := by decide +kernel
theorem dX5_bathes_4 : decode cX5_bathes 4 = .ok (.if_icmp .ge 39, 3) := by decide +kernel
theorem dX5_bathes_7 : decode cX5_bathes 7 = .ok (.bipush 36, 2) := by decide +kernel
theorem dX5_bathes_9 : decode cX5_bathes 9 = .ok (.iload_n 1, 1) := by decide +kernel
theorem dX5_bathes_10 : decode cX5_bathes 10 = .ok (.imul, 1) := by decide +kernel
theorem dX5_bathes_11 : decode cX5_bathes 11 = .ok (.istore 4, 2) := by decide +kernel
theorem dX5_bathes_13 : decode cX5_bathes 13 = .ok (.iload 4, 2) := by decide +kernel
theorem dX5_bathes_15 : decode cX5_bathes 15 = .ok (.bipush 36, 2) := by decide +kernel
theorem dX5_bathes_17 : decode cX5_bathes 17 = .ok (.iload_n 1, 1) := by decide +kernel
theorem dX5_bathes_18 : decode cX5_bathes 18 = .ok (.imul, 1) := by decide +kernel
theorem dX5_bathes_19 : decode cX5_bathes 19 = .ok (.bipush 36, 2) := by decide +kernel
theorem dX5_bathes_21 : decode cX5_bathes 21 = .ok (.iadd, 1) := by decide +kernel
theorem dX5_bathes_22 : decode cX5_bathes 22 = .ok (.if_icmp .ge 15, 3) := by decide +kernel
theorem dX5_bathes_25 : decode cX5_bathes 25 = .ok (.aload_n 0, 1) := by decide +kernel
theorem dX5_bathes_26 : decode cX5_bathes 26 = .ok (.iload 4, 2) := by decide +kernel
theorem dX5_bathes_28 : decode cX5_bathes 28 = .ok (.invokevirtual 104, 3) := by decide +kernel
theorem dX5_bathes_31 : decode cX5_bathes 31 = .ok (.iinc 4 1, 3) := by decide +kernel
theorem dX5_bathes_34 : decode cX5_bathes 34 = .ok (.goto (-21), 3) := by decide +kernel
theorem dX5_bathes_37 : decode cX5_bathes 37 = .ok (.iinc 3 1, 3) := by decide +kernel
theorem dX5_bathes_40 : decode cX5_bathes 40 = .ok (.goto (-38), 3) := by decide +kernel
theorem dX5_bathes_43 : decode cX5_bathes 43 = .ok (.return_, 1) := by decide +kernel
theorem dX5_bathe_0 : decode cX5_bathe 0 = .ok (.iload_n 1, 1) := by decide +kernel
theorem dX5_bathe_1 : decode cX5_bathe 1 = .ok (.invokestatic 97, 3) := by decide +kernel
theorem dX5_bathe_4 : decode cX5_bathe 4 = .ok (.ifCond .eq 14, 3) := by decide +kernel
theorem dX5_bathe_7 : decode cX5_bathe 7 = .ok (.iload_n 2, 1) := by decide +kernel
theorem dX5_bathe_8 : decode cX5_bathe 8 = .ok (.iconst 1, 1) := by decide +kernel
theorem dX5_bathe_9 : decode cX5_bathe 9 = .ok (.sipush 200, 3) := by decide +kernel
theorem dX5_bathe_12 : decode cX5_bathe 12 = .ok (.invokestatic 79, 3) := by decide +kernel
theorem dX5_bathe_15 : decode cX5_bathe 15 = .ok (.ifCond .ne 9, 3) := by decide +kernel
theorem dX5_bathe_18 : decode cX5_bathe 18 = .ok (.aload_n 0, 1) := by decide +kernel
theorem dX5_bathe_19 : decode cX5_bathe 19 = .ok (.iconst 1, 1) := by decide +kernel
theorem dX5_bathe_20 : decode cX5_bathe 20 = .ok (.invokevirtual 87, 3) := by decide +kernel
theorem dX5_bathe_23 : decode cX5_bathe 23 = .ok (.ireturn, 1) := by decide +kernel
theorem dX5_bathe_24 : decode cX5_bathe 24 = .ok (.aload_n 0, 1) := by decide +kernel
theorem dX5_bathe_25 : decode cX5_bathe 25 = .ok (.iload_n 1, 1) := by decide +kernel
theorem dX5_bathe_26 : decode cX5_bathe 26 = .ok (.iload_n 2, 1) := by decide +kernel
theorem dX5_bathe_27 : decode cX5_bathe 27 = .ok (.invokevirtual 108, 3) := by decide +kernel
theorem dX5_bathe_30 : decode cX5_bathe 30 = .ok (.iconst 0, 1) := by decide +kernel
theorem dX5_bathe_31 : decode cX5_bathe 31 = .ok (.istore_n 3, 1) := by decide +kernel
theorem dX5_bathe_32 : decode cX5_bathe 32 = .ok (.bipush 36, 2) := by decide +kernel
theorem dX5_bathe_34 : decode cX5_bathe 34 = .ok (.iload_n 1, 1) := by decide +kernel
theorem dX5_bathe_35 : decode cX5_bathe 35 = .ok (.imul, 1) := by decide +kernel
theorem dX5_bathe_36 : decode cX5_bathe 36 = .ok (.istore 4, 2) := by decide +kernel
theorem dX5_bathe_38 : decode cX5_bathe 38 = .ok (.iload 4, 2) := by decide +kernel
theorem dX5_bathe_40 : decode cX5_bathe 40 = .ok (.bipush 36, 2) := by decide +kernel
theorem dX5_bathe_42 : decode cX5_bathe 42 = .ok (.iload_n 1, 1) := by decide +kernel
theorem dX5_bathe_43 : decode cX5_bathe 43 = .ok (.imul, 1) := by decide +kernel
theorem dX5_bathe_44 : decode cX5_bathe 44 = .ok (.bipush 36, 2) := by decide +kernel
theorem dX5_bathe_46 : decode cX5_bathe 46 = .ok (.iadd, 1) := by decide +kernel
theorem dX5_bathe_47 : decode cX5_bathe 47 = .ok (.if_icmp .ge 19, 3) := by decide +kernel
theorem dX5_bathe_50 : decode cX5_bathe 50 = .ok (.iload_n 3, 1) := by decide +kernel
theorem dX5_bathe_51 : decode cX5_bathe 51 = .ok (.aload_n 0, 1) := by decide +kernel
theorem dX5_bathe_52 : decode cX5_bathe 52 = .ok (.getfield 13, 3) := by decide +kernel
theorem dX5_bathe_55 : decode cX5_bathe 55 = .ok (.iload 4, 2) := by decide +kernel
theorem dX5_bathe_57 : decode cX5_bathe 57 = .ok (.iaload, 1) := by decide +kernel
theorem dX5_bathe_58 : decode cX5_bathe 58 = .ok (.iadd, 1) := by decide +kernel
theorem dX5_bathe_59 : decode cX5_bathe 59 = .ok (.istore_n 3, 1) := by decide +kernel
theorem dX5_bathe_60 : decode cX5_bathe 60 = .ok (.iinc 4 1, 3) := by decide +kernel
theorem dX5_bathe_63 : decode cX5_bathe 63 = .ok (.goto (-25), 3) := by decide +kernel
theorem dX5_bathe_66 : decode cX5_bathe 66 = .ok (.iload_n 3, 1) := by decide +kernel
theorem dX5_bathe_67 : decode cX5_bathe 67 = .ok (.ireturn, 1) := by decide +kernel
theorem dX5_scrape_0 : decode cX5_scrape 0 = .ok (.iload_n 1, 1) := by decide +kernel
theorem dX5_scrape_1 : decode cX5_scrape 1 = .ok (.invokestatic 83, 3) := by decide +kernel
theorem dX5_scrape_4 : decode cX5_scrape 4 = .ok (.ifCond .eq 13, 3) := by decide +kernel
theorem dX5_scrape_7 : decode cX5_scrape 7 = .ok (.iload_n 2, 1) := by decide +kernel
theorem dX5_scrape_8 : decode cX5_scrape 8 = .ok (.iconst 1, 1) := by decide +kernel
theorem dX5_scrape_9 : decode cX5_scrape 9 = .ok (.bipush 100, 2) := by decide +kernel
theorem dX5_scrape_11 : decode cX5_scrape 11 = .ok (.invokestatic 79, 3) := by decide +kernel
theorem dX5_scrape_14 : decode cX5_scrape 14 = .ok (.ifCond .ne 9, 3) := by decide +kernel
theorem dX5_scrape_17 : decode cX5_scrape 17 = .ok (.aload_n 0, 1) := by decide +kernel
theorem dX5_scrape_18 : decode cX5_scrape 18 = .ok (.iconst 1, 1) := by decide +kernel
theorem dX5_scrape_19 : decode cX5_scrape 19 = .ok (.invokevirtual 87, 3) := by decide +kernel
theorem dX5_scrape_22 : decode cX5_scrape 22 = .ok (.ireturn, 1) := by decide +kernel
theorem dX5_scrape_23 : decode cX5_scrape 23 = .ok (.iload_n 1, 1) := by decide +kernel
theorem dX5_scrape_24 : decode cX5_scrape 24 = .ok (.invokestatic 91, 3) := by decide +kernel
theorem dX5_scrape_27 : decode cX5_scrape 27 = .ok (.istore_n 3, 1) := by decide +kernel
theorem dX5_scrape_28 : decode cX5_scrape 28 = .ok (.iconst 0, 1) := by decide +kernel
theorem dX5_scrape_29 : decode cX5_scrape 29 = .ok (.istore 4, 2) := by decide +kernel
theorem dX5_scrape_31 : decode cX5_scrape 31 = .ok (.iload 4, 2) := by decide +kernel
theorem dX5_scrape_33 : decode cX5_scrape 33 = .ok (.iload_n 2, 1) := by decide +kernel
theorem dX5_scrape_34 : decode cX5_scrape 34 = .ok (.if_icmp .ge 46, 3) := by decide +kernel
theorem dX5_scrape_37 : decode cX5_scrape 37 = .ok (.aload_n 0, 1) := by decide +kernel
theorem dX5_scrape_38 : decode cX5_scrape 38 = .ok (.getfield 13, 3) := by decide +kernel
theorem dX5_scrape_41 : decode cX5_scrape 41 = .ok (.iload_n 3, 1) := by decide +kernel
theorem dX5_scrape_42 : decode cX5_scrape 42 = .ok (.iaload, 1) := by decide +kernel
theorem dX5_scrape_43 : decode cX5_scrape 43 = .ok (.aload_n 0, 1) := by decide +kernel
theorem dX5_scrape_44 : decode cX5_scrape 44 = .ok (.getfield 13, 3) := by decide +kernel
theorem dX5_scrape_47 : decode cX5_scrape 47 = .ok (.iload_n 3, 1) := by decide +kernel
theorem dX5_scrape_48 : decode cX5_scrape 48 = .ok (.iaload, 1) := by decide +kernel
theorem dX5_scrape_49 : decode cX5_scrape 49 = .ok (.bipush 10, 2) := by decide +kernel
theorem dX5_scrape_51 : decode cX5_scrape 51 = .ok (.idiv, 1) := by decide +kernel
theorem dX5_scrape_52 : decode cX5_scrape 52 = .ok (.isub, 1) := by decide +kernel
theorem dX5_scrape_53 : decode cX5_scrape 53 = .ok (.iconst 1, 1) := by decide +kernel
theorem dX5_scrape_54 : decode cX5_scrape 54 = .ok (.isub, 1) := by decide +kernel
theorem dX5_scrape_55 : decode cX5_scrape 55 = .ok (.istore 5, 2) := by decide +kernel
theorem dX5_scrape_57 : decode cX5_scrape 57 = .ok (.aload_n 0, 1) := by decide +kernel
theorem dX5_scrape_58 : decode cX5_scrape 58 = .ok (.getfield 13, 3) := by decide +kernel
theorem dX5_scrape_61 : decode cX5_scrape 61 = .ok (.iload_n 3, 1) := by decide +kernel
theorem dX5_scrape_62 : decode cX5_scrape 62 = .ok (.iload 5, 2) := by decide +kernel
theorem dX5_scrape_64 : decode cX5_scrape 64 = .ok (.ifCond .ge 7, 3) := by decide +kernel
theorem dX5_scrape_67 : decode cX5_scrape 67 = .ok (.iconst 0, 1) := by decide +kernel
theorem dX5_scrape_68 : decode cX5_scrape 68 = .ok (.goto 5, 3) := by decide +kernel
theorem dX5_scrape_71 : decode cX5_scrape 71 = .ok (.iload 5, 2) := by decide +kernel
theorem dX5_scrape_73 : decode cX5_scrape 73 = .ok (.iastore, 1) := by decide +kernel
theorem dX5_scrape_74 : decode cX5_scrape 74 = .ok (.iinc 4 1, 3) := by decide +kernel
theorem dX5_scrape_77 : decode cX5_scrape 77 = .ok (.goto (-46), 3) := by decide +kernel
theorem dX5_scrape_80 : decode cX5_scrape 80 = .ok (.aload_n 0, 1) := by decide +kernel
theorem dX5_scrape_81 : decode cX5_scrape 81 = .ok (.getfield 13, 3) := by decide +kernel
theorem dX5_scrape_84 : decode cX5_scrape 84 = .ok (.iload_n 3, 1) := by decide +kernel
theorem dX5_scrape_85 : decode cX5_scrape 85 = .ok (.iaload, 1) := by decide +kernel
theorem dX5_scrape_86 : decode cX5_scrape 86 = .ok (.ireturn, 1) := by decide +kernel
theorem dX5_about_0 : decode cX5_about 0 = .ok (.iload_n 1, 1) := by decide +kernel
theorem dX5_about_1 : decode cX5_about 1 = .ok (.invokestatic 83, 3) := by decide +kernel
theorem dX5_about_4 : decode cX5_about 4 = .ok (.ifCond .eq 12, 3) := by decide +kernel
theorem dX5_about_7 : decode cX5_about 7 = .ok (.iload_n 2, 1) := by decide +kernel
theorem dX5_about_8 : decode cX5_about 8 = .ok (.iconst 0, 1) := by decide +kernel
theorem dX5_about_9 : decode cX5_about 9 = .ok (.iconst 4, 1) := by decide +kernel
theorem dX5_about_10 : decode cX5_about 10 = .ok (.invokestatic 79, 3) := by decide +kernel
theorem dX5_about_13 : decode cX5_about 13 = .ok (.ifCond .ne 9, 3) := by decide +kernel
theorem dX5_about_16 : decode cX5_about 16 = .ok (.aload_n 0, 1) := by decide +kernel
theorem dX5_about_17 : decode cX5_about 17 = .ok (.iconst 1, 1) := by decide +kernel
theorem dX5_about_18 : decode cX5_about 18 = .ok (.invokevirtual 87, 3) := by decide +kernel
theorem dX5_about_21 : decode cX5_about 21 = .ok (.ireturn, 1) := by decide +kernel
theorem dX5_about_22 : decode cX5_about 22 = .ok (.iload_n 1, 1) := by decide +kernel
theorem dX5_about_23 : decode cX5_about 23 = .ok (.invokestatic 91, 3) := by decide +kernel
theorem dX5_about_26 : decode cX5_about 26 = .ok (.istore_n 3, 1) := by decide +kernel
theorem dX5_about_27 : decode cX5_about 27 = .ok (.iload_n 2, 1) := by decide +kernel
theorem dX5_about_28 : decode cX5_about 28 = .ok (.tableswitch 71 0 3 #[32, 39, 46, 61], 32) := by decide +kernel
theorem dX5_about_60 : decode cX5_about 60 = .ok (.aload_n 0, 1) := by decide +kernel
theorem dX5_about_61 : decode cX5_about 61 = .ok (.getfield 7, 3) := by decide +kernel
theorem dX5_about_64 : decode cX5_about 64 = .ok (.iload_n 3, 1) := by decide +kernel
theorem dX5_about_65 : decode cX5_about 65 = .ok (.iaload, 1) := by decide +kernel
theorem dX5_about_66 : decode cX5_about 66 = .ok (.ireturn, 1) := by decide +kernel
theorem dX5_about_67 : decode cX5_about 67 = .ok (.aload_n 0, 1) := by decide +kernel
theorem dX5_about_68 : decode cX5_about 68 = .ok (.getfield 13, 3) := by decide +kernel
theorem dX5_about_71 : decode cX5_about 71 = .ok (.iload_n 3, 1) := by decide +kernel
theorem dX5_about_72 : decode cX5_about 72 = .ok (.iaload, 1) := by decide +kernel
theorem dX5_about_73 : decode cX5_about 73 = .ok (.ireturn, 1) := by decide +kernel
theorem dX5_about_74 : decode cX5_about 74 = .ok (.aload_n 0, 1) := by decide +kernel
theorem dX5_about_75 : decode cX5_about 75 = .ok (.getfield 19, 3) := by decide +kernel
theorem dX5_about_78 : decode cX5_about 78 = .ok (.iload_n 3, 1) := by decide +kernel
theorem dX5_about_79 : decode cX5_about 79 = .ok (.baload, 1) := by decide +kernel
theorem dX5_about_80 : decode cX5_about 80 = .ok (.ifCond .eq 7, 3) := by decide +kernel
theorem dX5_about_83 : decode cX5_about 83 = .ok (.iconst 1, 1) := by decide +kernel
theorem dX5_about_84 : decode cX5_about 84 = .ok (.goto 4, 3) := by decide +kernel
theorem dX5_about_87 : decode cX5_about 87 = .ok (.iconst 0, 1) := by decide +kernel
theorem dX5_about_88 : decode cX5_about 88 = .ok (.ireturn, 1) := by decide +kernel
theorem dX5_about_89 : decode cX5_about 89 = .ok (.aload_n 0, 1) := by decide +kernel
theorem dX5_about_90 : decode cX5_about 90 = .ok (.getfield 13, 3) := by decide +kernel
theorem dX5_about_93 : decode cX5_about 93 = .ok (.iload_n 3, 1) := by decide +kernel
theorem dX5_about_94 : decode cX5_about 94 = .ok (.iaload, 1) := by decide +kernel
theorem dX5_about_95 : decode cX5_about 95 = .ok (.invokestatic 112, 3) := by decide +kernel
theorem dX5_about_98 : decode cX5_about 98 = .ok (.ireturn, 1) := by decide +kernel
theorem dX5_about_99 : decode cX5_about 99 = .ok (.aload_n 0, 1) := by decide +kernel
theorem dX5_about_100 : decode cX5_about 100 = .ok (.getfield 16, 3) := by decide +kernel
theorem dX5_about_103 : decode cX5_about 103 = .ok (.iload_n 3, 1) := by decide +kernel
theorem dX5_about_104 : decode cX5_about 104 = .ok (.iaload, 1) := by decide +kernel
theorem dX5_about_105 : decode cX5_about 105 = .ok (.ireturn, 1) := by decide +kernel
theorem dX5_looks_0 : decode cX5_looks 0 = .ok (.aload_n 0, 1) := by decide +kernel
theorem dX5_looks_1 : decode cX5_looks 1 = .ok (.getfield 13, 3) := by decide +kernel
theorem dX5_looks_4 : decode cX5_looks 4 = .ok (.iload_n 1, 1) := by decide +kernel
theorem dX5_looks_5 : decode cX5_looks 5 = .ok (.iaload, 1) := by decide +kernel
theorem dX5_looks_6 : decode cX5_looks 6 = .ok (.istore_n 3, 1) := by decide +kernel
theorem dX5_looks_7 : decode cX5_looks 7 = .ok (.aload_n 0, 1) := by decide +kernel
theorem dX5_looks_8 : decode cX5_looks 8 = .ok (.getfield 16, 3) := by decide +kernel
theorem dX5_looks_11 : decode cX5_looks 11 = .ok (.iload_n 1, 1) := by decide +kernel
theorem dX5_looks_12 : decode cX5_looks 12 = .ok (.iaload, 1) := by decide +kernel
theorem dX5_looks_13 : decode cX5_looks 13 = .ok (.istore 4, 2) := by decide +kernel
theorem dX5_looks_15 : decode cX5_looks 15 = .ok (.aload_n 0, 1) := by decide +kernel
theorem dX5_looks_16 : decode cX5_looks 16 = .ok (.iconst (-1), 1) := by decide +kernel
theorem dX5_looks_17 : decode cX5_looks 17 = .ok (.putfield 115, 3) := by decide +kernel
theorem dX5_looks_20 : decode cX5_looks 20 = .ok (.aload_n 0, 1) := by decide +kernel
theorem dX5_looks_21 : decode cX5_looks 21 = .ok (.iconst (-1), 1) := by decide +kernel
theorem dX5_looks_22 : decode cX5_looks 22 = .ok (.putfield 118, 3) := by decide +kernel
theorem dX5_looks_25 : decode cX5_looks 25 = .ok (.iconst 0, 1) := by decide +kernel
theorem dX5_looks_26 : decode cX5_looks 26 = .ok (.istore 5, 2) := by decide +kernel
theorem dX5_looks_28 : decode cX5_looks 28 = .ok (.iload 5, 2) := by decide +kernel
theorem dX5_looks_30 : decode cX5_looks 30 = .ok (.sipush 200, 3) := by decide +kernel
theorem dX5_looks_33 : decode cX5_looks 33 = .ok (.if_icmp .gt 54, 3) := by decide +kernel
theorem dX5_looks_36 : decode cX5_looks 36 = .ok (.aload_n 0, 1) := by decide +kernel
theorem dX5_looks_37 : decode cX5_looks 37 = .ok (.getfield 13, 3) := by decide +kernel
theorem dX5_looks_40 : decode cX5_looks 40 = .ok (.iload_n 1, 1) := by decide +kernel
theorem dX5_looks_41 : decode cX5_looks 41 = .ok (.iaload, 1) := by decide +kernel
theorem dX5_looks_42 : decode cX5_looks 42 = .ok (.invokestatic 112, 3) := by decide +kernel
theorem dX5_looks_45 : decode cX5_looks 45 = .ok (.iload_n 2, 1) := by decide +kernel
theorem dX5_looks_46 : decode cX5_looks 46 = .ok (.if_icmp .ne 30, 3) := by decide +kernel
theorem dX5_looks_49 : decode cX5_looks 49 = .ok (.aload_n 0, 1) := by decide +kernel
theorem dX5_looks_50 : decode cX5_looks 50 = .ok (.aload_n 0, 1) := by decide +kernel
theorem dX5_looks_51 : decode cX5_looks 51 = .ok (.getfield 115, 3) := by decide +kernel
theorem dX5_looks_54 : decode cX5_looks 54 = .ok (.iconst (-1), 1) := by decide +kernel
theorem dX5_looks_55 : decode cX5_looks 55 = .ok (.if_icmp .ne 8, 3) := by decide +kernel
theorem dX5_looks_58 : decode cX5_looks 58 = .ok (.iload 5, 2) := by decide +kernel
theorem dX5_looks_60 : decode cX5_looks 60 = .ok (.goto 7, 3) := by decide +kernel
theorem dX5_looks_63 : decode cX5_looks 63 = .ok (.aload_n 0, 1) := by decide +kernel
theorem dX5_looks_64 : decode cX5_looks 64 = .ok (.getfield 115, 3) := by decide +kernel
theorem dX5_looks_67 : decode cX5_looks 67 = .ok (.putfield 115, 3) := by decide +kernel
theorem dX5_looks_70 : decode cX5_looks 70 = .ok (.aload_n 0, 1) := by decide +kernel
theorem dX5_looks_71 : decode cX5_looks 71 = .ok (.iload 5, 2) := by decide +kernel
theorem dX5_looks_73 : decode cX5_looks 73 = .ok (.putfield 118, 3) := by decide +kernel
theorem dX5_looks_76 : decode cX5_looks 76 = .ok (.aload_n 0, 1) := by decide +kernel
theorem dX5_looks_77 : decode cX5_looks 77 = .ok (.iload_n 1, 1) := by decide +kernel
theorem dX5_looks_78 : decode cX5_looks 78 = .ok (.invokevirtual 104, 3) := by decide +kernel
theorem dX5_looks_81 : decode cX5_looks 81 = .ok (.iinc 5 1, 3) := by decide +kernel
theorem dX5_looks_84 : decode cX5_looks 84 = .ok (.goto (-56), 3) := by decide +kernel
theorem dX5_looks_87 : decode cX5_looks 87 = .ok (.aload_n 0, 1) := by decide +kernel
theorem dX5_looks_88 : decode cX5_looks 88 = .ok (.getfield 13, 3) := by decide +kernel
theorem dX5_looks_91 : decode cX5_looks 91 = .ok (.iload_n 1, 1) := by decide +kernel
theorem dX5_looks_92 : decode cX5_looks 92 = .ok (.iload_n 3, 1) := by decide +kernel
theorem dX5_looks_93 : decode cX5_looks 93 = .ok (.iastore, 1) := by decide +kernel
theorem dX5_looks_94 : decode cX5_looks 94 = .ok (.aload_n 0, 1) := by decide +kernel
theorem dX5_looks_95 : decode cX5_looks 95 = .ok (.getfield 16, 3) := by decide +kernel
theorem dX5_looks_98 : decode cX5_looks 98 = .ok (.iload_n 1, 1) := by decide +kernel
theorem dX5_looks_99 : decode cX5_looks 99 = .ok (.iload 4, 2) := by decide +kernel
theorem dX5_looks_101 : decode cX5_looks 101 = .ok (.iastore, 1) := by decide +kernel
theorem dX5_looks_102 : decode cX5_looks 102 = .ok (.aload_n 0, 1) := by decide +kernel
theorem dX5_looks_103 : decode cX5_looks 103 = .ok (.getfield 115, 3) := by decide +kernel
theorem dX5_looks_106 : decode cX5_looks 106 = .ok (.iconst (-1), 1) := by decide +kernel
theorem dX5_looks_107 : decode cX5_looks 107 = .ok (.if_icmp .eq 7, 3) := by decide +kernel
theorem dX5_looks_110 : decode cX5_looks 110 = .ok (.iconst 1, 1) := by decide +kernel
theorem dX5_looks_111 : decode cX5_looks 111 = .ok (.goto 4, 3) := by decide +kernel
theorem dX5_looks_114 : decode cX5_looks 114 = .ok (.iconst 0, 1) := by decide +kernel
theorem dX5_looks_115 : decode cX5_looks 115 = .ok (.ireturn, 1) := by decide +kernel
theorem dX5_span_0 : decode cX5_span 0 = .ok (.iload_n 1, 1) := by decide +kernel
theorem dX5_span_1 : decode cX5_span 1 = .ok (.invokestatic 83, 3) := by decide +kernel
theorem dX5_span_4 : decode cX5_span 4 = .ok (.ifCond .eq 13, 3) := by decide +kernel
theorem dX5_span_7 : decode cX5_span 7 = .ok (.iload_n 2, 1) := by decide +kernel
theorem dX5_span_8 : decode cX5_span 8 = .ok (.iconst 0, 1) := by decide +kernel
theorem dX5_span_9 : decode cX5_span 9 = .ok (.bipush 15, 2) := by decide +kernel
theorem dX5_span_11 : decode cX5_span 11 = .ok (.invokestatic 79, 3) := by decide +kernel
theorem dX5_span_14 : decode cX5_span 14 = .ok (.ifCond .ne 9, 3) := by decide +kernel
theorem dX5_span_17 : decode cX5_span 17 = .ok (.aload_n 0, 1) := by decide +kernel
theorem dX5_span_18 : decode cX5_span 18 = .ok (.iconst 1, 1) := by decide +kernel
theorem dX5_span_19 : decode cX5_span 19 = .ok (.invokevirtual 87, 3) := by decide +kernel
theorem dX5_span_22 : decode cX5_span 22 = .ok (.ireturn, 1) := by decide +kernel
theorem dX5_span_23 : decode cX5_span 23 = .ok (.aload_n 0, 1) := by decide +kernel
theorem dX5_span_24 : decode cX5_span 24 = .ok (.getfield 19, 3) := by decide +kernel
theorem dX5_span_27 : decode cX5_span 27 = .ok (.iload_n 1, 1) := by decide +kernel
theorem dX5_span_28 : decode cX5_span 28 = .ok (.invokestatic 91, 3) := by decide +kernel
theorem dX5_span_31 : decode cX5_span 31 = .ok (.baload, 1) := by decide +kernel
theorem dX5_span_32 : decode cX5_span 32 = .ok (.ifCond .eq 9, 3) := by decide +kernel
theorem dX5_span_35 : decode cX5_span 35 = .ok (.aload_n 0, 1) := by decide +kernel
theorem dX5_span_36 : decode cX5_span 36 = .ok (.iconst 3, 1) := by decide +kernel
theorem dX5_span_37 : decode cX5_span 37 = .ok (.invokevirtual 87, 3) := by decide +kernel
theorem dX5_span_40 : decode cX5_span 40 = .ok (.ireturn, 1) := by decide +kernel
theorem dX5_span_41 : decode cX5_span 41 = .ok (.aload_n 0, 1) := by decide +kernel
theorem dX5_span_42 : decode cX5_span 42 = .ok (.iload_n 1, 1) := by decide +kernel
theorem dX5_span_43 : decode cX5_span 43 = .ok (.invokestatic 91, 3) := by decide +kernel
theorem dX5_span_46 : decode cX5_span 46 = .ok (.iload_n 2, 1) := by decide +kernel
theorem dX5_span_47 : decode cX5_span 47 = .ok (.invokevirtual 121, 3) := by decide +kernel
theorem dX5_span_50 : decode cX5_span 50 = .ok (.ifCond .eq 21, 3) := by decide +kernel
theorem dX5_span_53 : decode cX5_span 53 = .ok (.iload_n 3, 1) := by decide +kernel
theorem dX5_span_54 : decode cX5_span 54 = .ok (.ifCond .eq 10, 3) := by decide +kernel
theorem dX5_span_57 : decode cX5_span 57 = .ok (.aload_n 0, 1) := by decide +kernel
theorem dX5_span_58 : decode cX5_span 58 = .ok (.getfield 118, 3) := by decide +kernel
theorem dX5_span_61 : decode cX5_span 61 = .ok (.goto 15, 3) := by decide +kernel
theorem dX5_span_64 : decode cX5_span 64 = .ok (.aload_n 0, 1) := by decide +kernel
theorem dX5_span_65 : decode cX5_span 65 = .ok (.getfield 115, 3) := by decide +kernel
theorem dX5_span_68 : decode cX5_span 68 = .ok (.goto 8, 3) := by decide +kernel
theorem dX5_span_71 : decode cX5_span 71 = .ok (.aload_n 0, 1) := by decide +kernel
theorem dX5_span_72 : decode cX5_span 72 = .ok (.iconst 2, 1) := by decide +kernel
theorem dX5_span_73 : decode cX5_span 73 = .ok (.invokevirtual 87, 3) := by decide +kernel
theorem dX5_span_76 : decode cX5_span 76 = .ok (.ireturn, 1) := by decide +kernel
theorem dX5_wish_0 : decode cX5_wish 0 = .ok (.iload_n 1, 1) := by decide +kernel
theorem dX5_wish_1 : decode cX5_wish 1 = .ok (.invokestatic 83, 3) := by decide +kernel
theorem dX5_wish_4 : decode cX5_wish 4 = .ok (.ifCond .eq 13, 3) := by decide +kernel
theorem dX5_wish_7 : decode cX5_wish 7 = .ok (.iload_n 2, 1) := by decide +kernel
theorem dX5_wish_8 : decode cX5_wish 8 = .ok (.iconst 0, 1) := by decide +kernel
theorem dX5_wish_9 : decode cX5_wish 9 = .ok (.bipush 15, 2) := by decide +kernel
theorem dX5_wish_11 : decode cX5_wish 11 = .ok (.invokestatic 79, 3) := by decide +kernel
theorem dX5_wish_14 : decode cX5_wish 14 = .ok (.ifCond .ne 9, 3) := by decide +kernel
theorem dX5_wish_17 : decode cX5_wish 17 = .ok (.aload_n 0, 1) := by decide +kernel
theorem dX5_wish_18 : decode cX5_wish 18 = .ok (.iconst 1, 1) := by decide +kernel
theorem dX5_wish_19 : decode cX5_wish 19 = .ok (.invokevirtual 87, 3) := by decide +kernel
theorem dX5_wish_22 : decode cX5_wish 22 = .ok (.ireturn, 1) := by decide +kernel
theorem dX5_wish_23 : decode cX5_wish 23 = .ok (.iload_n 1, 1) := by decide +kernel
theorem dX5_wish_24 : decode cX5_wish 24 = .ok (.invokestatic 91, 3) := by decide +kernel
theorem dX5_wish_27 : decode cX5_wish 27 = .ok (.istore_n 3, 1) := by decide +kernel
theorem dX5_wish_28 : decode cX5_wish 28 = .ok (.aload_n 0, 1) := by decide +kernel
theorem dX5_wish_29 : decode cX5_wish 29 = .ok (.getfield 19, 3) := by decide +kernel
theorem dX5_wish_32 : decode cX5_wish 32 = .ok (.iload_n 3, 1) := by decide +kernel
theorem dX5_wish_33 : decode cX5_wish 33 = .ok (.baload, 1) := by decide +kernel
theorem dX5_wish_34 : decode cX5_wish 34 = .ok (.ifCond .ne 26, 3) := by decide +kernel
theorem dX5_wish_37 : decode cX5_wish 37 = .ok (.aload_n 0, 1) := by decide +kernel
theorem dX5_wish_38 : decode cX5_wish 38 = .ok (.getfield 125, 3) := by decide +kernel
theorem dX5_wish_41 : decode cX5_wish 41 = .ok (.ifCond .le 23, 3) := by decide +kernel
theorem dX5_wish_44 : decode cX5_wish 44 = .ok (.aload_n 0, 1) := by decide +kernel
theorem dX5_wish_45 : decode cX5_wish 45 = .ok (.getfield 33, 3) := by decide +kernel
theorem dX5_wish_48 : decode cX5_wish 48 = .ok (.iconst 0, 1) := by decide +kernel
theorem dX5_wish_49 : decode cX5_wish 49 = .ok (.iaload, 1) := by decide +kernel
theorem dX5_wish_50 : decode cX5_wish 50 = .ok (.bipush 36, 2) := by decide +kernel
theorem dX5_wish_52 : decode cX5_wish 52 = .ok (.idiv, 1) := by decide +kernel
theorem dX5_wish_53 : decode cX5_wish 53 = .ok (.iload_n 3, 1) := by decide +kernel
theorem dX5_wish_54 : decode cX5_wish 54 = .ok (.bipush 36, 2) := by decide +kernel
theorem dX5_wish_56 : decode cX5_wish 56 = .ok (.idiv, 1) := by decide +kernel
theorem dX5_wish_57 : decode cX5_wish 57 = .ok (.if_icmp .eq 7, 3) := by decide +kernel
theorem dX5_wish_60 : decode cX5_wish 60 = .ok (.iconst 1, 1) := by decide +kernel
theorem dX5_wish_61 : decode cX5_wish 61 = .ok (.goto 4, 3) := by decide +kernel
theorem dX5_wish_64 : decode cX5_wish 64 = .ok (.iconst 0, 1) := by decide +kernel
theorem dX5_wish_65 : decode cX5_wish 65 = .ok (.istore 4, 2) := by decide +kernel
theorem dX5_wish_67 : decode cX5_wish 67 = .ok (.iconst 0, 1) := by decide +kernel
theorem dX5_wish_68 : decode cX5_wish 68 = .ok (.istore 5, 2) := by decide +kernel
theorem dX5_wish_70 : decode cX5_wish 70 = .ok (.iload 5, 2) := by decide +kernel
theorem dX5_wish_72 : decode cX5_wish 72 = .ok (.aload_n 0, 1) := by decide +kernel
theorem dX5_wish_73 : decode cX5_wish 73 = .ok (.getfield 125, 3) := by decide +kernel
theorem dX5_wish_76 : decode cX5_wish 76 = .ok (.if_icmp .ge 32, 3) := by decide +kernel
theorem dX5_wish_79 : decode cX5_wish 79 = .ok (.iload 4, 2) := by decide +kernel
theorem dX5_wish_81 : decode cX5_wish 81 = .ok (.ifCond .ne 14, 3) := by decide +kernel
theorem dX5_wish_84 : decode cX5_wish 84 = .ok (.aload_n 0, 1) := by decide +kernel
theorem dX5_wish_85 : decode cX5_wish 85 = .ok (.getfield 33, 3) := by decide +kernel
theorem dX5_wish_88 : decode cX5_wish 88 = .ok (.iload 5, 2) := by decide +kernel
theorem dX5_wish_90 : decode cX5_wish 90 = .ok (.iaload, 1) := by decide +kernel
theorem dX5_wish_91 : decode cX5_wish 91 = .ok (.iload_n 3, 1) := by decide +kernel
theorem dX5_wish_92 : decode cX5_wish 92 = .ok (.if_icmp .ne 7, 3) := by decide +kernel
theorem dX5_wish_95 : decode cX5_wish 95 = .ok (.iconst 1, 1) := by decide +kernel
theorem dX5_wish_96 : decode cX5_wish 96 = .ok (.goto 4, 3) := by decide +kernel
theorem dX5_wish_99 : decode cX5_wish 99 = .ok (.iconst 0, 1) := by decide +kernel
theorem dX5_wish_100 : decode cX5_wish 100 = .ok (.istore 4, 2) := by decide +kernel
theorem dX5_wish_102 : decode cX5_wish 102 = .ok (.iinc 5 1, 3) := by decide +kernel
theorem dX5_wish_105 : decode cX5_wish 105 = .ok (.goto (-35), 3) := by decide +kernel
theorem dX5_wish_108 : decode cX5_wish 108 = .ok (.iload 4, 2) := by decide +kernel
theorem dX5_wish_110 : decode cX5_wish 110 = .ok (.ifCond .eq 9, 3) := by decide +kernel
theorem dX5_wish_113 : decode cX5_wish 113 = .ok (.aload_n 0, 1) := by decide +kernel
theorem dX5_wish_114 : decode cX5_wish 114 = .ok (.iconst 3, 1) := by decide +kernel
theorem dX5_wish_115 : decode cX5_wish 115 = .ok (.invokevirtual 87, 3) := by decide +kernel
theorem dX5_wish_118 : decode cX5_wish 118 = .ok (.ireturn, 1) := by decide +kernel
theorem dX5_wish_119 : decode cX5_wish 119 = .ok (.aload_n 0, 1) := by decide +kernel
theorem dX5_wish_120 : decode cX5_wish 120 = .ok (.getfield 125, 3) := by decide +kernel
theorem dX5_wish_123 : decode cX5_wish 123 = .ok (.bipush 8, 2) := by decide +kernel
theorem dX5_wish_125 : decode cX5_wish 125 = .ok (.if_icmp .ne 9, 3) := by decide +kernel
theorem dX5_wish_128 : decode cX5_wish 128 = .ok (.aload_n 0, 1) := by decide +kernel
theorem dX5_wish_129 : decode cX5_wish 129 = .ok (.iconst 4, 1) := by decide +kernel
theorem dX5_wish_130 : decode cX5_wish 130 = .ok (.invokevirtual 87, 3) := by decide +kernel
theorem dX5_wish_133 : decode cX5_wish 133 = .ok (.ireturn, 1) := by decide +kernel
theorem dX5_wish_134 : decode cX5_wish 134 = .ok (.aload_n 0, 1) := by decide +kernel
theorem dX5_wish_135 : decode cX5_wish 135 = .ok (.getfield 33, 3) := by decide +kernel
theorem dX5_wish_138 : decode cX5_wish 138 = .ok (.aload_n 0, 1) := by decide +kernel
theorem dX5_wish_139 : decode cX5_wish 139 = .ok (.getfield 125, 3) := by decide +kernel
theorem dX5_wish_142 : decode cX5_wish 142 = .ok (.iload_n 3, 1) := by decide +kernel
theorem dX5_wish_143 : decode cX5_wish 143 = .ok (.iastore, 1) := by decide +kernel
theorem dX5_wish_144 : decode cX5_wish 144 = .ok (.aload_n 0, 1) := by decide +kernel
theorem dX5_wish_145 : decode cX5_wish 145 = .ok (.getfield 36, 3) := by decide +kernel
theorem dX5_wish_148 : decode cX5_wish 148 = .ok (.aload_n 0, 1) := by decide +kernel
theorem dX5_wish_149 : decode cX5_wish 149 = .ok (.getfield 125, 3) := by decide +kernel
theorem dX5_wish_152 : decode cX5_wish 152 = .ok (.iload_n 2, 1) := by decide +kernel
theorem dX5_wish_153 : decode cX5_wish 153 = .ok (.iastore, 1) := by decide +kernel
theorem dX5_wish_154 : decode cX5_wish 154 = .ok (.aload_n 0, 1) := by decide +kernel
theorem dX5_wish_155 : decode cX5_wish 155 = .ok (.dup, 1) := by decide +kernel
theorem dX5_wish_156 : decode cX5_wish 156 = .ok (.getfield 125, 3) := by decide +kernel
theorem dX5_wish_159 : decode cX5_wish 159 = .ok (.iconst 1, 1) := by decide +kernel
theorem dX5_wish_160 : decode cX5_wish 160 = .ok (.iadd, 1) := by decide +kernel
theorem dX5_wish_161 : decode cX5_wish 161 = .ok (.putfield 125, 3) := by decide +kernel
theorem dX5_wish_164 : decode cX5_wish 164 = .ok (.aload_n 0, 1) := by decide +kernel
theorem dX5_wish_165 : decode cX5_wish 165 = .ok (.getfield 125, 3) := by decide +kernel
theorem dX5_wish_168 : decode cX5_wish 168 = .ok (.ireturn, 1) := by decide +kernel
theorem dX5_clear_0 : decode cX5_clear 0 = .ok (.aload_n 0, 1) := by decide +kernel
theorem dX5_clear_1 : decode cX5_clear 1 = .ok (.getfield 125, 3) := by decide +kernel
theorem dX5_clear_4 : decode cX5_clear 4 = .ok (.istore_n 1, 1) := by decide +kernel
theorem dX5_clear_5 : decode cX5_clear 5 = .ok (.aload_n 0, 1) := by decide +kernel
theorem dX5_clear_6 : decode cX5_clear 6 = .ok (.iconst 0, 1) := by decide +kernel
theorem dX5_clear_7 : decode cX5_clear 7 = .ok (.putfield 125, 3) := by decide +kernel
theorem dX5_clear_10 : decode cX5_clear 10 = .ok (.iload_n 1, 1) := by decide +kernel
theorem dX5_clear_11 : decode cX5_clear 11 = .ok (.ireturn, 1) := by decide +kernel
theorem dX5_fewest_0 : decode cX5_fewest 0 = .ok (.iconst 0, 1) := by decide +kernel
theorem dX5_fewest_1 : decode cX5_fewest 1 = .ok (.istore_n 3, 1) := by decide +kernel
theorem dX5_fewest_2 : decode cX5_fewest 2 = .ok (.iload_n 1, 1) := by decide +kernel
theorem dX5_fewest_3 : decode cX5_fewest 3 = .ok (.istore 4, 2) := by decide +kernel
theorem dX5_fewest_5 : decode cX5_fewest 5 = .ok (.iconst 1, 1) := by decide +kernel
theorem dX5_fewest_6 : decode cX5_fewest 6 = .ok (.istore 5, 2) := by decide +kernel
theorem dX5_fewest_8 : decode cX5_fewest 8 = .ok (.iload 5, 2) := by decide +kernel
theorem dX5_fewest_10 : decode cX5_fewest 10 = .ok (.ifCond .eq 113, 3) := by decide +kernel
theorem dX5_fewest_13 : decode cX5_fewest 13 = .ok (.iconst (-1), 1) := by decide +kernel
theorem dX5_fewest_14 : decode cX5_fewest 14 = .ok (.istore 6, 2) := by decide +kernel
theorem dX5_fewest_16 : decode cX5_fewest 16 = .ok (.iconst 0, 1) := by decide +kernel
theorem dX5_fewest_17 : decode cX5_fewest 17 = .ok (.istore 7, 2) := by decide +kernel
theorem dX5_fewest_19 : decode cX5_fewest 19 = .ok (.iload 7, 2) := by decide +kernel
theorem dX5_fewest_21 : decode cX5_fewest 21 = .ok (.aload_n 0, 1) := by decide +kernel
theorem dX5_fewest_22 : decode cX5_fewest 22 = .ok (.getfield 125, 3) := by decide +kernel
theorem dX5_fewest_25 : decode cX5_fewest 25 = .ok (.if_icmp .ge 55, 3) := by decide +kernel
theorem dX5_fewest_28 : decode cX5_fewest 28 = .ok (.aload_n 2, 1) := by decide +kernel
theorem dX5_fewest_29 : decode cX5_fewest 29 = .ok (.iload 7, 2) := by decide +kernel
theorem dX5_fewest_31 : decode cX5_fewest 31 = .ok (.baload, 1) := by decide +kernel
theorem dX5_fewest_32 : decode cX5_fewest 32 = .ok (.ifCond .ne 42, 3) := by decide +kernel
theorem dX5_fewest_35 : decode cX5_fewest 35 = .ok (.aload_n 0, 1) := by decide +kernel
theorem dX5_fewest_36 : decode cX5_fewest 36 = .ok (.getfield 39, 3) := by decide +kernel
theorem dX5_fewest_39 : decode cX5_fewest 39 = .ok (.iload 7, 2) := by decide +kernel
theorem dX5_fewest_41 : decode cX5_fewest 41 = .ok (.iaload, 1) := by decide +kernel
theorem dX5_fewest_42 : decode cX5_fewest 42 = .ok (.iload 4, 2) := by decide +kernel
theorem dX5_fewest_44 : decode cX5_fewest 44 = .ok (.if_icmp .le 30, 3) := by decide +kernel
theorem dX5_fewest_47 : decode cX5_fewest 47 = .ok (.iload 6, 2) := by decide +kernel
theorem dX5_fewest_49 : decode cX5_fewest 49 = .ok (.iconst (-1), 1) := by decide +kernel
theorem dX5_fewest_50 : decode cX5_fewest 50 = .ok (.if_icmp .eq 15, 3) := by decide +kernel
theorem dX5_fewest_53 : decode cX5_fewest 53 = .ok (.aload_n 0, 1) := by decide +kernel
theorem dX5_fewest_54 : decode cX5_fewest 54 = .ok (.getfield 42, 3) := by decide +kernel
theorem dX5_fewest_57 : decode cX5_fewest 57 = .ok (.iload 7, 2) := by decide +kernel
theorem dX5_fewest_59 : decode cX5_fewest 59 = .ok (.iaload, 1) := by decide +kernel
theorem dX5_fewest_60 : decode cX5_fewest 60 = .ok (.iload 6, 2) := by decide +kernel
theorem dX5_fewest_62 : decode cX5_fewest 62 = .ok (.if_icmp .ge 12, 3) := by decide +kernel
theorem dX5_fewest_65 : decode cX5_fewest 65 = .ok (.aload_n 0, 1) := by decide +kernel
theorem dX5_fewest_66 : decode cX5_fewest 66 = .ok (.getfield 42, 3) := by decide +kernel
theorem dX5_fewest_69 : decode cX5_fewest 69 = .ok (.iload 7, 2) := by decide +kernel
theorem dX5_fewest_71 : decode cX5_fewest 71 = .ok (.iaload, 1) := by decide +kernel
theorem dX5_fewest_72 : decode cX5_fewest 72 = .ok (.istore 6, 2) := by decide +kernel
theorem dX5_fewest_74 : decode cX5_fewest 74 = .ok (.iinc 7 1, 3) := by decide +kernel
theorem dX5_fewest_77 : decode cX5_fewest 77 = .ok (.goto (-58), 3) := by decide +kernel
theorem dX5_fewest_80 : decode cX5_fewest 80 = .ok (.iload 6, 2) := by decide +kernel
theorem dX5_fewest_82 : decode cX5_fewest 82 = .ok (.iconst (-1), 1) := by decide +kernel
theorem dX5_fewest_83 : decode cX5_fewest 83 = .ok (.if_icmp .eq 7, 3) := by decide +kernel
theorem dX5_fewest_86 : decode cX5_fewest 86 = .ok (.iconst 1, 1) := by decide +kernel
theorem dX5_fewest_87 : decode cX5_fewest 87 = .ok (.goto 4, 3) := by decide +kernel
theorem dX5_fewest_90 : decode cX5_fewest 90 = .ok (.iconst 0, 1) := by decide +kernel
theorem dX5_fewest_91 : decode cX5_fewest 91 = .ok (.istore 5, 2) := by decide +kernel
theorem dX5_fewest_93 : decode cX5_fewest 93 = .ok (.iload 5, 2) := by decide +kernel
theorem dX5_fewest_95 : decode cX5_fewest 95 = .ok (.ifCond .eq 8, 3) := by decide +kernel
theorem dX5_fewest_98 : decode cX5_fewest 98 = .ok (.iload 6, 2) := by decide +kernel
theorem dX5_fewest_100 : decode cX5_fewest 100 = .ok (.goto 5, 3) := by decide +kernel
theorem dX5_fewest_103 : decode cX5_fewest 103 = .ok (.iload 4, 2) := by decide +kernel
theorem dX5_fewest_105 : decode cX5_fewest 105 = .ok (.istore 4, 2) := by decide +kernel
theorem dX5_fewest_107 : decode cX5_fewest 107 = .ok (.iload_n 3, 1) := by decide +kernel
theorem dX5_fewest_108 : decode cX5_fewest 108 = .ok (.iload 5, 2) := by decide +kernel
theorem dX5_fewest_110 : decode cX5_fewest 110 = .ok (.ifCond .eq 7, 3) := by decide +kernel
theorem dX5_fewest_113 : decode cX5_fewest 113 = .ok (.iconst 1, 1) := by decide +kernel
theorem dX5_fewest_114 : decode cX5_fewest 114 = .ok (.goto 4, 3) := by decide +kernel
theorem dX5_fewest_117 : decode cX5_fewest 117 = .ok (.iconst 0, 1) := by decide +kernel
theorem dX5_fewest_118 : decode cX5_fewest 118 = .ok (.iadd, 1) := by decide +kernel
theorem dX5_fewest_119 : decode cX5_fewest 119 = .ok (.istore_n 3, 1) := by decide +kernel
theorem dX5_fewest_120 : decode cX5_fewest 120 = .ok (.goto (-112), 3) := by decide +kernel
theorem dX5_fewest_123 : decode cX5_fewest 123 = .ok (.iload_n 3, 1) := by decide +kernel
theorem dX5_fewest_124 : decode cX5_fewest 124 = .ok (.ireturn, 1) := by decide +kernel
theorem dX5_canBe_0 : decode cX5_canBe 0 = .ok (.iconst 0, 1) := by decide +kernel
theorem dX5_canBe_1 : decode cX5_canBe 1 = .ok (.istore_n 3, 1) := by decide +kernel
theorem dX5_canBe_2 : decode cX5_canBe 2 = .ok (.iload_n 3, 1) := by decide +kernel
theorem dX5_canBe_3 : decode cX5_canBe 3 = .ok (.aload_n 0, 1) := by decide +kernel
theorem dX5_canBe_4 : decode cX5_canBe 4 = .ok (.getfield 125, 3) := by decide +kernel
theorem dX5_canBe_7 : decode cX5_canBe 7 = .ok (.if_icmp .ge 69, 3) := by decide +kernel
theorem dX5_canBe_10 : decode cX5_canBe 10 = .ok (.aload_n 0, 1) := by decide +kernel
theorem dX5_canBe_11 : decode cX5_canBe 11 = .ok (.getfield 75, 3) := by decide +kernel
theorem dX5_canBe_14 : decode cX5_canBe 14 = .ok (.iload_n 3, 1) := by decide +kernel
theorem dX5_canBe_15 : decode cX5_canBe 15 = .ok (.aload_n 0, 1) := by decide +kernel
theorem dX5_canBe_16 : decode cX5_canBe 16 = .ok (.getfield 72, 3) := by decide +kernel
theorem dX5_canBe_19 : decode cX5_canBe 19 = .ok (.iload_n 3, 1) := by decide +kernel
theorem dX5_canBe_20 : decode cX5_canBe 20 = .ok (.baload, 1) := by decide +kernel
theorem dX5_canBe_21 : decode cX5_canBe 21 = .ok (.ifCond .ne 22, 3) := by decide +kernel
theorem dX5_canBe_24 : decode cX5_canBe 24 = .ok (.iload_n 1, 1) := by decide +kernel
theorem dX5_canBe_25 : decode cX5_canBe 25 = .ok (.aload_n 0, 1) := by decide +kernel
theorem dX5_canBe_26 : decode cX5_canBe 26 = .ok (.getfield 39, 3) := by decide +kernel
theorem dX5_canBe_29 : decode cX5_canBe 29 = .ok (.iload_n 3, 1) := by decide +kernel
theorem dX5_canBe_30 : decode cX5_canBe 30 = .ok (.iaload, 1) := by decide +kernel
theorem dX5_canBe_31 : decode cX5_canBe 31 = .ok (.aload_n 0, 1) := by decide +kernel
theorem dX5_canBe_32 : decode cX5_canBe 32 = .ok (.getfield 42, 3) := by decide +kernel
theorem dX5_canBe_35 : decode cX5_canBe 35 = .ok (.iload_n 3, 1) := by decide +kernel
theorem dX5_canBe_36 : decode cX5_canBe 36 = .ok (.iaload, 1) := by decide +kernel
theorem dX5_canBe_37 : decode cX5_canBe 37 = .ok (.invokestatic 79, 3) := by decide +kernel
theorem dX5_canBe_40 : decode cX5_canBe 40 = .ok (.ifCond .eq 7, 3) := by decide +kernel
theorem dX5_canBe_43 : decode cX5_canBe 43 = .ok (.iconst 1, 1) := by decide +kernel
theorem dX5_canBe_44 : decode cX5_canBe 44 = .ok (.goto 4, 3) := by decide +kernel
theorem dX5_canBe_47 : decode cX5_canBe 47 = .ok (.iconst 0, 1) := by decide +kernel
theorem dX5_canBe_48 : decode cX5_canBe 48 = .ok (.bastore, 1) := by decide +kernel
theorem dX5_canBe_49 : decode cX5_canBe 49 = .ok (.aload_n 0, 1) := by decide +kernel
theorem dX5_canBe_50 : decode cX5_canBe 50 = .ok (.getfield 75, 3) := by decide +kernel
theorem dX5_canBe_53 : decode cX5_canBe 53 = .ok (.iload_n 3, 1) := by decide +kernel
theorem dX5_canBe_54 : decode cX5_canBe 54 = .ok (.baload, 1) := by decide +kernel
theorem dX5_canBe_55 : decode cX5_canBe 55 = .ok (.ifCond .ne 15, 3) := by decide +kernel
theorem dX5_canBe_58 : decode cX5_canBe 58 = .ok (.aload_n 0, 1) := by decide +kernel
theorem dX5_canBe_59 : decode cX5_canBe 59 = .ok (.getfield 42, 3) := by decide +kernel
theorem dX5_canBe_62 : decode cX5_canBe 62 = .ok (.iload_n 3, 1) := by decide +kernel
theorem dX5_canBe_63 : decode cX5_canBe 63 = .ok (.iaload, 1) := by decide +kernel
theorem dX5_canBe_64 : decode cX5_canBe 64 = .ok (.iload_n 1, 1) := by decide +kernel
theorem dX5_canBe_65 : decode cX5_canBe 65 = .ok (.if_icmp .ge 5, 3) := by decide +kernel
theorem dX5_canBe_68 : decode cX5_canBe 68 = .ok (.iconst 0, 1) := by decide +kernel
theorem dX5_canBe_69 : decode cX5_canBe 69 = .ok (.ireturn, 1) := by decide +kernel
theorem dX5_canBe_70 : decode cX5_canBe 70 = .ok (.iinc 3 1, 3) := by decide +kernel
theorem dX5_canBe_73 : decode cX5_canBe 73 = .ok (.goto (-71), 3) := by decide +kernel
theorem dX5_canBe_76 : decode cX5_canBe 76 = .ok (.aload_n 0, 1) := by decide +kernel
theorem dX5_canBe_77 : decode cX5_canBe 77 = .ok (.iload_n 1, 1) := by decide +kernel
theorem dX5_canBe_78 : decode cX5_canBe 78 = .ok (.aload_n 0, 1) := by decide +kernel
theorem dX5_canBe_79 : decode cX5_canBe 79 = .ok (.getfield 75, 3) := by decide +kernel
theorem dX5_canBe_82 : decode cX5_canBe 82 = .ok (.invokevirtual 128, 3) := by decide +kernel
theorem dX5_canBe_85 : decode cX5_canBe 85 = .ok (.iload_n 2, 1) := by decide +kernel
theorem dX5_canBe_86 : decode cX5_canBe 86 = .ok (.if_icmp .gt 7, 3) := by decide +kernel
theorem dX5_canBe_89 : decode cX5_canBe 89 = .ok (.iconst 1, 1) := by decide +kernel
theorem dX5_canBe_90 : decode cX5_canBe 90 = .ok (.goto 4, 3) := by decide +kernel
theorem dX5_canBe_93 : decode cX5_canBe 93 = .ok (.iconst 0, 1) := by decide +kernel
theorem dX5_canBe_94 : decode cX5_canBe 94 = .ok (.ireturn, 1) := by decide +kernel
theorem dX5_plans_0 : decode cX5_plans 0 = .ok (.iconst 0, 1) := by decide +kernel
theorem dX5_plans_1 : decode cX5_plans 1 = .ok (.istore_n 1, 1) := by decide +kernel
theorem dX5_plans_2 : decode cX5_plans 2 = .ok (.iload_n 1, 1) := by decide +kernel
theorem dX5_plans_3 : decode cX5_plans 3 = .ok (.aload_n 0, 1) := by decide +kernel
theorem dX5_plans_4 : decode cX5_plans 4 = .ok (.getfield 125, 3) := by decide +kernel
theorem dX5_plans_7 : decode cX5_plans 7 = .ok (.if_icmp .ge 71, 3) := by decide +kernel
theorem dX5_plans_10 : decode cX5_plans 10 = .ok (.aload_n 0, 1) := by decide +kernel
theorem dX5_plans_11 : decode cX5_plans 11 = .ok (.getfield 19, 3) := by decide +kernel
theorem dX5_plans_14 : decode cX5_plans 14 = .ok (.aload_n 0, 1) := by decide +kernel
theorem dX5_plans_15 : decode cX5_plans 15 = .ok (.getfield 33, 3) := by decide +kernel
theorem dX5_plans_18 : decode cX5_plans 18 = .ok (.iload_n 1, 1) := by decide +kernel
theorem dX5_plans_19 : decode cX5_plans 19 = .ok (.iaload, 1) := by decide +kernel
theorem dX5_plans_20 : decode cX5_plans 20 = .ok (.baload, 1) := by decide +kernel
theorem dX5_plans_21 : decode cX5_plans 21 = .ok (.ifCond .ne 22, 3) := by decide +kernel
theorem dX5_plans_24 : decode cX5_plans 24 = .ok (.aload_n 0, 1) := by decide +kernel
theorem dX5_plans_25 : decode cX5_plans 25 = .ok (.aload_n 0, 1) := by decide +kernel
theorem dX5_plans_26 : decode cX5_plans 26 = .ok (.getfield 33, 3) := by decide +kernel
theorem dX5_plans_29 : decode cX5_plans 29 = .ok (.iload_n 1, 1) := by decide +kernel
theorem dX5_plans_30 : decode cX5_plans 30 = .ok (.iaload, 1) := by decide +kernel
theorem dX5_plans_31 : decode cX5_plans 31 = .ok (.aload_n 0, 1) := by decide +kernel
theorem dX5_plans_32 : decode cX5_plans 32 = .ok (.getfield 36, 3) := by decide +kernel
theorem dX5_plans_35 : decode cX5_plans 35 = .ok (.iload_n 1, 1) := by decide +kernel
theorem dX5_plans_36 : decode cX5_plans 36 = .ok (.iaload, 1) := by decide +kernel
theorem dX5_plans_37 : decode cX5_plans 37 = .ok (.invokevirtual 121, 3) := by decide +kernel
theorem dX5_plans_40 : decode cX5_plans 40 = .ok (.ifCond .ne 5, 3) := by decide +kernel
theorem dX5_plans_43 : decode cX5_plans 43 = .ok (.iconst 0, 1) := by decide +kernel
theorem dX5_plans_44 : decode cX5_plans 44 = .ok (.ireturn, 1) := by decide +kernel
theorem dX5_plans_45 : decode cX5_plans 45 = .ok (.aload_n 0, 1) := by decide +kernel
theorem dX5_plans_46 : decode cX5_plans 46 = .ok (.getfield 39, 3) := by decide +kernel
theorem dX5_plans_49 : decode cX5_plans 49 = .ok (.iload_n 1, 1) := by decide +kernel
theorem dX5_plans_50 : decode cX5_plans 50 = .ok (.aload_n 0, 1) := by decide +kernel
theorem dX5_plans_51 : decode cX5_plans 51 = .ok (.getfield 115, 3) := by decide +kernel
theorem dX5_plans_54 : decode cX5_plans 54 = .ok (.iastore, 1) := by decide +kernel
theorem dX5_plans_55 : decode cX5_plans 55 = .ok (.aload_n 0, 1) := by decide +kernel
theorem dX5_plans_56 : decode cX5_plans 56 = .ok (.getfield 42, 3) := by decide +kernel
theorem dX5_plans_59 : decode cX5_plans 59 = .ok (.iload_n 1, 1) := by decide +kernel
theorem dX5_plans_60 : decode cX5_plans 60 = .ok (.aload_n 0, 1) := by decide +kernel
theorem dX5_plans_61 : decode cX5_plans 61 = .ok (.getfield 118, 3) := by decide +kernel
theorem dX5_plans_64 : decode cX5_plans 64 = .ok (.iastore, 1) := by decide +kernel
theorem dX5_plans_65 : decode cX5_plans 65 = .ok (.aload_n 0, 1) := by decide +kernel
theorem dX5_plans_66 : decode cX5_plans 66 = .ok (.getfield 72, 3) := by decide +kernel
theorem dX5_plans_69 : decode cX5_plans 69 = .ok (.iload_n 1, 1) := by decide +kernel
theorem dX5_plans_70 : decode cX5_plans 70 = .ok (.iconst 0, 1) := by decide +kernel
theorem dX5_plans_71 : decode cX5_plans 71 = .ok (.bastore, 1) := by decide +kernel
theorem dX5_plans_72 : decode cX5_plans 72 = .ok (.iinc 1 1, 3) := by decide +kernel
theorem dX5_plans_75 : decode cX5_plans 75 = .ok (.goto (-73), 3) := by decide +kernel
theorem dX5_plans_78 : decode cX5_plans 78 = .ok (.aload_n 0, 1) := by decide +kernel
theorem dX5_plans_79 : decode cX5_plans 79 = .ok (.aload_n 0, 1) := by decide +kernel
theorem dX5_plans_80 : decode cX5_plans 80 = .ok (.iconst (-1), 1) := by decide +kernel
theorem dX5_plans_81 : decode cX5_plans 81 = .ok (.aload_n 0, 1) := by decide +kernel
theorem dX5_plans_82 : decode cX5_plans 82 = .ok (.getfield 72, 3) := by decide +kernel
theorem dX5_plans_85 : decode cX5_plans 85 = .ok (.invokevirtual 128, 3) := by decide +kernel
theorem dX5_plans_88 : decode cX5_plans 88 = .ok (.putfield 132, 3) := by decide +kernel
theorem dX5_plans_91 : decode cX5_plans 91 = .ok (.iconst (-1), 1) := by decide +kernel
theorem dX5_plans_92 : decode cX5_plans 92 = .ok (.istore_n 1, 1) := by decide +kernel
theorem dX5_plans_93 : decode cX5_plans 93 = .ok (.iconst 0, 1) := by decide +kernel
theorem dX5_plans_94 : decode cX5_plans 94 = .ok (.istore_n 2, 1) := by decide +kernel
theorem dX5_plans_95 : decode cX5_plans 95 = .ok (.iload_n 2, 1) := by decide +kernel
theorem dX5_plans_96 : decode cX5_plans 96 = .ok (.aload_n 0, 1) := by decide +kernel
theorem dX5_plans_97 : decode cX5_plans 97 = .ok (.getfield 132, 3) := by decide +kernel
theorem dX5_plans_100 : decode cX5_plans 100 = .ok (.if_icmp .ge 96, 3) := by decide +kernel
theorem dX5_plans_103 : decode cX5_plans 103 = .ok (.iinc 1 1, 3) := by decide +kernel
theorem dX5_plans_106 : decode cX5_plans 106 = .ok (.aload_n 0, 1) := by decide +kernel
theorem dX5_plans_107 : decode cX5_plans 107 = .ok (.iload_n 1, 1) := by decide +kernel
theorem dX5_plans_108 : decode cX5_plans 108 = .ok (.aload_n 0, 1) := by decide +kernel
theorem dX5_plans_109 : decode cX5_plans 109 = .ok (.getfield 132, 3) := by decide +kernel
theorem dX5_plans_112 : decode cX5_plans 112 = .ok (.iload_n 2, 1) := by decide +kernel
theorem dX5_plans_113 : decode cX5_plans 113 = .ok (.isub, 1) := by decide +kernel
theorem dX5_plans_114 : decode cX5_plans 114 = .ok (.iconst 1, 1) := by decide +kernel
theorem dX5_plans_115 : decode cX5_plans 115 = .ok (.isub, 1) := by decide +kernel
theorem dX5_plans_116 : decode cX5_plans 116 = .ok (.invokevirtual 135, 3) := by decide +kernel
theorem dX5_plans_119 : decode cX5_plans 119 = .ok (.ifCond .ne 9, 3) := by decide +kernel
theorem dX5_plans_122 : decode cX5_plans 122 = .ok (.iinc 1 1, 3) := by decide +kernel
theorem dX5_plans_125 : decode cX5_plans 125 = .ok (.goto (-19), 3) := by decide +kernel
theorem dX5_plans_128 : decode cX5_plans 128 = .ok (.aload_n 0, 1) := by decide +kernel
theorem dX5_plans_129 : decode cX5_plans 129 = .ok (.getfield 45, 3) := by decide +kernel
theorem dX5_plans_132 : decode cX5_plans 132 = .ok (.iload_n 2, 1) := by decide +kernel
theorem dX5_plans_133 : decode cX5_plans 133 = .ok (.iload_n 1, 1) := by decide +kernel
theorem dX5_plans_134 : decode cX5_plans 134 = .ok (.iastore, 1) := by decide +kernel
theorem dX5_plans_135 : decode cX5_plans 135 = .ok (.iconst 0, 1) := by decide +kernel
theorem dX5_plans_136 : decode cX5_plans 136 = .ok (.istore_n 3, 1) := by decide +kernel
theorem dX5_plans_137 : decode cX5_plans 137 = .ok (.iload_n 3, 1) := by decide +kernel
theorem dX5_plans_138 : decode cX5_plans 138 = .ok (.aload_n 0, 1) := by decide +kernel
theorem dX5_plans_139 : decode cX5_plans 139 = .ok (.getfield 125, 3) := by decide +kernel
theorem dX5_plans_142 : decode cX5_plans 142 = .ok (.if_icmp .ge 48, 3) := by decide +kernel
theorem dX5_plans_145 : decode cX5_plans 145 = .ok (.aload_n 0, 1) := by decide +kernel
theorem dX5_plans_146 : decode cX5_plans 146 = .ok (.getfield 72, 3) := by decide +kernel
theorem dX5_plans_149 : decode cX5_plans 149 = .ok (.iload_n 3, 1) := by decide +kernel
theorem dX5_plans_150 : decode cX5_plans 150 = .ok (.aload_n 0, 1) := by decide +kernel
theorem dX5_plans_151 : decode cX5_plans 151 = .ok (.getfield 72, 3) := by decide +kernel
theorem dX5_plans_154 : decode cX5_plans 154 = .ok (.iload_n 3, 1) := by decide +kernel
theorem dX5_plans_155 : decode cX5_plans 155 = .ok (.baload, 1) := by decide +kernel
theorem dX5_plans_156 : decode cX5_plans 156 = .ok (.ifCond .ne 22, 3) := by decide +kernel
theorem dX5_plans_159 : decode cX5_plans 159 = .ok (.iload_n 1, 1) := by decide +kernel
theorem dX5_plans_160 : decode cX5_plans 160 = .ok (.aload_n 0, 1) := by decide +kernel
theorem dX5_plans_161 : decode cX5_plans 161 = .ok (.getfield 39, 3) := by decide +kernel
theorem dX5_plans_164 : decode cX5_plans 164 = .ok (.iload_n 3, 1) := by decide +kernel
theorem dX5_plans_165 : decode cX5_plans 165 = .ok (.iaload, 1) := by decide +kernel
theorem dX5_plans_166 : decode cX5_plans 166 = .ok (.aload_n 0, 1) := by decide +kernel
theorem dX5_plans_167 : decode cX5_plans 167 = .ok (.getfield 42, 3) := by decide +kernel
theorem dX5_plans_170 : decode cX5_plans 170 = .ok (.iload_n 3, 1) := by decide +kernel
theorem dX5_plans_171 : decode cX5_plans 171 = .ok (.iaload, 1) := by decide +kernel
theorem dX5_plans_172 : decode cX5_plans 172 = .ok (.invokestatic 79, 3) := by decide +kernel
theorem dX5_plans_175 : decode cX5_plans 175 = .ok (.ifCond .eq 7, 3) := by decide +kernel
theorem dX5_plans_178 : decode cX5_plans 178 = .ok (.iconst 1, 1) := by decide +kernel
theorem dX5_plans_179 : decode cX5_plans 179 = .ok (.goto 4, 3) := by decide +kernel
theorem dX5_plans_182 : decode cX5_plans 182 = .ok (.iconst 0, 1) := by decide +kernel
theorem dX5_plans_183 : decode cX5_plans 183 = .ok (.bastore, 1) := by decide +kernel
theorem dX5_plans_184 : decode cX5_plans 184 = .ok (.iinc 3 1, 3) := by decide +kernel
theorem dX5_plans_187 : decode cX5_plans 187 = .ok (.goto (-50), 3) := by decide +kernel
theorem dX5_plans_190 : decode cX5_plans 190 = .ok (.iinc 2 1, 3) := by decide +kernel
theorem dX5_plans_193 : decode cX5_plans 193 = .ok (.goto (-98), 3) := by decide +kernel
theorem dX5_plans_196 : decode cX5_plans 196 = .ok (.iconst 1, 1) := by decide +kernel
theorem dX5_plans_197 : decode cX5_plans 197 = .ok (.ireturn, 1) := by decide +kernel
theorem dX5_baths_0 : decode cX5_baths 0 = .ok (.aload_n 0, 1) := by decide +kernel
theorem dX5_baths_1 : decode cX5_baths 1 = .ok (.invokevirtual 138, 3) := by decide +kernel
theorem dX5_baths_4 : decode cX5_baths 4 = .ok (.ifCond .eq 10, 3) := by decide +kernel
theorem dX5_baths_7 : decode cX5_baths 7 = .ok (.aload_n 0, 1) := by decide +kernel
theorem dX5_baths_8 : decode cX5_baths 8 = .ok (.getfield 132, 3) := by decide +kernel
theorem dX5_baths_11 : decode cX5_baths 11 = .ok (.goto 8, 3) := by decide +kernel
theorem dX5_baths_14 : decode cX5_baths 14 = .ok (.aload_n 0, 1) := by decide +kernel
theorem dX5_baths_15 : decode cX5_baths 15 = .ok (.iconst 2, 1) := by decide +kernel
theorem dX5_baths_16 : decode cX5_baths 16 = .ok (.invokevirtual 87, 3) := by decide +kernel
theorem dX5_baths_19 : decode cX5_baths 19 = .ok (.ireturn, 1) := by decide +kernel
theorem dX5_minute_0 : decode cX5_minute 0 = .ok (.iload_n 1, 1) := by decide +kernel
theorem dX5_minute_1 : decode cX5_minute 1 = .ok (.ifCond .ge 9, 3) := by decide +kernel
theorem dX5_minute_4 : decode cX5_minute 4 = .ok (.aload_n 0, 1) := by decide +kernel
theorem dX5_minute_5 : decode cX5_minute 5 = .ok (.iconst 1, 1) := by decide +kernel
theorem dX5_minute_6 : decode cX5_minute 6 = .ok (.invokevirtual 87, 3) := by decide +kernel
theorem dX5_minute_9 : decode cX5_minute 9 = .ok (.ireturn, 1) := by decide +kernel
theorem dX5_minute_10 : decode cX5_minute 10 = .ok (.aload_n 0, 1) := by decide +kernel
theorem dX5_minute_11 : decode cX5_minute 11 = .ok (.invokevirtual 138, 3) := by decide +kernel
theorem dX5_minute_14 : decode cX5_minute 14 = .ok (.ifCond .eq 20, 3) := by decide +kernel
theorem dX5_minute_17 : decode cX5_minute 17 = .ok (.iload_n 1, 1) := by decide +kernel
theorem dX5_minute_18 : decode cX5_minute 18 = .ok (.aload_n 0, 1) := by decide +kernel
theorem dX5_minute_19 : decode cX5_minute 19 = .ok (.getfield 132, 3) := by decide +kernel
theorem dX5_minute_22 : decode cX5_minute 22 = .ok (.if_icmp .ge 12, 3) := by decide +kernel
theorem dX5_minute_25 : decode cX5_minute 25 = .ok (.aload_n 0, 1) := by decide +kernel
theorem dX5_minute_26 : decode cX5_minute 26 = .ok (.getfield 45, 3) := by decide +kernel
theorem dX5_minute_29 : decode cX5_minute 29 = .ok (.iload_n 1, 1) := by decide +kernel
theorem dX5_minute_30 : decode cX5_minute 30 = .ok (.iaload, 1) := by decide +kernel
theorem dX5_minute_31 : decode cX5_minute 31 = .ok (.goto 8, 3) := by decide +kernel
theorem dX5_minute_34 : decode cX5_minute 34 = .ok (.aload_n 0, 1) := by decide +kernel
theorem dX5_minute_35 : decode cX5_minute 35 = .ok (.iconst 2, 1) := by decide +kernel
theorem dX5_minute_36 : decode cX5_minute 36 = .ok (.invokevirtual 87, 3) := by decide +kernel
theorem dX5_minute_39 : decode cX5_minute 39 = .ok (.ireturn, 1) := by decide +kernel
theorem dX5_work_0 : decode cX5_work 0 = .ok (.aload_n 0, 1) := by decide +kernel
theorem dX5_work_1 : decode cX5_work 1 = .ok (.invokevirtual 138, 3) := by decide +kernel
theorem dX5_work_4 : decode cX5_work 4 = .ok (.ifCond .ne 9, 3) := by decide +kernel
theorem dX5_work_7 : decode cX5_work 7 = .ok (.aload_n 0, 1) := by decide +kernel
theorem dX5_work_8 : decode cX5_work 8 = .ok (.iconst 2, 1) := by decide +kernel
theorem dX5_work_9 : decode cX5_work 9 = .ok (.invokevirtual 87, 3) := by decide +kernel
theorem dX5_work_12 : decode cX5_work 12 = .ok (.ireturn, 1) := by decide +kernel
theorem dX5_work_13 : decode cX5_work 13 = .ok (.iconst 0, 1) := by decide +kernel
theorem dX5_work_14 : decode cX5_work 14 = .ok (.istore_n 1, 1) := by decide +kernel
theorem dX5_work_15 : decode cX5_work 15 = .ok (.iconst 0, 1) := by decide +kernel
theorem dX5_work_16 : decode cX5_work 16 = .ok (.istore_n 2, 1) := by decide +kernel
theorem dX5_work_17 : decode cX5_work 17 = .ok (.iload_n 2, 1) := by decide +kernel
theorem dX5_work_18 : decode cX5_work 18 = .ok (.aload_n 0, 1) := by decide +kernel
theorem dX5_work_19 : decode cX5_work 19 = .ok (.getfield 132, 3) := by decide +kernel
theorem dX5_work_22 : decode cX5_work 22 = .ok (.if_icmp .ge 102, 3) := by decide +kernel
theorem dX5_work_25 : decode cX5_work 25 = .ok (.aload_n 0, 1) := by decide +kernel
theorem dX5_work_26 : decode cX5_work 26 = .ok (.aload_n 0, 1) := by decide +kernel
theorem dX5_work_27 : decode cX5_work 27 = .ok (.getfield 33, 3) := by decide +kernel
theorem dX5_work_30 : decode cX5_work 30 = .ok (.iconst 0, 1) := by decide +kernel
theorem dX5_work_31 : decode cX5_work 31 = .ok (.iaload, 1) := by decide +kernel
theorem dX5_work_32 : decode cX5_work 32 = .ok (.bipush 36, 2) := by decide +kernel
theorem dX5_work_34 : decode cX5_work 34 = .ok (.idiv, 1) := by decide +kernel
theorem dX5_work_35 : decode cX5_work 35 = .ok (.aload_n 0, 1) := by decide +kernel
theorem dX5_work_36 : decode cX5_work 36 = .ok (.getfield 45, 3) := by decide +kernel
theorem dX5_work_39 : decode cX5_work 39 = .ok (.iload_n 2, 1) := by decide +kernel
theorem dX5_work_40 : decode cX5_work 40 = .ok (.iaload, 1) := by decide +kernel
theorem dX5_work_41 : decode cX5_work 41 = .ok (.iload_n 1, 1) := by decide +kernel
theorem dX5_work_42 : decode cX5_work 42 = .ok (.isub, 1) := by decide +kernel
theorem dX5_work_43 : decode cX5_work 43 = .ok (.invokevirtual 108, 3) := by decide +kernel
theorem dX5_work_46 : decode cX5_work 46 = .ok (.aload_n 0, 1) := by decide +kernel
theorem dX5_work_47 : decode cX5_work 47 = .ok (.getfield 45, 3) := by decide +kernel
theorem dX5_work_50 : decode cX5_work 50 = .ok (.iload_n 2, 1) := by decide +kernel
theorem dX5_work_51 : decode cX5_work 51 = .ok (.iaload, 1) := by decide +kernel
theorem dX5_work_52 : decode cX5_work 52 = .ok (.istore_n 1, 1) := by decide +kernel
theorem dX5_work_53 : decode cX5_work 53 = .ok (.iconst 0, 1) := by decide +kernel
theorem dX5_work_54 : decode cX5_work 54 = .ok (.istore_n 3, 1) := by decide +kernel
theorem dX5_work_55 : decode cX5_work 55 = .ok (.iload_n 3, 1) := by decide +kernel
theorem dX5_work_56 : decode cX5_work 56 = .ok (.aload_n 0, 1) := by decide +kernel
theorem dX5_work_57 : decode cX5_work 57 = .ok (.getfield 125, 3) := by decide +kernel
theorem dX5_work_60 : decode cX5_work 60 = .ok (.if_icmp .ge 58, 3) := by decide +kernel
theorem dX5_work_63 : decode cX5_work 63 = .ok (.aload_n 0, 1) := by decide +kernel
theorem dX5_work_64 : decode cX5_work 64 = .ok (.getfield 19, 3) := by decide +kernel
theorem dX5_work_67 : decode cX5_work 67 = .ok (.aload_n 0, 1) := by decide +kernel
theorem dX5_work_68 : decode cX5_work 68 = .ok (.getfield 33, 3) := by decide +kernel
theorem dX5_work_71 : decode cX5_work 71 = .ok (.iload_n 3, 1) := by decide +kernel
theorem dX5_work_72 : decode cX5_work 72 = .ok (.iaload, 1) := by decide +kernel
theorem dX5_work_73 : decode cX5_work 73 = .ok (.aload_n 0, 1) := by decide +kernel
theorem dX5_work_74 : decode cX5_work 74 = .ok (.getfield 19, 3) := by decide +kernel
theorem dX5_work_77 : decode cX5_work 77 = .ok (.aload_n 0, 1) := by decide +kernel
theorem dX5_work_78 : decode cX5_work 78 = .ok (.getfield 33, 3) := by decide +kernel
theorem dX5_work_81 : decode cX5_work 81 = .ok (.iload_n 3, 1) := by decide +kernel
theorem dX5_work_82 : decode cX5_work 82 = .ok (.iaload, 1) := by decide +kernel
theorem dX5_work_83 : decode cX5_work 83 = .ok (.baload, 1) := by decide +kernel
theorem dX5_work_84 : decode cX5_work 84 = .ok (.ifCond .ne 22, 3) := by decide +kernel
theorem dX5_work_87 : decode cX5_work 87 = .ok (.iload_n 1, 1) := by decide +kernel
theorem dX5_work_88 : decode cX5_work 88 = .ok (.aload_n 0, 1) := by decide +kernel
theorem dX5_work_89 : decode cX5_work 89 = .ok (.getfield 39, 3) := by decide +kernel
theorem dX5_work_92 : decode cX5_work 92 = .ok (.iload_n 3, 1) := by decide +kernel
theorem dX5_work_93 : decode cX5_work 93 = .ok (.iaload, 1) := by decide +kernel
theorem dX5_work_94 : decode cX5_work 94 = .ok (.aload_n 0, 1) := by decide +kernel
theorem dX5_work_95 : decode cX5_work 95 = .ok (.getfield 42, 3) := by decide +kernel
theorem dX5_work_98 : decode cX5_work 98 = .ok (.iload_n 3, 1) := by decide +kernel
theorem dX5_work_99 : decode cX5_work 99 = .ok (.iaload, 1) := by decide +kernel
theorem dX5_work_100 : decode cX5_work 100 = .ok (.invokestatic 79, 3) := by decide +kernel
theorem dX5_work_103 : decode cX5_work 103 = .ok (.ifCond .eq 7, 3) := by decide +kernel
theorem dX5_work_106 : decode cX5_work 106 = .ok (.iconst 1, 1) := by decide +kernel
theorem dX5_work_107 : decode cX5_work 107 = .ok (.goto 4, 3) := by decide +kernel
theorem dX5_work_110 : decode cX5_work 110 = .ok (.iconst 0, 1) := by decide +kernel
theorem dX5_work_111 : decode cX5_work 111 = .ok (.bastore, 1) := by decide +kernel
theorem dX5_work_112 : decode cX5_work 112 = .ok (.iinc 3 1, 3) := by decide +kernel
theorem dX5_work_115 : decode cX5_work 115 = .ok (.goto (-60), 3) := by decide +kernel
theorem dX5_work_118 : decode cX5_work 118 = .ok (.iinc 2 1, 3) := by decide +kernel
theorem dX5_work_121 : decode cX5_work 121 = .ok (.goto (-104), 3) := by decide +kernel
theorem dX5_work_124 : decode cX5_work 124 = .ok (.aload_n 0, 1) := by decide +kernel
theorem dX5_work_125 : decode cX5_work 125 = .ok (.iconst 0, 1) := by decide +kernel
theorem dX5_work_126 : decode cX5_work 126 = .ok (.putfield 125, 3) := by decide +kernel
theorem dX5_work_129 : decode cX5_work 129 = .ok (.aload_n 0, 1) := by decide +kernel
theorem dX5_work_130 : decode cX5_work 130 = .ok (.getfield 132, 3) := by decide +kernel
theorem dX5_work_133 : decode cX5_work 133 = .ok (.ireturn, 1) := by decide +kernel
theorem dX5_copies_0 : decode cX5_copies 0 = .ok (.iconst 0, 1) := by decide +kernel
theorem dX5_copies_1 : decode cX5_copies 1 = .ok (.istore_n 3, 1) := by decide +kernel
theorem dX5_copies_2 : decode cX5_copies 2 = .ok (.iload_n 3, 1) := by decide +kernel
theorem dX5_copies_3 : decode cX5_copies 3 = .ok (.bipush 36, 2) := by decide +kernel
theorem dX5_copies_5 : decode cX5_copies 5 = .ok (.if_icmp .ge 73, 3) := by decide +kernel
theorem dX5_copies_8 : decode cX5_copies 8 = .ok (.aload_n 0, 1) := by decide +kernel
theorem dX5_copies_9 : decode cX5_copies 9 = .ok (.getfield 7, 3) := by decide +kernel
theorem dX5_copies_12 : decode cX5_copies 12 = .ok (.iload_n 2, 1) := by decide +kernel
theorem dX5_copies_13 : decode cX5_copies 13 = .ok (.iload_n 3, 1) := by decide +kernel
theorem dX5_copies_14 : decode cX5_copies 14 = .ok (.iadd, 1) := by decide +kernel
theorem dX5_copies_15 : decode cX5_copies 15 = .ok (.aload_n 0, 1) := by decide +kernel
theorem dX5_copies_16 : decode cX5_copies 16 = .ok (.getfield 7, 3) := by decide +kernel
theorem dX5_copies_19 : decode cX5_copies 19 = .ok (.iload_n 1, 1) := by decide +kernel
theorem dX5_copies_20 : decode cX5_copies 20 = .ok (.iload_n 3, 1) := by decide +kernel
theorem dX5_copies_21 : decode cX5_copies 21 = .ok (.iadd, 1) := by decide +kernel
theorem dX5_copies_22 : decode cX5_copies 22 = .ok (.iaload, 1) := by decide +kernel
theorem dX5_copies_23 : decode cX5_copies 23 = .ok (.iastore, 1) := by decide +kernel
theorem dX5_copies_24 : decode cX5_copies 24 = .ok (.aload_n 0, 1) := by decide +kernel
theorem dX5_copies_25 : decode cX5_copies 25 = .ok (.getfield 13, 3) := by decide +kernel
theorem dX5_copies_28 : decode cX5_copies 28 = .ok (.iload_n 2, 1) := by decide +kernel
theorem dX5_copies_29 : decode cX5_copies 29 = .ok (.iload_n 3, 1) := by decide +kernel
theorem dX5_copies_30 : decode cX5_copies 30 = .ok (.iadd, 1) := by decide +kernel
theorem dX5_copies_31 : decode cX5_copies 31 = .ok (.aload_n 0, 1) := by decide +kernel
theorem dX5_copies_32 : decode cX5_copies 32 = .ok (.getfield 13, 3) := by decide +kernel
theorem dX5_copies_35 : decode cX5_copies 35 = .ok (.iload_n 1, 1) := by decide +kernel
theorem dX5_copies_36 : decode cX5_copies 36 = .ok (.iload_n 3, 1) := by decide +kernel
theorem dX5_copies_37 : decode cX5_copies 37 = .ok (.iadd, 1) := by decide +kernel
theorem dX5_copies_38 : decode cX5_copies 38 = .ok (.iaload, 1) := by decide +kernel
theorem dX5_copies_39 : decode cX5_copies 39 = .ok (.iastore, 1) := by decide +kernel
theorem dX5_copies_40 : decode cX5_copies 40 = .ok (.aload_n 0, 1) := by decide +kernel
theorem dX5_copies_41 : decode cX5_copies 41 = .ok (.getfield 16, 3) := by decide +kernel
theorem dX5_copies_44 : decode cX5_copies 44 = .ok (.iload_n 2, 1) := by decide +kernel
theorem dX5_copies_45 : decode cX5_copies 45 = .ok (.iload_n 3, 1) := by decide +kernel
theorem dX5_copies_46 : decode cX5_copies 46 = .ok (.iadd, 1) := by decide +kernel
theorem dX5_copies_47 : decode cX5_copies 47 = .ok (.aload_n 0, 1) := by decide +kernel
theorem dX5_copies_48 : decode cX5_copies 48 = .ok (.getfield 16, 3) := by decide +kernel
theorem dX5_copies_51 : decode cX5_copies 51 = .ok (.iload_n 1, 1) := by decide +kernel
theorem dX5_copies_52 : decode cX5_copies 52 = .ok (.iload_n 3, 1) := by decide +kernel
theorem dX5_copies_53 : decode cX5_copies 53 = .ok (.iadd, 1) := by decide +kernel
theorem dX5_copies_54 : decode cX5_copies 54 = .ok (.iaload, 1) := by decide +kernel
theorem dX5_copies_55 : decode cX5_copies 55 = .ok (.iastore, 1) := by decide +kernel
theorem dX5_copies_56 : decode cX5_copies 56 = .ok (.aload_n 0, 1) := by decide +kernel
theorem dX5_copies_57 : decode cX5_copies 57 = .ok (.getfield 19, 3) := by decide +kernel
theorem dX5_copies_60 : decode cX5_copies 60 = .ok (.iload_n 2, 1) := by decide +kernel
theorem dX5_copies_61 : decode cX5_copies 61 = .ok (.iload_n 3, 1) := by decide +kernel
theorem dX5_copies_62 : decode cX5_copies 62 = .ok (.iadd, 1) := by decide +kernel
theorem dX5_copies_63 : decode cX5_copies 63 = .ok (.aload_n 0, 1) := by decide +kernel
theorem dX5_copies_64 : decode cX5_copies 64 = .ok (.getfield 19, 3) := by decide +kernel
theorem dX5_copies_67 : decode cX5_copies 67 = .ok (.iload_n 1, 1) := by decide +kernel
theorem dX5_copies_68 : decode cX5_copies 68 = .ok (.iload_n 3, 1) := by decide +kernel
theorem dX5_copies_69 : decode cX5_copies 69 = .ok (.iadd, 1) := by decide +kernel
theorem dX5_copies_70 : decode cX5_copies 70 = .ok (.baload, 1) := by decide +kernel
theorem dX5_copies_71 : decode cX5_copies 71 = .ok (.bastore, 1) := by decide +kernel
theorem dX5_copies_72 : decode cX5_copies 72 = .ok (.iinc 3 1, 3) := by decide +kernel
theorem dX5_copies_75 : decode cX5_copies 75 = .ok (.goto (-73), 3) := by decide +kernel
theorem dX5_copies_78 : decode cX5_copies 78 = .ok (.return_, 1) := by decide +kernel
theorem dX5_state_0 : decode cX5_state 0 = .ok (.bipush 108, 2) := by decide +kernel
theorem dX5_state_2 : decode cX5_state 2 = .ok (.bipush 108, 2) := by decide +kernel
theorem dX5_state_4 : decode cX5_state 4 = .ok (.iload_n 0, 1) := by decide +kernel
theorem dX5_state_5 : decode cX5_state 5 = .ok (.imul, 1) := by decide +kernel
theorem dX5_state_6 : decode cX5_state 6 = .ok (.iadd, 1) := by decide +kernel
theorem dX5_state_7 : decode cX5_state 7 = .ok (.ireturn, 1) := by decide +kernel
theorem dX5_keep_0 : decode cX5_keep 0 = .ok (.iload_n 1, 1) := by decide +kernel
theorem dX5_keep_1 : decode cX5_keep 1 = .ok (.iconst 0, 1) := by decide +kernel
theorem dX5_keep_2 : decode cX5_keep 2 = .ok (.iconst 3, 1) := by decide +kernel
theorem dX5_keep_3 : decode cX5_keep 3 = .ok (.invokestatic 79, 3) := by decide +kernel
theorem dX5_keep_6 : decode cX5_keep 6 = .ok (.ifCond .ne 9, 3) := by decide +kernel
theorem dX5_keep_9 : decode cX5_keep 9 = .ok (.aload_n 0, 1) := by decide +kernel
theorem dX5_keep_10 : decode cX5_keep 10 = .ok (.iconst 1, 1) := by decide +kernel
theorem dX5_keep_11 : decode cX5_keep 11 = .ok (.invokevirtual 87, 3) := by decide +kernel
theorem dX5_keep_14 : decode cX5_keep 14 = .ok (.ireturn, 1) := by decide +kernel
theorem dX5_keep_15 : decode cX5_keep 15 = .ok (.iconst 0, 1) := by decide +kernel
theorem dX5_keep_16 : decode cX5_keep 16 = .ok (.istore_n 2, 1) := by decide +kernel
theorem dX5_keep_17 : decode cX5_keep 17 = .ok (.iload_n 2, 1) := by decide +kernel
theorem dX5_keep_18 : decode cX5_keep 18 = .ok (.iconst 3, 1) := by decide +kernel
theorem dX5_keep_19 : decode cX5_keep 19 = .ok (.if_icmp .ge 26, 3) := by decide +kernel
theorem dX5_keep_22 : decode cX5_keep 22 = .ok (.aload_n 0, 1) := by decide +kernel
theorem dX5_keep_23 : decode cX5_keep 23 = .ok (.bipush 36, 2) := by decide +kernel
theorem dX5_keep_25 : decode cX5_keep 25 = .ok (.iload_n 2, 1) := by decide +kernel
theorem dX5_keep_26 : decode cX5_keep 26 = .ok (.imul, 1) := by decide +kernel
theorem dX5_keep_27 : decode cX5_keep 27 = .ok (.iload_n 1, 1) := by decide +kernel
theorem dX5_keep_28 : decode cX5_keep 28 = .ok (.invokestatic 142, 3) := by decide +kernel
theorem dX5_keep_31 : decode cX5_keep 31 = .ok (.bipush 36, 2) := by decide +kernel
theorem dX5_keep_33 : decode cX5_keep 33 = .ok (.iload_n 2, 1) := by decide +kernel
theorem dX5_keep_34 : decode cX5_keep 34 = .ok (.imul, 1) := by decide +kernel
theorem dX5_keep_35 : decode cX5_keep 35 = .ok (.iadd, 1) := by decide +kernel
theorem dX5_keep_36 : decode cX5_keep 36 = .ok (.invokevirtual 145, 3) := by decide +kernel
theorem dX5_keep_39 : decode cX5_keep 39 = .ok (.iinc 2 1, 3) := by decide +kernel
theorem dX5_keep_42 : decode cX5_keep 42 = .ok (.goto (-25), 3) := by decide +kernel
theorem dX5_keep_45 : decode cX5_keep 45 = .ok (.aload_n 0, 1) := by decide +kernel
theorem dX5_keep_46 : decode cX5_keep 46 = .ok (.getfield 23, 3) := by decide +kernel
theorem dX5_keep_49 : decode cX5_keep 49 = .ok (.iload_n 1, 1) := by decide +kernel
theorem dX5_keep_50 : decode cX5_keep 50 = .ok (.baload, 1) := by decide +kernel
theorem dX5_keep_51 : decode cX5_keep 51 = .ok (.istore_n 2, 1) := by decide +kernel
theorem dX5_keep_52 : decode cX5_keep 52 = .ok (.aload_n 0, 1) := by decide +kernel
theorem dX5_keep_53 : decode cX5_keep 53 = .ok (.getfield 23, 3) := by decide +kernel
theorem dX5_keep_56 : decode cX5_keep 56 = .ok (.iload_n 1, 1) := by decide +kernel
theorem dX5_keep_57 : decode cX5_keep 57 = .ok (.iconst 1, 1) := by decide +kernel
theorem dX5_keep_58 : decode cX5_keep 58 = .ok (.bastore, 1) := by decide +kernel
theorem dX5_keep_59 : decode cX5_keep 59 = .ok (.iload_n 2, 1) := by decide +kernel
theorem dX5_keep_60 : decode cX5_keep 60 = .ok (.ifCond .eq 7, 3) := by decide +kernel
theorem dX5_keep_63 : decode cX5_keep 63 = .ok (.iconst 0, 1) := by decide +kernel
theorem dX5_keep_64 : decode cX5_keep 64 = .ok (.goto 4, 3) := by decide +kernel
theorem dX5_keep_67 : decode cX5_keep 67 = .ok (.iconst 1, 1) := by decide +kernel
theorem dX5_keep_68 : decode cX5_keep 68 = .ok (.ireturn, 1) := by decide +kernel
theorem dX5_differ_0 : decode cX5_differ 0 = .ok (.iconst 0, 1) := by decide +kernel
theorem dX5_differ_1 : decode cX5_differ 1 = .ok (.istore_n 3, 1) := by decide +kernel
theorem dX5_differ_2 : decode cX5_differ 2 = .ok (.bipush 36, 2) := by decide +kernel
theorem dX5_differ_4 : decode cX5_differ 4 = .ok (.iload_n 1, 1) := by decide +kernel
theorem dX5_differ_5 : decode cX5_differ 5 = .ok (.imul, 1) := by decide +kernel
theorem dX5_differ_6 : decode cX5_differ 6 = .ok (.istore 4, 2) := by decide +kernel
theorem dX5_differ_8 : decode cX5_differ 8 = .ok (.iload 4, 2) := by decide +kernel
theorem dX5_differ_10 : decode cX5_differ 10 = .ok (.bipush 36, 2) := by decide +kernel
theorem dX5_differ_12 : decode cX5_differ 12 = .ok (.iload_n 1, 1) := by decide +kernel
theorem dX5_differ_13 : decode cX5_differ 13 = .ok (.imul, 1) := by decide +kernel
theorem dX5_differ_14 : decode cX5_differ 14 = .ok (.bipush 36, 2) := by decide +kernel
theorem dX5_differ_16 : decode cX5_differ 16 = .ok (.iadd, 1) := by decide +kernel
theorem dX5_differ_17 : decode cX5_differ 17 = .ok (.if_icmp .ge 77, 3) := by decide +kernel
theorem dX5_differ_20 : decode cX5_differ 20 = .ok (.iload_n 2, 1) := by decide +kernel
theorem dX5_differ_21 : decode cX5_differ 21 = .ok (.invokestatic 142, 3) := by decide +kernel
theorem dX5_differ_24 : decode cX5_differ 24 = .ok (.iload 4, 2) := by decide +kernel
theorem dX5_differ_26 : decode cX5_differ 26 = .ok (.iadd, 1) := by decide +kernel
theorem dX5_differ_27 : decode cX5_differ 27 = .ok (.istore 5, 2) := by decide +kernel
theorem dX5_differ_29 : decode cX5_differ 29 = .ok (.iload_n 3, 1) := by decide +kernel
theorem dX5_differ_30 : decode cX5_differ 30 = .ok (.aload_n 0, 1) := by decide +kernel
theorem dX5_differ_31 : decode cX5_differ 31 = .ok (.getfield 7, 3) := by decide +kernel
theorem dX5_differ_34 : decode cX5_differ 34 = .ok (.iload 4, 2) := by decide +kernel
theorem dX5_differ_36 : decode cX5_differ 36 = .ok (.iaload, 1) := by decide +kernel
theorem dX5_differ_37 : decode cX5_differ 37 = .ok (.aload_n 0, 1) := by decide +kernel
theorem dX5_differ_38 : decode cX5_differ 38 = .ok (.getfield 7, 3) := by decide +kernel
theorem dX5_differ_41 : decode cX5_differ 41 = .ok (.iload 5, 2) := by decide +kernel
theorem dX5_differ_43 : decode cX5_differ 43 = .ok (.iaload, 1) := by decide +kernel
theorem dX5_differ_44 : decode cX5_differ 44 = .ok (.if_icmp .ne 37, 3) := by decide +kernel
theorem dX5_differ_47 : decode cX5_differ 47 = .ok (.aload_n 0, 1) := by decide +kernel
theorem dX5_differ_48 : decode cX5_differ 48 = .ok (.getfield 13, 3) := by decide +kernel
theorem dX5_differ_51 : decode cX5_differ 51 = .ok (.iload 4, 2) := by decide +kernel
theorem dX5_differ_53 : decode cX5_differ 53 = .ok (.iaload, 1) := by decide +kernel
theorem dX5_differ_54 : decode cX5_differ 54 = .ok (.aload_n 0, 1) := by decide +kernel
theorem dX5_differ_55 : decode cX5_differ 55 = .ok (.getfield 13, 3) := by decide +kernel
theorem dX5_differ_58 : decode cX5_differ 58 = .ok (.iload 5, 2) := by decide +kernel
theorem dX5_differ_60 : decode cX5_differ 60 = .ok (.iaload, 1) := by decide +kernel
theorem dX5_differ_61 : decode cX5_differ 61 = .ok (.if_icmp .ne 20, 3) := by decide +kernel
theorem dX5_differ_64 : decode cX5_differ 64 = .ok (.aload_n 0, 1) := by decide +kernel
theorem dX5_differ_65 : decode cX5_differ 65 = .ok (.getfield 19, 3) := by decide +kernel
theorem dX5_differ_68 : decode cX5_differ 68 = .ok (.iload 4, 2) := by decide +kernel
theorem dX5_differ_70 : decode cX5_differ 70 = .ok (.baload, 1) := by decide +kernel
theorem dX5_differ_71 : decode cX5_differ 71 = .ok (.aload_n 0, 1) := by decide +kernel
theorem dX5_differ_72 : decode cX5_differ 72 = .ok (.getfield 19, 3) := by decide +kernel
theorem dX5_differ_75 : decode cX5_differ 75 = .ok (.iload 5, 2) := by decide +kernel
theorem dX5_differ_77 : decode cX5_differ 77 = .ok (.baload, 1) := by decide +kernel
theorem dX5_differ_78 : decode cX5_differ 78 = .ok (.if_icmp .eq 7, 3) := by decide +kernel
theorem dX5_differ_81 : decode cX5_differ 81 = .ok (.iconst 1, 1) := by decide +kernel
theorem dX5_differ_82 : decode cX5_differ 82 = .ok (.goto 4, 3) := by decide +kernel
theorem dX5_differ_85 : decode cX5_differ 85 = .ok (.iconst 0, 1) := by decide +kernel
theorem dX5_differ_86 : decode cX5_differ 86 = .ok (.iadd, 1) := by decide +kernel
theorem dX5_differ_87 : decode cX5_differ 87 = .ok (.istore_n 3, 1) := by decide +kernel
theorem dX5_differ_88 : decode cX5_differ 88 = .ok (.iinc 4 1, 3) := by decide +kernel
theorem dX5_differ_91 : decode cX5_differ 91 = .ok (.goto (-83), 3) := by decide +kernel
theorem dX5_differ_94 : decode cX5_differ 94 = .ok (.iload_n 3, 1) := by decide +kernel
theorem dX5_differ_95 : decode cX5_differ 95 = .ok (.ireturn, 1) := by decide +kernel
theorem dX5_changed_0 : decode cX5_changed 0 = .ok (.iload_n 1, 1) := by decide +kernel
theorem dX5_changed_1 : decode cX5_changed 1 = .ok (.invokestatic 97, 3) := by decide +kernel
theorem dX5_changed_4 : decode cX5_changed 4 = .ok (.ifCond .eq 12, 3) := by decide +kernel
theorem dX5_changed_7 : decode cX5_changed 7 = .ok (.iload_n 2, 1) := by decide +kernel
theorem dX5_changed_8 : decode cX5_changed 8 = .ok (.iconst 0, 1) := by decide +kernel
theorem dX5_changed_9 : decode cX5_changed 9 = .ok (.iconst 3, 1) := by decide +kernel
theorem dX5_changed_10 : decode cX5_changed 10 = .ok (.invokestatic 79, 3) := by decide +kernel
theorem dX5_changed_13 : decode cX5_changed 13 = .ok (.ifCond .ne 9, 3) := by decide +kernel
theorem dX5_changed_16 : decode cX5_changed 16 = .ok (.aload_n 0, 1) := by decide +kernel
theorem dX5_changed_17 : decode cX5_changed 17 = .ok (.iconst 1, 1) := by decide +kernel
theorem dX5_changed_18 : decode cX5_changed 18 = .ok (.invokevirtual 87, 3) := by decide +kernel
theorem dX5_changed_21 : decode cX5_changed 21 = .ok (.ireturn, 1) := by decide +kernel
theorem dX5_changed_22 : decode cX5_changed 22 = .ok (.aload_n 0, 1) := by decide +kernel
theorem dX5_changed_23 : decode cX5_changed 23 = .ok (.getfield 23, 3) := by decide +kernel
theorem dX5_changed_26 : decode cX5_changed 26 = .ok (.iload_n 2, 1) := by decide +kernel
theorem dX5_changed_27 : decode cX5_changed 27 = .ok (.baload, 1) := by decide +kernel
theorem dX5_changed_28 : decode cX5_changed 28 = .ok (.ifCond .eq 12, 3) := by decide +kernel
theorem dX5_changed_31 : decode cX5_changed 31 = .ok (.aload_n 0, 1) := by decide +kernel
theorem dX5_changed_32 : decode cX5_changed 32 = .ok (.iload_n 1, 1) := by decide +kernel
theorem dX5_changed_33 : decode cX5_changed 33 = .ok (.iload_n 2, 1) := by decide +kernel
theorem dX5_changed_34 : decode cX5_changed 34 = .ok (.invokevirtual 148, 3) := by decide +kernel
theorem dX5_changed_37 : decode cX5_changed 37 = .ok (.goto 8, 3) := by decide +kernel
theorem dX5_changed_40 : decode cX5_changed 40 = .ok (.aload_n 0, 1) := by decide +kernel
theorem dX5_changed_41 : decode cX5_changed 41 = .ok (.iconst 2, 1) := by decide +kernel
theorem dX5_changed_42 : decode cX5_changed 42 = .ok (.invokevirtual 87, 3) := by decide +kernel
theorem dX5_changed_45 : decode cX5_changed 45 = .ok (.ireturn, 1) := by decide +kernel
theorem dX5_back_0 : decode cX5_back 0 = .ok (.iload_n 1, 1) := by decide +kernel
theorem dX5_back_1 : decode cX5_back 1 = .ok (.invokestatic 97, 3) := by decide +kernel
theorem dX5_back_4 : decode cX5_back 4 = .ok (.ifCond .eq 12, 3) := by decide +kernel
theorem dX5_back_7 : decode cX5_back 7 = .ok (.iload_n 2, 1) := by decide +kernel
theorem dX5_back_8 : decode cX5_back 8 = .ok (.iconst 0, 1) := by decide +kernel
theorem dX5_back_9 : decode cX5_back 9 = .ok (.iconst 3, 1) := by decide +kernel
theorem dX5_back_10 : decode cX5_back 10 = .ok (.invokestatic 79, 3) := by decide +kernel
theorem dX5_back_13 : decode cX5_back 13 = .ok (.ifCond .ne 9, 3) := by decide +kernel
theorem dX5_back_16 : decode cX5_back 16 = .ok (.aload_n 0, 1) := by decide +kernel
theorem dX5_back_17 : decode cX5_back 17 = .ok (.iconst 1, 1) := by decide +kernel
theorem dX5_back_18 : decode cX5_back 18 = .ok (.invokevirtual 87, 3) := by decide +kernel
theorem dX5_back_21 : decode cX5_back 21 = .ok (.ireturn, 1) := by decide +kernel
theorem dX5_back_22 : decode cX5_back 22 = .ok (.aload_n 0, 1) := by decide +kernel
theorem dX5_back_23 : decode cX5_back 23 = .ok (.getfield 23, 3) := by decide +kernel
theorem dX5_back_26 : decode cX5_back 26 = .ok (.iload_n 2, 1) := by decide +kernel
theorem dX5_back_27 : decode cX5_back 27 = .ok (.baload, 1) := by decide +kernel
theorem dX5_back_28 : decode cX5_back 28 = .ok (.ifCond .ne 9, 3) := by decide +kernel
theorem dX5_back_31 : decode cX5_back 31 = .ok (.aload_n 0, 1) := by decide +kernel
theorem dX5_back_32 : decode cX5_back 32 = .ok (.iconst 2, 1) := by decide +kernel
theorem dX5_back_33 : decode cX5_back 33 = .ok (.invokevirtual 87, 3) := by decide +kernel
theorem dX5_back_36 : decode cX5_back 36 = .ok (.ireturn, 1) := by decide +kernel
theorem dX5_back_37 : decode cX5_back 37 = .ok (.aload_n 0, 1) := by decide +kernel
theorem dX5_back_38 : decode cX5_back 38 = .ok (.iload_n 1, 1) := by decide +kernel
theorem dX5_back_39 : decode cX5_back 39 = .ok (.iload_n 2, 1) := by decide +kernel
theorem dX5_back_40 : decode cX5_back 40 = .ok (.invokevirtual 148, 3) := by decide +kernel
theorem dX5_back_43 : decode cX5_back 43 = .ok (.istore_n 3, 1) := by decide +kernel
theorem dX5_back_44 : decode cX5_back 44 = .ok (.aload_n 0, 1) := by decide +kernel
theorem dX5_back_45 : decode cX5_back 45 = .ok (.iload_n 2, 1) := by decide +kernel
theorem dX5_back_46 : decode cX5_back 46 = .ok (.invokestatic 142, 3) := by decide +kernel
theorem dX5_back_49 : decode cX5_back 49 = .ok (.bipush 36, 2) := by decide +kernel
theorem dX5_back_51 : decode cX5_back 51 = .ok (.iload_n 1, 1) := by decide +kernel
theorem dX5_back_52 : decode cX5_back 52 = .ok (.imul, 1) := by decide +kernel
theorem dX5_back_53 : decode cX5_back 53 = .ok (.iadd, 1) := by decide +kernel
theorem dX5_back_54 : decode cX5_back 54 = .ok (.bipush 36, 2) := by decide +kernel
theorem dX5_back_56 : decode cX5_back 56 = .ok (.iload_n 1, 1) := by decide +kernel
theorem dX5_back_57 : decode cX5_back 57 = .ok (.imul, 1) := by decide +kernel
theorem dX5_back_58 : decode cX5_back 58 = .ok (.invokevirtual 145, 3) := by decide +kernel
theorem dX5_back_61 : decode cX5_back 61 = .ok (.iload_n 3, 1) := by decide +kernel
theorem dX5_back_62 : decode cX5_back 62 = .ok (.ireturn, 1) := by decide +kernel
theorem dX5_offset_0 : decode cX5_offset 0 = .ok (.iload_n 1, 1) := by decide +kernel
theorem dX5_offset_1 : decode cX5_offset 1 = .ok (.invokestatic 97, 3) := by decide +kernel
theorem dX5_offset_4 : decode cX5_offset 4 = .ok (.ifCond .eq 21, 3) := by decide +kernel
theorem dX5_offset_7 : decode cX5_offset 7 = .ok (.iload_n 2, 1) := by decide +kernel
theorem dX5_offset_8 : decode cX5_offset 8 = .ok (.iconst (-1), 1) := by decide +kernel
theorem dX5_offset_9 : decode cX5_offset 9 = .ok (.iconst 1, 1) := by decide +kernel
theorem dX5_offset_10 : decode cX5_offset 10 = .ok (.invokestatic 79, 3) := by decide +kernel
theorem dX5_offset_13 : decode cX5_offset 13 = .ok (.ifCond .eq 12, 3) := by decide +kernel
theorem dX5_offset_16 : decode cX5_offset 16 = .ok (.iload_n 3, 1) := by decide +kernel
theorem dX5_offset_17 : decode cX5_offset 17 = .ok (.iconst (-1), 1) := by decide +kernel
theorem dX5_offset_18 : decode cX5_offset 18 = .ok (.iconst 1, 1) := by decide +kernel
theorem dX5_offset_19 : decode cX5_offset 19 = .ok (.invokestatic 79, 3) := by decide +kernel
theorem dX5_offset_22 : decode cX5_offset 22 = .ok (.ifCond .ne 9, 3) := by decide +kernel
theorem dX5_offset_25 : decode cX5_offset 25 = .ok (.aload_n 0, 1) := by decide +kernel
theorem dX5_offset_26 : decode cX5_offset 26 = .ok (.iconst 1, 1) := by decide +kernel
theorem dX5_offset_27 : decode cX5_offset 27 = .ok (.invokevirtual 87, 3) := by decide +kernel
theorem dX5_offset_30 : decode cX5_offset 30 = .ok (.ireturn, 1) := by decide +kernel
theorem dX5_offset_31 : decode cX5_offset 31 = .ok (.aload_n 0, 1) := by decide +kernel
theorem dX5_offset_32 : decode cX5_offset 32 = .ok (.getfield 48, 3) := by decide +kernel
theorem dX5_offset_35 : decode cX5_offset 35 = .ok (.iload_n 1, 1) := by decide +kernel
theorem dX5_offset_36 : decode cX5_offset 36 = .ok (.iload_n 2, 1) := by decide +kernel
theorem dX5_offset_37 : decode cX5_offset 37 = .ok (.iastore, 1) := by decide +kernel
theorem dX5_offset_38 : decode cX5_offset 38 = .ok (.aload_n 0, 1) := by decide +kernel
theorem dX5_offset_39 : decode cX5_offset 39 = .ok (.getfield 51, 3) := by decide +kernel
theorem dX5_offset_42 : decode cX5_offset 42 = .ok (.iload_n 1, 1) := by decide +kernel
theorem dX5_offset_43 : decode cX5_offset 43 = .ok (.iload_n 3, 1) := by decide +kernel
theorem dX5_offset_44 : decode cX5_offset 44 = .ok (.iastore, 1) := by decide +kernel
theorem dX5_offset_45 : decode cX5_offset 45 = .ok (.iconst 1, 1) := by decide +kernel
theorem dX5_offset_46 : decode cX5_offset 46 = .ok (.ireturn, 1) := by decide +kernel
theorem dX5_ink_0 : decode cX5_ink 0 = .ok (.iload_n 2, 1) := by decide +kernel
theorem dX5_ink_1 : decode cX5_ink 1 = .ok (.bipush 6, 2) := by decide +kernel
theorem dX5_ink_3 : decode cX5_ink 3 = .ok (.idiv, 1) := by decide +kernel
theorem dX5_ink_4 : decode cX5_ink 4 = .ok (.aload_n 0, 1) := by decide +kernel
theorem dX5_ink_5 : decode cX5_ink 5 = .ok (.getfield 48, 3) := by decide +kernel
theorem dX5_ink_8 : decode cX5_ink 8 = .ok (.iload_n 1, 1) := by decide +kernel
theorem dX5_ink_9 : decode cX5_ink 9 = .ok (.iaload, 1) := by decide +kernel
theorem dX5_ink_10 : decode cX5_ink 10 = .ok (.isub, 1) := by decide +kernel
theorem dX5_ink_11 : decode cX5_ink 11 = .ok (.istore_n 3, 1) := by decide +kernel
theorem dX5_ink_12 : decode cX5_ink 12 = .ok (.iconst 5, 1) := by decide +kernel
theorem dX5_ink_13 : decode cX5_ink 13 = .ok (.iload_n 2, 1) := by decide +kernel
theorem dX5_ink_14 : decode cX5_ink 14 = .ok (.bipush 6, 2) := by decide +kernel
theorem dX5_ink_16 : decode cX5_ink 16 = .ok (.irem, 1) := by decide +kernel
theorem dX5_ink_17 : decode cX5_ink 17 = .ok (.aload_n 0, 1) := by decide +kernel
theorem dX5_ink_18 : decode cX5_ink 18 = .ok (.getfield 51, 3) := by decide +kernel
theorem dX5_ink_21 : decode cX5_ink 21 = .ok (.iload_n 1, 1) := by decide +kernel
theorem dX5_ink_22 : decode cX5_ink 22 = .ok (.iaload, 1) := by decide +kernel
theorem dX5_ink_23 : decode cX5_ink 23 = .ok (.isub, 1) := by decide +kernel
theorem dX5_ink_24 : decode cX5_ink 24 = .ok (.isub, 1) := by decide +kernel
theorem dX5_ink_25 : decode cX5_ink 25 = .ok (.istore 4, 2) := by decide +kernel
theorem dX5_ink_27 : decode cX5_ink 27 = .ok (.iload_n 3, 1) := by decide +kernel
theorem dX5_ink_28 : decode cX5_ink 28 = .ok (.iconst 0, 1) := by decide +kernel
theorem dX5_ink_29 : decode cX5_ink 29 = .ok (.iconst 5, 1) := by decide +kernel
theorem dX5_ink_30 : decode cX5_ink 30 = .ok (.invokestatic 79, 3) := by decide +kernel
theorem dX5_ink_33 : decode cX5_ink 33 = .ok (.ifCond .eq 36, 3) := by decide +kernel
theorem dX5_ink_36 : decode cX5_ink 36 = .ok (.iload 4, 2) := by decide +kernel
theorem dX5_ink_38 : decode cX5_ink 38 = .ok (.iconst 0, 1) := by decide +kernel
theorem dX5_ink_39 : decode cX5_ink 39 = .ok (.iconst 5, 1) := by decide +kernel
theorem dX5_ink_40 : decode cX5_ink 40 = .ok (.invokestatic 79, 3) := by decide +kernel
theorem dX5_ink_43 : decode cX5_ink 43 = .ok (.ifCond .eq 26, 3) := by decide +kernel
theorem dX5_ink_46 : decode cX5_ink 46 = .ok (.aload_n 0, 1) := by decide +kernel
theorem dX5_ink_47 : decode cX5_ink 47 = .ok (.getfield 13, 3) := by decide +kernel
theorem dX5_ink_50 : decode cX5_ink 50 = .ok (.bipush 36, 2) := by decide +kernel
theorem dX5_ink_52 : decode cX5_ink 52 = .ok (.iload_n 1, 1) := by decide +kernel
theorem dX5_ink_53 : decode cX5_ink 53 = .ok (.imul, 1) := by decide +kernel
theorem dX5_ink_54 : decode cX5_ink 54 = .ok (.bipush 6, 2) := by decide +kernel
theorem dX5_ink_56 : decode cX5_ink 56 = .ok (.iload_n 3, 1) := by decide +kernel
theorem dX5_ink_57 : decode cX5_ink 57 = .ok (.imul, 1) := by decide +kernel
theorem dX5_ink_58 : decode cX5_ink 58 = .ok (.iadd, 1) := by decide +kernel
theorem dX5_ink_59 : decode cX5_ink 59 = .ok (.iload 4, 2) := by decide +kernel
theorem dX5_ink_61 : decode cX5_ink 61 = .ok (.iadd, 1) := by decide +kernel
theorem dX5_ink_62 : decode cX5_ink 62 = .ok (.iaload, 1) := by decide +kernel
theorem dX5_ink_63 : decode cX5_ink 63 = .ok (.invokestatic 112, 3) := by decide +kernel
theorem dX5_ink_66 : decode cX5_ink 66 = .ok (.goto 4, 3) := by decide +kernel
theorem dX5_ink_69 : decode cX5_ink 69 = .ok (.iconst 0, 1) := by decide +kernel
theorem dX5_ink_70 : decode cX5_ink 70 = .ok (.ireturn, 1) := by decide +kernel
theorem dX5_colourAt_0 : decode cX5_colourAt 0 = .ok (.aload_n 0, 1) := by decide +kernel
theorem dX5_colourAt_1 : decode cX5_colourAt 1 = .ok (.iconst 0, 1) := by decide +kernel
theorem dX5_colourAt_2 : decode cX5_colourAt 2 = .ok (.iload_n 1, 1) := by decide +kernel
theorem dX5_colourAt_3 : decode cX5_colourAt 3 = .ok (.invokevirtual 152, 3) := by decide +kernel
theorem dX5_colourAt_6 : decode cX5_colourAt 6 = .ok (.bipush 16, 2) := by decide +kernel
theorem dX5_colourAt_8 : decode cX5_colourAt 8 = .ok (.aload_n 0, 1) := by decide +kernel
theorem dX5_colourAt_9 : decode cX5_colourAt 9 = .ok (.iconst 1, 1) := by decide +kernel
theorem dX5_colourAt_10 : decode cX5_colourAt 10 = .ok (.iload_n 1, 1) := by decide +kernel
theorem dX5_colourAt_11 : decode cX5_colourAt 11 = .ok (.invokevirtual 152, 3) := by decide +kernel
theorem dX5_colourAt_14 : decode cX5_colourAt 14 = .ok (.imul, 1) := by decide +kernel
theorem dX5_colourAt_15 : decode cX5_colourAt 15 = .ok (.iadd, 1) := by decide +kernel
theorem dX5_colourAt_16 : decode cX5_colourAt 16 = .ok (.sipush 256, 3) := by decide +kernel
theorem dX5_colourAt_19 : decode cX5_colourAt 19 = .ok (.aload_n 0, 1) := by decide +kernel
theorem dX5_colourAt_20 : decode cX5_colourAt 20 = .ok (.iconst 2, 1) := by decide +kernel
theorem dX5_colourAt_21 : decode cX5_colourAt 21 = .ok (.iload_n 1, 1) := by decide +kernel
theorem dX5_colourAt_22 : decode cX5_colourAt 22 = .ok (.invokevirtual 152, 3) := by decide +kernel
theorem dX5_colourAt_25 : decode cX5_colourAt 25 = .ok (.imul, 1) := by decide +kernel
theorem dX5_colourAt_26 : decode cX5_colourAt 26 = .ok (.iadd, 1) := by decide +kernel
theorem dX5_colourAt_27 : decode cX5_colourAt 27 = .ok (.ireturn, 1) := by decide +kernel
theorem dX5_colour_0 : decode cX5_colour 0 = .ok (.iload_n 1, 1) := by decide +kernel
theorem dX5_colour_1 : decode cX5_colour 1 = .ok (.iconst 0, 1) := by decide +kernel
theorem dX5_colour_2 : decode cX5_colour 2 = .ok (.bipush 35, 2) := by decide +kernel
theorem dX5_colour_4 : decode cX5_colour 4 = .ok (.invokestatic 79, 3) := by decide +kernel
theorem dX5_colour_7 : decode cX5_colour 7 = .ok (.ifCond .eq 11, 3) := by decide +kernel
theorem dX5_colour_10 : decode cX5_colour 10 = .ok (.aload_n 0, 1) := by decide +kernel
theorem dX5_colour_11 : decode cX5_colour 11 = .ok (.iload_n 1, 1) := by decide +kernel
theorem dX5_colour_12 : decode cX5_colour 12 = .ok (.invokevirtual 155, 3) := by decide +kernel
theorem dX5_colour_15 : decode cX5_colour 15 = .ok (.goto 8, 3) := by decide +kernel
theorem dX5_colour_18 : decode cX5_colour 18 = .ok (.aload_n 0, 1) := by decide +kernel
theorem dX5_colour_19 : decode cX5_colour 19 = .ok (.iconst 1, 1) := by decide +kernel
theorem dX5_colour_20 : decode cX5_colour 20 = .ok (.invokevirtual 87, 3) := by decide +kernel
theorem dX5_colour_23 : decode cX5_colour 23 = .ok (.ireturn, 1) := by decide +kernel
theorem dX5_steel_0 : decode cX5_steel 0 = .ok (.iload_n 1, 1) := by decide +kernel
theorem dX5_steel_1 : decode cX5_steel 1 = .ok (.invokestatic 97, 3) := by decide +kernel
theorem dX5_steel_4 : decode cX5_steel 4 = .ok (.ifCond .eq 12, 3) := by decide +kernel
theorem dX5_steel_7 : decode cX5_steel 7 = .ok (.iload_n 2, 1) := by decide +kernel
theorem dX5_steel_8 : decode cX5_steel 8 = .ok (.iconst 0, 1) := by decide +kernel
theorem dX5_steel_9 : decode cX5_steel 9 = .ok (.iconst 1, 1) := by decide +kernel
theorem dX5_steel_10 : decode cX5_steel 10 = .ok (.invokestatic 79, 3) := by decide +kernel
theorem dX5_steel_13 : decode cX5_steel 13 = .ok (.ifCond .ne 9, 3) := by decide +kernel
theorem dX5_steel_16 : decode cX5_steel 16 = .ok (.aload_n 0, 1) := by decide +kernel
theorem dX5_steel_17 : decode cX5_steel 17 = .ok (.iconst 1, 1) := by decide +kernel
theorem dX5_steel_18 : decode cX5_steel 18 = .ok (.invokevirtual 87, 3) := by decide +kernel
theorem dX5_steel_21 : decode cX5_steel 21 = .ok (.ireturn, 1) := by decide +kernel
theorem dX5_steel_22 : decode cX5_steel 22 = .ok (.aload_n 0, 1) := by decide +kernel
theorem dX5_steel_23 : decode cX5_steel 23 = .ok (.getfield 54, 3) := by decide +kernel
theorem dX5_steel_26 : decode cX5_steel 26 = .ok (.iload_n 1, 1) := by decide +kernel
theorem dX5_steel_27 : decode cX5_steel 27 = .ok (.iaload, 1) := by decide +kernel
theorem dX5_steel_28 : decode cX5_steel 28 = .ok (.istore_n 3, 1) := by decide +kernel
theorem dX5_steel_29 : decode cX5_steel 29 = .ok (.aload_n 0, 1) := by decide +kernel
theorem dX5_steel_30 : decode cX5_steel 30 = .ok (.getfield 54, 3) := by decide +kernel
theorem dX5_steel_33 : decode cX5_steel 33 = .ok (.iload_n 1, 1) := by decide +kernel
theorem dX5_steel_34 : decode cX5_steel 34 = .ok (.iload_n 2, 1) := by decide +kernel
theorem dX5_steel_35 : decode cX5_steel 35 = .ok (.iconst 1, 1) := by decide +kernel
theorem dX5_steel_36 : decode cX5_steel 36 = .ok (.if_icmp .ne 8, 3) := by decide +kernel
theorem dX5_steel_39 : decode cX5_steel 39 = .ok (.bipush 100, 2) := by decide +kernel
theorem dX5_steel_41 : decode cX5_steel 41 = .ok (.goto 4, 3) := by decide +kernel
theorem dX5_steel_44 : decode cX5_steel 44 = .ok (.iconst 0, 1) := by decide +kernel
theorem dX5_steel_45 : decode cX5_steel 45 = .ok (.iastore, 1) := by decide +kernel
theorem dX5_steel_46 : decode cX5_steel 46 = .ok (.iload_n 3, 1) := by decide +kernel
theorem dX5_steel_47 : decode cX5_steel 47 = .ok (.ireturn, 1) := by decide +kernel
theorem dX5_wears_0 : decode cX5_wears 0 = .ok (.aload_n 0, 1) := by decide +kernel
theorem dX5_wears_1 : decode cX5_wears 1 = .ok (.getfield 54, 3) := by decide +kernel
theorem dX5_wears_4 : decode cX5_wears 4 = .ok (.iload_n 1, 1) := by decide +kernel
theorem dX5_wears_5 : decode cX5_wears 5 = .ok (.iaload, 1) := by decide +kernel
theorem dX5_wears_6 : decode cX5_wears 6 = .ok (.ifCond .le 14, 3) := by decide +kernel
theorem dX5_wears_9 : decode cX5_wears 9 = .ok (.aload_n 0, 1) := by decide +kernel
theorem dX5_wears_10 : decode cX5_wears 10 = .ok (.getfield 54, 3) := by decide +kernel
theorem dX5_wears_13 : decode cX5_wears 13 = .ok (.iload_n 1, 1) := by decide +kernel
theorem dX5_wears_14 : decode cX5_wears 14 = .ok (.dup2, 1) := by decide +kernel
theorem dX5_wears_15 : decode cX5_wears 15 = .ok (.iaload, 1) := by decide +kernel
theorem dX5_wears_16 : decode cX5_wears 16 = .ok (.iconst 1, 1) := by decide +kernel
theorem dX5_wears_17 : decode cX5_wears 17 = .ok (.isub, 1) := by decide +kernel
theorem dX5_wears_18 : decode cX5_wears 18 = .ok (.iastore, 1) := by decide +kernel
theorem dX5_wears_19 : decode cX5_wears 19 = .ok (.return_, 1) := by decide +kernel
theorem dX5_wears_20 : decode cX5_wears 20 = .ok (.bipush 36, 2) := by decide +kernel
theorem dX5_wears_22 : decode cX5_wears 22 = .ok (.iload_n 1, 1) := by decide +kernel
theorem dX5_wears_23 : decode cX5_wears 23 = .ok (.imul, 1) := by decide +kernel
theorem dX5_wears_24 : decode cX5_wears 24 = .ok (.istore_n 2, 1) := by decide +kernel
theorem dX5_wears_25 : decode cX5_wears 25 = .ok (.iload_n 2, 1) := by decide +kernel
theorem dX5_wears_26 : decode cX5_wears 26 = .ok (.bipush 36, 2) := by decide +kernel
theorem dX5_wears_28 : decode cX5_wears 28 = .ok (.iload_n 1, 1) := by decide +kernel
theorem dX5_wears_29 : decode cX5_wears 29 = .ok (.imul, 1) := by decide +kernel
theorem dX5_wears_30 : decode cX5_wears 30 = .ok (.bipush 36, 2) := by decide +kernel
theorem dX5_wears_32 : decode cX5_wears 32 = .ok (.iadd, 1) := by decide +kernel
theorem dX5_wears_33 : decode cX5_wears 33 = .ok (.if_icmp .ge 27, 3) := by decide +kernel
theorem dX5_wears_36 : decode cX5_wears 36 = .ok (.aload_n 0, 1) := by decide +kernel
theorem dX5_wears_37 : decode cX5_wears 37 = .ok (.getfield 13, 3) := by decide +kernel
theorem dX5_wears_40 : decode cX5_wears 40 = .ok (.iload_n 2, 1) := by decide +kernel
theorem dX5_wears_41 : decode cX5_wears 41 = .ok (.dup2, 1) := by decide +kernel
theorem dX5_wears_42 : decode cX5_wears 42 = .ok (.iaload, 1) := by decide +kernel
theorem dX5_wears_43 : decode cX5_wears 43 = .ok (.aload_n 0, 1) := by decide +kernel
theorem dX5_wears_44 : decode cX5_wears 44 = .ok (.getfield 13, 3) := by decide +kernel
theorem dX5_wears_47 : decode cX5_wears 47 = .ok (.iload_n 2, 1) := by decide +kernel
theorem dX5_wears_48 : decode cX5_wears 48 = .ok (.iaload, 1) := by decide +kernel
theorem dX5_wears_49 : decode cX5_wears 49 = .ok (.bipush 50, 2) := by decide +kernel
theorem dX5_wears_51 : decode cX5_wears 51 = .ok (.idiv, 1) := by decide +kernel
theorem dX5_wears_52 : decode cX5_wears 52 = .ok (.isub, 1) := by decide +kernel
theorem dX5_wears_53 : decode cX5_wears 53 = .ok (.iastore, 1) := by decide +kernel
theorem dX5_wears_54 : decode cX5_wears 54 = .ok (.iinc 2 1, 3) := by decide +kernel
theorem dX5_wears_57 : decode cX5_wears 57 = .ok (.goto (-32), 3) := by decide +kernel
theorem dX5_wears_60 : decode cX5_wears 60 = .ok (.return_, 1) := by decide +kernel
theorem dX5_pull_0 : decode cX5_pull 0 = .ok (.iload_n 1, 1) := by decide +kernel
theorem dX5_pull_1 : decode cX5_pull 1 = .ok (.iconst 1, 1) := by decide +kernel
theorem dX5_pull_2 : decode cX5_pull 2 = .ok (.bipush 100, 2) := by decide +kernel
theorem dX5_pull_4 : decode cX5_pull 4 = .ok (.invokestatic 79, 3) := by decide +kernel
theorem dX5_pull_7 : decode cX5_pull 7 = .ok (.ifCond .ne 9, 3) := by decide +kernel
theorem dX5_pull_10 : decode cX5_pull 10 = .ok (.aload_n 0, 1) := by decide +kernel
theorem dX5_pull_11 : decode cX5_pull 11 = .ok (.iconst 1, 1) := by decide +kernel
theorem dX5_pull_12 : decode cX5_pull 12 = .ok (.invokevirtual 87, 3) := by decide +kernel
theorem dX5_pull_15 : decode cX5_pull 15 = .ok (.ireturn, 1) := by decide +kernel
theorem dX5_pull_16 : decode cX5_pull 16 = .ok (.iconst 0, 1) := by decide +kernel
theorem dX5_pull_17 : decode cX5_pull 17 = .ok (.istore_n 2, 1) := by decide +kernel
theorem dX5_pull_18 : decode cX5_pull 18 = .ok (.iload_n 2, 1) := by decide +kernel
theorem dX5_pull_19 : decode cX5_pull 19 = .ok (.iload_n 1, 1) := by decide +kernel
theorem dX5_pull_20 : decode cX5_pull 20 = .ok (.if_icmp .ge 27, 3) := by decide +kernel
theorem dX5_pull_23 : decode cX5_pull 23 = .ok (.iconst 0, 1) := by decide +kernel
theorem dX5_pull_24 : decode cX5_pull 24 = .ok (.istore_n 3, 1) := by decide +kernel
theorem dX5_pull_25 : decode cX5_pull 25 = .ok (.iload_n 3, 1) := by decide +kernel
theorem dX5_pull_26 : decode cX5_pull 26 = .ok (.iconst 3, 1) := by decide +kernel
theorem dX5_pull_27 : decode cX5_pull 27 = .ok (.if_icmp .ge 14, 3) := by decide +kernel
theorem dX5_pull_30 : decode cX5_pull 30 = .ok (.aload_n 0, 1) := by decide +kernel
theorem dX5_pull_31 : decode cX5_pull 31 = .ok (.iload_n 3, 1) := by decide +kernel
theorem dX5_pull_32 : decode cX5_pull 32 = .ok (.invokevirtual 158, 3) := by decide +kernel
theorem dX5_pull_35 : decode cX5_pull 35 = .ok (.iinc 3 1, 3) := by decide +kernel
theorem dX5_pull_38 : decode cX5_pull 38 = .ok (.goto (-13), 3) := by decide +kernel
theorem dX5_pull_41 : decode cX5_pull 41 = .ok (.iinc 2 1, 3) := by decide +kernel
theorem dX5_pull_44 : decode cX5_pull 44 = .ok (.goto (-26), 3) := by decide +kernel
theorem dX5_pull_47 : decode cX5_pull 47 = .ok (.aload_n 0, 1) := by decide +kernel
theorem dX5_pull_48 : decode cX5_pull 48 = .ok (.dup, 1) := by decide +kernel
theorem dX5_pull_49 : decode cX5_pull 49 = .ok (.getfield 161, 3) := by decide +kernel
theorem dX5_pull_52 : decode cX5_pull 52 = .ok (.iload_n 1, 1) := by decide +kernel
theorem dX5_pull_53 : decode cX5_pull 53 = .ok (.iadd, 1) := by decide +kernel
theorem dX5_pull_54 : decode cX5_pull 54 = .ok (.putfield 161, 3) := by decide +kernel
theorem dX5_pull_57 : decode cX5_pull 57 = .ok (.iconst 0, 1) := by decide +kernel
theorem dX5_pull_58 : decode cX5_pull 58 = .ok (.istore_n 2, 1) := by decide +kernel
theorem dX5_pull_59 : decode cX5_pull 59 = .ok (.iconst 0, 1) := by decide +kernel
theorem dX5_pull_60 : decode cX5_pull 60 = .ok (.istore_n 3, 1) := by decide +kernel
theorem dX5_pull_61 : decode cX5_pull 61 = .ok (.iload_n 3, 1) := by decide +kernel
theorem dX5_pull_62 : decode cX5_pull 62 = .ok (.bipush 36, 2) := by decide +kernel
theorem dX5_pull_64 : decode cX5_pull 64 = .ok (.if_icmp .ge 17, 3) := by decide +kernel
theorem dX5_pull_67 : decode cX5_pull 67 = .ok (.iload_n 2, 1) := by decide +kernel
theorem dX5_pull_68 : decode cX5_pull 68 = .ok (.aload_n 0, 1) := by decide +kernel
theorem dX5_pull_69 : decode cX5_pull 69 = .ok (.iload_n 3, 1) := by decide +kernel
theorem dX5_pull_70 : decode cX5_pull 70 = .ok (.invokevirtual 155, 3) := by decide +kernel
theorem dX5_pull_73 : decode cX5_pull 73 = .ok (.iadd, 1) := by decide +kernel
theorem dX5_pull_74 : decode cX5_pull 74 = .ok (.istore_n 2, 1) := by decide +kernel
theorem dX5_pull_75 : decode cX5_pull 75 = .ok (.iinc 3 1, 3) := by decide +kernel
theorem dX5_pull_78 : decode cX5_pull 78 = .ok (.goto (-17), 3) := by decide +kernel
theorem dX5_pull_81 : decode cX5_pull 81 = .ok (.iload_n 2, 1) := by decide +kernel
theorem dX5_pull_82 : decode cX5_pull 82 = .ok (.ireturn, 1) := by decide +kernel
theorem dX5_guard_0 : decode cX5_guard 0 = .ok (.iload_n 1, 1) := by decide +kernel
theorem dX5_guard_1 : decode cX5_guard 1 = .ok (.invokestatic 83, 3) := by decide +kernel
theorem dX5_guard_4 : decode cX5_guard 4 = .ok (.ifCond .eq 18, 3) := by decide +kernel
theorem dX5_guard_7 : decode cX5_guard 7 = .ok (.iload_n 2, 1) := by decide +kernel
theorem dX5_guard_8 : decode cX5_guard 8 = .ok (.iconst 0, 1) := by decide +kernel
theorem dX5_guard_9 : decode cX5_guard 9 = .ok (.iload_n 3, 1) := by decide +kernel
theorem dX5_guard_10 : decode cX5_guard 10 = .ok (.invokestatic 79, 3) := by decide +kernel
theorem dX5_guard_13 : decode cX5_guard 13 = .ok (.ifCond .eq 9, 3) := by decide +kernel
theorem dX5_guard_16 : decode cX5_guard 16 = .ok (.iload_n 3, 1) := by decide +kernel
theorem dX5_guard_17 : decode cX5_guard 17 = .ok (.bipush 15, 2) := by decide +kernel
theorem dX5_guard_19 : decode cX5_guard 19 = .ok (.if_icmp .le 9, 3) := by decide +kernel
theorem dX5_guard_22 : decode cX5_guard 22 = .ok (.aload_n 0, 1) := by decide +kernel
theorem dX5_guard_23 : decode cX5_guard 23 = .ok (.iconst 1, 1) := by decide +kernel
theorem dX5_guard_24 : decode cX5_guard 24 = .ok (.invokevirtual 87, 3) := by decide +kernel
theorem dX5_guard_27 : decode cX5_guard 27 = .ok (.ireturn, 1) := by decide +kernel
theorem dX5_guard_28 : decode cX5_guard 28 = .ok (.aload_n 0, 1) := by decide +kernel
theorem dX5_guard_29 : decode cX5_guard 29 = .ok (.getfield 164, 3) := by decide +kernel
theorem dX5_guard_32 : decode cX5_guard 32 = .ok (.ifCond .le 25, 3) := by decide +kernel
theorem dX5_guard_35 : decode cX5_guard 35 = .ok (.aload_n 0, 1) := by decide +kernel
theorem dX5_guard_36 : decode cX5_guard 36 = .ok (.getfield 57, 3) := by decide +kernel
theorem dX5_guard_39 : decode cX5_guard 39 = .ok (.iconst 0, 1) := by decide +kernel
theorem dX5_guard_40 : decode cX5_guard 40 = .ok (.iaload, 1) := by decide +kernel
theorem dX5_guard_41 : decode cX5_guard 41 = .ok (.bipush 36, 2) := by decide +kernel
theorem dX5_guard_43 : decode cX5_guard 43 = .ok (.idiv, 1) := by decide +kernel
theorem dX5_guard_44 : decode cX5_guard 44 = .ok (.iload_n 1, 1) := by decide +kernel
theorem dX5_guard_45 : decode cX5_guard 45 = .ok (.bipush 100, 2) := by decide +kernel
theorem dX5_guard_47 : decode cX5_guard 47 = .ok (.idiv, 1) := by decide +kernel
theorem dX5_guard_48 : decode cX5_guard 48 = .ok (.if_icmp .eq 9, 3) := by decide +kernel
theorem dX5_guard_51 : decode cX5_guard 51 = .ok (.aload_n 0, 1) := by decide +kernel
theorem dX5_guard_52 : decode cX5_guard 52 = .ok (.iconst 3, 1) := by decide +kernel
theorem dX5_guard_53 : decode cX5_guard 53 = .ok (.invokevirtual 87, 3) := by decide +kernel
theorem dX5_guard_56 : decode cX5_guard 56 = .ok (.ireturn, 1) := by decide +kernel
theorem dX5_guard_57 : decode cX5_guard 57 = .ok (.aload_n 0, 1) := by decide +kernel
theorem dX5_guard_58 : decode cX5_guard 58 = .ok (.getfield 164, 3) := by decide +kernel
theorem dX5_guard_61 : decode cX5_guard 61 = .ok (.bipush 8, 2) := by decide +kernel
theorem dX5_guard_63 : decode cX5_guard 63 = .ok (.if_icmp .ne 9, 3) := by decide +kernel
theorem dX5_guard_66 : decode cX5_guard 66 = .ok (.aload_n 0, 1) := by decide +kernel
theorem dX5_guard_67 : decode cX5_guard 67 = .ok (.iconst 4, 1) := by decide +kernel
theorem dX5_guard_68 : decode cX5_guard 68 = .ok (.invokevirtual 87, 3) := by decide +kernel
theorem dX5_guard_71 : decode cX5_guard 71 = .ok (.ireturn, 1) := by decide +kernel
theorem dX5_guard_72 : decode cX5_guard 72 = .ok (.aload_n 0, 1) := by decide +kernel
theorem dX5_guard_73 : decode cX5_guard 73 = .ok (.getfield 57, 3) := by decide +kernel
theorem dX5_guard_76 : decode cX5_guard 76 = .ok (.aload_n 0, 1) := by decide +kernel
theorem dX5_guard_77 : decode cX5_guard 77 = .ok (.getfield 164, 3) := by decide +kernel
theorem dX5_guard_80 : decode cX5_guard 80 = .ok (.iload_n 1, 1) := by decide +kernel
theorem dX5_guard_81 : decode cX5_guard 81 = .ok (.invokestatic 91, 3) := by decide +kernel
theorem dX5_guard_84 : decode cX5_guard 84 = .ok (.iastore, 1) := by decide +kernel
theorem dX5_guard_85 : decode cX5_guard 85 = .ok (.aload_n 0, 1) := by decide +kernel
theorem dX5_guard_86 : decode cX5_guard 86 = .ok (.getfield 60, 3) := by decide +kernel
theorem dX5_guard_89 : decode cX5_guard 89 = .ok (.aload_n 0, 1) := by decide +kernel
theorem dX5_guard_90 : decode cX5_guard 90 = .ok (.getfield 164, 3) := by decide +kernel
theorem dX5_guard_93 : decode cX5_guard 93 = .ok (.iload_n 2, 1) := by decide +kernel
theorem dX5_guard_94 : decode cX5_guard 94 = .ok (.iastore, 1) := by decide +kernel
theorem dX5_guard_95 : decode cX5_guard 95 = .ok (.aload_n 0, 1) := by decide +kernel
theorem dX5_guard_96 : decode cX5_guard 96 = .ok (.getfield 63, 3) := by decide +kernel
theorem dX5_guard_99 : decode cX5_guard 99 = .ok (.aload_n 0, 1) := by decide +kernel
theorem dX5_guard_100 : decode cX5_guard 100 = .ok (.getfield 164, 3) := by decide +kernel
theorem dX5_guard_103 : decode cX5_guard 103 = .ok (.iload_n 3, 1) := by decide +kernel
theorem dX5_guard_104 : decode cX5_guard 104 = .ok (.iastore, 1) := by decide +kernel
theorem dX5_guard_105 : decode cX5_guard 105 = .ok (.aload_n 0, 1) := by decide +kernel
theorem dX5_guard_106 : decode cX5_guard 106 = .ok (.dup, 1) := by decide +kernel
theorem dX5_guard_107 : decode cX5_guard 107 = .ok (.getfield 164, 3) := by decide +kernel
theorem dX5_guard_110 : decode cX5_guard 110 = .ok (.iconst 1, 1) := by decide +kernel
theorem dX5_guard_111 : decode cX5_guard 111 = .ok (.iadd, 1) := by decide +kernel
theorem dX5_guard_112 : decode cX5_guard 112 = .ok (.putfield 164, 3) := by decide +kernel
theorem dX5_guard_115 : decode cX5_guard 115 = .ok (.aload_n 0, 1) := by decide +kernel
theorem dX5_guard_116 : decode cX5_guard 116 = .ok (.getfield 164, 3) := by decide +kernel
theorem dX5_guard_119 : decode cX5_guard 119 = .ok (.ireturn, 1) := by decide +kernel
theorem dX5_allHold_0 : decode cX5_allHold 0 = .ok (.iconst 1, 1) := by decide +kernel
theorem dX5_allHold_1 : decode cX5_allHold 1 = .ok (.istore_n 1, 1) := by decide +kernel
theorem dX5_allHold_2 : decode cX5_allHold 2 = .ok (.iconst 0, 1) := by decide +kernel
theorem dX5_allHold_3 : decode cX5_allHold 3 = .ok (.istore_n 2, 1) := by decide +kernel
theorem dX5_allHold_4 : decode cX5_allHold 4 = .ok (.iload_n 2, 1) := by decide +kernel
theorem dX5_allHold_5 : decode cX5_allHold 5 = .ok (.aload_n 0, 1) := by decide +kernel
theorem dX5_allHold_6 : decode cX5_allHold 6 = .ok (.getfield 164, 3) := by decide +kernel
theorem dX5_allHold_9 : decode cX5_allHold 9 = .ok (.if_icmp .ge 51, 3) := by decide +kernel
theorem dX5_allHold_12 : decode cX5_allHold 12 = .ok (.iload_n 1, 1) := by decide +kernel
theorem dX5_allHold_13 : decode cX5_allHold 13 = .ok (.ifCond .eq 39, 3) := by decide +kernel
theorem dX5_allHold_16 : decode cX5_allHold 16 = .ok (.aload_n 0, 1) := by decide +kernel
theorem dX5_allHold_17 : decode cX5_allHold 17 = .ok (.getfield 13, 3) := by decide +kernel
theorem dX5_allHold_20 : decode cX5_allHold 20 = .ok (.aload_n 0, 1) := by decide +kernel
theorem dX5_allHold_21 : decode cX5_allHold 21 = .ok (.getfield 57, 3) := by decide +kernel
theorem dX5_allHold_24 : decode cX5_allHold 24 = .ok (.iload_n 2, 1) := by decide +kernel
theorem dX5_allHold_25 : decode cX5_allHold 25 = .ok (.iaload, 1) := by decide +kernel
theorem dX5_allHold_26 : decode cX5_allHold 26 = .ok (.iaload, 1) := by decide +kernel
theorem dX5_allHold_27 : decode cX5_allHold 27 = .ok (.invokestatic 112, 3) := by decide +kernel
theorem dX5_allHold_30 : decode cX5_allHold 30 = .ok (.aload_n 0, 1) := by decide +kernel
theorem dX5_allHold_31 : decode cX5_allHold 31 = .ok (.getfield 60, 3) := by decide +kernel
theorem dX5_allHold_34 : decode cX5_allHold 34 = .ok (.iload_n 2, 1) := by decide +kernel
theorem dX5_allHold_35 : decode cX5_allHold 35 = .ok (.iaload, 1) := by decide +kernel
theorem dX5_allHold_36 : decode cX5_allHold 36 = .ok (.aload_n 0, 1) := by decide +kernel
theorem dX5_allHold_37 : decode cX5_allHold 37 = .ok (.getfield 63, 3) := by decide +kernel
theorem dX5_allHold_40 : decode cX5_allHold 40 = .ok (.iload_n 2, 1) := by decide +kernel
theorem dX5_allHold_41 : decode cX5_allHold 41 = .ok (.iaload, 1) := by decide +kernel
theorem dX5_allHold_42 : decode cX5_allHold 42 = .ok (.invokestatic 79, 3) := by decide +kernel
theorem dX5_allHold_45 : decode cX5_allHold 45 = .ok (.ifCond .eq 7, 3) := by decide +kernel
theorem dX5_allHold_48 : decode cX5_allHold 48 = .ok (.iconst 1, 1) := by decide +kernel
theorem dX5_allHold_49 : decode cX5_allHold 49 = .ok (.goto 4, 3) := by decide +kernel
theorem dX5_allHold_52 : decode cX5_allHold 52 = .ok (.iconst 0, 1) := by decide +kernel
theorem dX5_allHold_53 : decode cX5_allHold 53 = .ok (.istore_n 1, 1) := by decide +kernel
theorem dX5_allHold_54 : decode cX5_allHold 54 = .ok (.iinc 2 1, 3) := by decide +kernel
theorem dX5_allHold_57 : decode cX5_allHold 57 = .ok (.goto (-53), 3) := by decide +kernel
theorem dX5_allHold_60 : decode cX5_allHold 60 = .ok (.iload_n 1, 1) := by decide +kernel
theorem dX5_allHold_61 : decode cX5_allHold 61 = .ok (.ireturn, 1) := by decide +kernel
theorem dX5_edition_0 : decode cX5_edition 0 = .ok (.aload_n 0, 1) := by decide +kernel
theorem dX5_edition_1 : decode cX5_edition 1 = .ok (.getfield 164, 3) := by decide +kernel
theorem dX5_edition_4 : decode cX5_edition 4 = .ok (.ifCond .ne 9, 3) := by decide +kernel
theorem dX5_edition_7 : decode cX5_edition 7 = .ok (.aload_n 0, 1) := by decide +kernel
theorem dX5_edition_8 : decode cX5_edition 8 = .ok (.iconst 2, 1) := by decide +kernel
theorem dX5_edition_9 : decode cX5_edition 9 = .ok (.invokevirtual 87, 3) := by decide +kernel
theorem dX5_edition_12 : decode cX5_edition 12 = .ok (.ireturn, 1) := by decide +kernel
theorem dX5_edition_13 : decode cX5_edition 13 = .ok (.aload_n 0, 1) := by decide +kernel
theorem dX5_edition_14 : decode cX5_edition 14 = .ok (.getfield 57, 3) := by decide +kernel
theorem dX5_edition_17 : decode cX5_edition 17 = .ok (.iconst 0, 1) := by decide +kernel
theorem dX5_edition_18 : decode cX5_edition 18 = .ok (.iaload, 1) := by decide +kernel
theorem dX5_edition_19 : decode cX5_edition 19 = .ok (.bipush 36, 2) := by decide +kernel
theorem dX5_edition_21 : decode cX5_edition 21 = .ok (.idiv, 1) := by decide +kernel
theorem dX5_edition_22 : decode cX5_edition 22 = .ok (.istore_n 1, 1) := by decide +kernel
theorem dX5_edition_23 : decode cX5_edition 23 = .ok (.aload_n 0, 1) := by decide +kernel
theorem dX5_edition_24 : decode cX5_edition 24 = .ok (.getfield 54, 3) := by decide +kernel
theorem dX5_edition_27 : decode cX5_edition 27 = .ok (.iload_n 1, 1) := by decide +kernel
theorem dX5_edition_28 : decode cX5_edition 28 = .ok (.iaload, 1) := by decide +kernel
theorem dX5_edition_29 : decode cX5_edition 29 = .ok (.istore_n 2, 1) := by decide +kernel
theorem dX5_edition_30 : decode cX5_edition 30 = .ok (.iconst 4, 1) := by decide +kernel
theorem dX5_edition_31 : decode cX5_edition 31 = .ok (.invokestatic 142, 3) := by decide +kernel
theorem dX5_edition_34 : decode cX5_edition 34 = .ok (.istore_n 3, 1) := by decide +kernel
theorem dX5_edition_35 : decode cX5_edition 35 = .ok (.aload_n 0, 1) := by decide +kernel
theorem dX5_edition_36 : decode cX5_edition 36 = .ok (.bipush 36, 2) := by decide +kernel
theorem dX5_edition_38 : decode cX5_edition 38 = .ok (.iload_n 1, 1) := by decide +kernel
theorem dX5_edition_39 : decode cX5_edition 39 = .ok (.imul, 1) := by decide +kernel
theorem dX5_edition_40 : decode cX5_edition 40 = .ok (.iload_n 3, 1) := by decide +kernel
theorem dX5_edition_41 : decode cX5_edition 41 = .ok (.invokevirtual 145, 3) := by decide +kernel
theorem dX5_edition_44 : decode cX5_edition 44 = .ok (.iconst 0, 1) := by decide +kernel
theorem dX5_edition_45 : decode cX5_edition 45 = .ok (.istore 4, 2) := by decide +kernel
theorem dX5_edition_47 : decode cX5_edition 47 = .ok (.aload_n 0, 1) := by decide +kernel
theorem dX5_edition_48 : decode cX5_edition 48 = .ok (.invokevirtual 167, 3) := by decide +kernel
theorem dX5_edition_51 : decode cX5_edition 51 = .ok (.istore 5, 2) := by decide +kernel
theorem dX5_edition_53 : decode cX5_edition 53 = .ok (.iload 5, 2) := by decide +kernel
theorem dX5_edition_55 : decode cX5_edition 55 = .ok (.ifCond .eq 40, 3) := by decide +kernel
theorem dX5_edition_58 : decode cX5_edition 58 = .ok (.iload 4, 2) := by decide +kernel
theorem dX5_edition_60 : decode cX5_edition 60 = .ok (.sipush 300, 3) := by decide +kernel
theorem dX5_edition_63 : decode cX5_edition 63 = .ok (.if_icmp .ge 32, 3) := by decide +kernel
theorem dX5_edition_66 : decode cX5_edition 66 = .ok (.aload_n 0, 1) := by decide +kernel
theorem dX5_edition_67 : decode cX5_edition 67 = .ok (.iload_n 1, 1) := by decide +kernel
theorem dX5_edition_68 : decode cX5_edition 68 = .ok (.invokevirtual 158, 3) := by decide +kernel
theorem dX5_edition_71 : decode cX5_edition 71 = .ok (.aload_n 0, 1) := by decide +kernel
theorem dX5_edition_72 : decode cX5_edition 72 = .ok (.invokevirtual 167, 3) := by decide +kernel
theorem dX5_edition_75 : decode cX5_edition 75 = .ok (.istore 5, 2) := by decide +kernel
theorem dX5_edition_77 : decode cX5_edition 77 = .ok (.iload 4, 2) := by decide +kernel
theorem dX5_edition_79 : decode cX5_edition 79 = .ok (.iload 5, 2) := by decide +kernel
theorem dX5_edition_81 : decode cX5_edition 81 = .ok (.ifCond .eq 7, 3) := by decide +kernel
theorem dX5_edition_84 : decode cX5_edition 84 = .ok (.iconst 1, 1) := by decide +kernel
theorem dX5_edition_85 : decode cX5_edition 85 = .ok (.goto 4, 3) := by decide +kernel
theorem dX5_edition_88 : decode cX5_edition 88 = .ok (.iconst 0, 1) := by decide +kernel
theorem dX5_edition_89 : decode cX5_edition 89 = .ok (.iadd, 1) := by decide +kernel
theorem dX5_edition_90 : decode cX5_edition 90 = .ok (.istore 4, 2) := by decide +kernel
theorem dX5_edition_92 : decode cX5_edition 92 = .ok (.goto (-39), 3) := by decide +kernel
theorem dX5_edition_95 : decode cX5_edition 95 = .ok (.aload_n 0, 1) := by decide +kernel
theorem dX5_edition_96 : decode cX5_edition 96 = .ok (.iload_n 3, 1) := by decide +kernel
theorem dX5_edition_97 : decode cX5_edition 97 = .ok (.bipush 36, 2) := by decide +kernel
theorem dX5_edition_99 : decode cX5_edition 99 = .ok (.iload_n 1, 1) := by decide +kernel
theorem dX5_edition_100 : decode cX5_edition 100 = .ok (.imul, 1) := by decide +kernel
theorem dX5_edition_101 : decode cX5_edition 101 = .ok (.invokevirtual 145, 3) := by decide +kernel
theorem dX5_edition_104 : decode cX5_edition 104 = .ok (.aload_n 0, 1) := by decide +kernel
theorem dX5_edition_105 : decode cX5_edition 105 = .ok (.getfield 54, 3) := by decide +kernel
theorem dX5_edition_108 : decode cX5_edition 108 = .ok (.iload_n 1, 1) := by decide +kernel
theorem dX5_edition_109 : decode cX5_edition 109 = .ok (.iload_n 2, 1) := by decide +kernel
theorem dX5_edition_110 : decode cX5_edition 110 = .ok (.iastore, 1) := by decide +kernel
theorem dX5_edition_111 : decode cX5_edition 111 = .ok (.aload_n 0, 1) := by decide +kernel
theorem dX5_edition_112 : decode cX5_edition 112 = .ok (.iconst 0, 1) := by decide +kernel
theorem dX5_edition_113 : decode cX5_edition 113 = .ok (.putfield 164, 3) := by decide +kernel
theorem dX5_edition_116 : decode cX5_edition 116 = .ok (.iload 4, 2) := by decide +kernel
theorem dX5_edition_118 : decode cX5_edition 118 = .ok (.ireturn, 1) := by decide +kernel
theorem dX5_tell_0 : decode cX5_tell 0 = .ok (.aload_n 0, 1) := by decide +kernel
theorem dX5_tell_1 : decode cX5_tell 1 = .ok (.getfield 170, 3) := by decide +kernel
theorem dX5_tell_4 : decode cX5_tell 4 = .ok (.bipush 36, 2) := by decide +kernel
theorem dX5_tell_6 : decode cX5_tell 6 = .ok (.if_icmp .ne 9, 3) := by decide +kernel
theorem dX5_tell_9 : decode cX5_tell 9 = .ok (.aload_n 0, 1) := by decide +kernel
theorem dX5_tell_10 : decode cX5_tell 10 = .ok (.iconst 4, 1) := by decide +kernel
theorem dX5_tell_11 : decode cX5_tell 11 = .ok (.invokevirtual 87, 3) := by decide +kernel
theorem dX5_tell_14 : decode cX5_tell 14 = .ok (.ireturn, 1) := by decide +kernel
theorem dX5_tell_15 : decode cX5_tell 15 = .ok (.aload_n 0, 1) := by decide +kernel
theorem dX5_tell_16 : decode cX5_tell 16 = .ok (.getfield 66, 3) := by decide +kernel
theorem dX5_tell_19 : decode cX5_tell 19 = .ok (.aload_n 0, 1) := by decide +kernel
theorem dX5_tell_20 : decode cX5_tell 20 = .ok (.getfield 170, 3) := by decide +kernel
theorem dX5_tell_23 : decode cX5_tell 23 = .ok (.iload_n 1, 1) := by decide +kernel
theorem dX5_tell_24 : decode cX5_tell 24 = .ok (.iastore, 1) := by decide +kernel
theorem dX5_tell_25 : decode cX5_tell 25 = .ok (.aload_n 0, 1) := by decide +kernel
theorem dX5_tell_26 : decode cX5_tell 26 = .ok (.dup, 1) := by decide +kernel
theorem dX5_tell_27 : decode cX5_tell 27 = .ok (.getfield 170, 3) := by decide +kernel
theorem dX5_tell_30 : decode cX5_tell 30 = .ok (.iconst 1, 1) := by decide +kernel
theorem dX5_tell_31 : decode cX5_tell 31 = .ok (.iadd, 1) := by decide +kernel
theorem dX5_tell_32 : decode cX5_tell 32 = .ok (.putfield 170, 3) := by decide +kernel
theorem dX5_tell_35 : decode cX5_tell 35 = .ok (.aload_n 0, 1) := by decide +kernel
theorem dX5_tell_36 : decode cX5_tell 36 = .ok (.getfield 170, 3) := by decide +kernel
theorem dX5_tell_39 : decode cX5_tell 39 = .ok (.ireturn, 1) := by decide +kernel
theorem dX5_check_0 : decode cX5_check 0 = .ok (.aload_n 0, 1) := by decide +kernel
theorem dX5_check_1 : decode cX5_check 1 = .ok (.getfield 170, 3) := by decide +kernel
theorem dX5_check_4 : decode cX5_check 4 = .ok (.istore_n 2, 1) := by decide +kernel
theorem dX5_check_5 : decode cX5_check 5 = .ok (.aload_n 0, 1) := by decide +kernel
theorem dX5_check_6 : decode cX5_check 6 = .ok (.iconst 0, 1) := by decide +kernel
theorem dX5_check_7 : decode cX5_check 7 = .ok (.putfield 170, 3) := by decide +kernel
theorem dX5_check_10 : decode cX5_check 10 = .ok (.iload_n 1, 1) := by decide +kernel
theorem dX5_check_11 : decode cX5_check 11 = .ok (.invokestatic 97, 3) := by decide +kernel
theorem dX5_check_14 : decode cX5_check 14 = .ok (.ifCond .ne 9, 3) := by decide +kernel
theorem dX5_check_17 : decode cX5_check 17 = .ok (.aload_n 0, 1) := by decide +kernel
theorem dX5_check_18 : decode cX5_check 18 = .ok (.iconst 1, 1) := by decide +kernel
theorem dX5_check_19 : decode cX5_check 19 = .ok (.invokevirtual 87, 3) := by decide +kernel
theorem dX5_check_22 : decode cX5_check 22 = .ok (.ireturn, 1) := by decide +kernel
theorem dX5_check_23 : decode cX5_check 23 = .ok (.iconst 0, 1) := by decide +kernel
theorem dX5_check_24 : decode cX5_check 24 = .ok (.istore_n 3, 1) := by decide +kernel
theorem dX5_check_25 : decode cX5_check 25 = .ok (.iload_n 3, 1) := by decide +kernel
theorem dX5_check_26 : decode cX5_check 26 = .ok (.iload_n 2, 1) := by decide +kernel
theorem dX5_check_27 : decode cX5_check 27 = .ok (.if_icmp .ge 36, 3) := by decide +kernel
theorem dX5_check_30 : decode cX5_check 30 = .ok (.aload_n 0, 1) := by decide +kernel
theorem dX5_check_31 : decode cX5_check 31 = .ok (.getfield 66, 3) := by decide +kernel
theorem dX5_check_34 : decode cX5_check 34 = .ok (.iload_n 3, 1) := by decide +kernel
theorem dX5_check_35 : decode cX5_check 35 = .ok (.iaload, 1) := by decide +kernel
theorem dX5_check_36 : decode cX5_check 36 = .ok (.aload_n 0, 1) := by decide +kernel
theorem dX5_check_37 : decode cX5_check 37 = .ok (.getfield 13, 3) := by decide +kernel
theorem dX5_check_40 : decode cX5_check 40 = .ok (.bipush 36, 2) := by decide +kernel
theorem dX5_check_42 : decode cX5_check 42 = .ok (.iload_n 1, 1) := by decide +kernel
theorem dX5_check_43 : decode cX5_check 43 = .ok (.imul, 1) := by decide +kernel
theorem dX5_check_44 : decode cX5_check 44 = .ok (.iload_n 3, 1) := by decide +kernel
theorem dX5_check_45 : decode cX5_check 45 = .ok (.iadd, 1) := by decide +kernel
theorem dX5_check_46 : decode cX5_check 46 = .ok (.iaload, 1) := by decide +kernel
theorem dX5_check_47 : decode cX5_check 47 = .ok (.invokestatic 112, 3) := by decide +kernel
theorem dX5_check_50 : decode cX5_check 50 = .ok (.if_icmp .eq 7, 3) := by decide +kernel
theorem dX5_check_53 : decode cX5_check 53 = .ok (.iconst 1, 1) := by decide +kernel
theorem dX5_check_54 : decode cX5_check 54 = .ok (.iload_n 3, 1) := by decide +kernel
theorem dX5_check_55 : decode cX5_check 55 = .ok (.iadd, 1) := by decide +kernel
theorem dX5_check_56 : decode cX5_check 56 = .ok (.ireturn, 1) := by decide +kernel
theorem dX5_check_57 : decode cX5_check 57 = .ok (.iinc 3 1, 3) := by decide +kernel
theorem dX5_check_60 : decode cX5_check 60 = .ok (.goto (-35), 3) := by decide +kernel
theorem dX5_check_63 : decode cX5_check 63 = .ok (.iconst 0, 1) := by decide +kernel
theorem dX5_check_64 : decode cX5_check 64 = .ok (.ireturn, 1) := by decide +kernel
theorem dX5_count_0 : decode cX5_count 0 = .ok (.iconst 0, 1) := by decide +kernel
theorem dX5_count_1 : decode cX5_count 1 = .ok (.istore_n 2, 1) := by decide +kernel
theorem dX5_count_2 : decode cX5_count 2 = .ok (.iload_n 1, 1) := by decide +kernel
theorem dX5_count_3 : decode cX5_count 3 = .ok (.tableswitch 131 0 6 #[41, 46, 51, 56, 88, 93, 126], 41) := by decide +kernel
theorem dX5_count_44 : decode cX5_count 44 = .ok (.aload_n 0, 1) := by decide +kernel
theorem dX5_count_45 : decode cX5_count 45 = .ok (.invokevirtual 100, 3) := by decide +kernel
theorem dX5_count_48 : decode cX5_count 48 = .ok (.ireturn, 1) := by decide +kernel
theorem dX5_count_49 : decode cX5_count 49 = .ok (.aload_n 0, 1) := by decide +kernel
theorem dX5_count_50 : decode cX5_count 50 = .ok (.getfield 125, 3) := by decide +kernel
theorem dX5_count_53 : decode cX5_count 53 = .ok (.ireturn, 1) := by decide +kernel
theorem dX5_count_54 : decode cX5_count 54 = .ok (.aload_n 0, 1) := by decide +kernel
theorem dX5_count_55 : decode cX5_count 55 = .ok (.getfield 164, 3) := by decide +kernel
theorem dX5_count_58 : decode cX5_count 58 = .ok (.ireturn, 1) := by decide +kernel
theorem dX5_count_59 : decode cX5_count 59 = .ok (.iconst 0, 1) := by decide +kernel
theorem dX5_count_60 : decode cX5_count 60 = .ok (.istore_n 3, 1) := by decide +kernel
theorem dX5_count_61 : decode cX5_count 61 = .ok (.iload_n 3, 1) := by decide +kernel
theorem dX5_count_62 : decode cX5_count 62 = .ok (.iconst 4, 1) := by decide +kernel
theorem dX5_count_63 : decode cX5_count 63 = .ok (.if_icmp .ge 26, 3) := by decide +kernel
theorem dX5_count_66 : decode cX5_count 66 = .ok (.iload_n 2, 1) := by decide +kernel
theorem dX5_count_67 : decode cX5_count 67 = .ok (.aload_n 0, 1) := by decide +kernel
theorem dX5_count_68 : decode cX5_count 68 = .ok (.getfield 23, 3) := by decide +kernel
theorem dX5_count_71 : decode cX5_count 71 = .ok (.iload_n 3, 1) := by decide +kernel
theorem dX5_count_72 : decode cX5_count 72 = .ok (.baload, 1) := by decide +kernel
theorem dX5_count_73 : decode cX5_count 73 = .ok (.ifCond .eq 7, 3) := by decide +kernel
theorem dX5_count_76 : decode cX5_count 76 = .ok (.iconst 1, 1) := by decide +kernel
theorem dX5_count_77 : decode cX5_count 77 = .ok (.goto 4, 3) := by decide +kernel
theorem dX5_count_80 : decode cX5_count 80 = .ok (.iconst 0, 1) := by decide +kernel
theorem dX5_count_81 : decode cX5_count 81 = .ok (.iadd, 1) := by decide +kernel
theorem dX5_count_82 : decode cX5_count 82 = .ok (.istore_n 2, 1) := by decide +kernel
theorem dX5_count_83 : decode cX5_count 83 = .ok (.iinc 3 1, 3) := by decide +kernel
theorem dX5_count_86 : decode cX5_count 86 = .ok (.goto (-25), 3) := by decide +kernel
theorem dX5_count_89 : decode cX5_count 89 = .ok (.iload_n 2, 1) := by decide +kernel
theorem dX5_count_90 : decode cX5_count 90 = .ok (.ireturn, 1) := by decide +kernel
theorem dX5_count_91 : decode cX5_count 91 = .ok (.aload_n 0, 1) := by decide +kernel
theorem dX5_count_92 : decode cX5_count 92 = .ok (.getfield 170, 3) := by decide +kernel
theorem dX5_count_95 : decode cX5_count 95 = .ok (.ireturn, 1) := by decide +kernel
theorem dX5_count_96 : decode cX5_count 96 = .ok (.iconst 0, 1) := by decide +kernel
theorem dX5_count_97 : decode cX5_count 97 = .ok (.istore_n 3, 1) := by decide +kernel
theorem dX5_count_98 : decode cX5_count 98 = .ok (.iload_n 3, 1) := by decide +kernel
theorem dX5_count_99 : decode cX5_count 99 = .ok (.bipush 108, 2) := by decide +kernel
theorem dX5_count_101 : decode cX5_count 101 = .ok (.if_icmp .ge 26, 3) := by decide +kernel
theorem dX5_count_104 : decode cX5_count 104 = .ok (.iload_n 2, 1) := by decide +kernel
theorem dX5_count_105 : decode cX5_count 105 = .ok (.aload_n 0, 1) := by decide +kernel
theorem dX5_count_106 : decode cX5_count 106 = .ok (.getfield 19, 3) := by decide +kernel
theorem dX5_count_109 : decode cX5_count 109 = .ok (.iload_n 3, 1) := by decide +kernel
theorem dX5_count_110 : decode cX5_count 110 = .ok (.baload, 1) := by decide +kernel
theorem dX5_count_111 : decode cX5_count 111 = .ok (.ifCond .eq 7, 3) := by decide +kernel
theorem dX5_count_114 : decode cX5_count 114 = .ok (.iconst 1, 1) := by decide +kernel
theorem dX5_count_115 : decode cX5_count 115 = .ok (.goto 4, 3) := by decide +kernel
theorem dX5_count_118 : decode cX5_count 118 = .ok (.iconst 0, 1) := by decide +kernel
theorem dX5_count_119 : decode cX5_count 119 = .ok (.iadd, 1) := by decide +kernel
theorem dX5_count_120 : decode cX5_count 120 = .ok (.istore_n 2, 1) := by decide +kernel
theorem dX5_count_121 : decode cX5_count 121 = .ok (.iinc 3 1, 3) := by decide +kernel
theorem dX5_count_124 : decode cX5_count 124 = .ok (.goto (-26), 3) := by decide +kernel
theorem dX5_count_127 : decode cX5_count 127 = .ok (.iload_n 2, 1) := by decide +kernel
theorem dX5_count_128 : decode cX5_count 128 = .ok (.ireturn, 1) := by decide +kernel
theorem dX5_count_129 : decode cX5_count 129 = .ok (.aload_n 0, 1) := by decide +kernel
theorem dX5_count_130 : decode cX5_count 130 = .ok (.getfield 161, 3) := by decide +kernel
theorem dX5_count_133 : decode cX5_count 133 = .ok (.ireturn, 1) := by decide +kernel
theorem dX5_count_134 : decode cX5_count 134 = .ok (.aload_n 0, 1) := by decide +kernel
theorem dX5_count_135 : decode cX5_count 135 = .ok (.iconst 1, 1) := by decide +kernel
theorem dX5_count_136 : decode cX5_count 136 = .ok (.invokevirtual 87, 3) := by decide +kernel
theorem dX5_count_139 : decode cX5_count 139 = .ok (.ireturn, 1) := by decide +kernel
theorem dX5_found_0 : decode cX5_found 0 = .ok (.iload_n 1, 1) := by decide +kernel
theorem dX5_found_1 : decode cX5_found 1 = .ok (.iconst 1, 1) := by decide +kernel
theorem dX5_found_2 : decode cX5_found 2 = .ok (.iconst 5, 1) := by decide +kernel
theorem dX5_found_3 : decode cX5_found 3 = .ok (.invokestatic 79, 3) := by decide +kernel
theorem dX5_found_6 : decode cX5_found 6 = .ok (.ifCond .eq 12, 3) := by decide +kernel
theorem dX5_found_9 : decode cX5_found 9 = .ok (.aload_n 0, 1) := by decide +kernel
theorem dX5_found_10 : decode cX5_found 10 = .ok (.getfield 69, 3) := by decide +kernel
theorem dX5_found_13 : decode cX5_found 13 = .ok (.iload_n 1, 1) := by decide +kernel
theorem dX5_found_14 : decode cX5_found 14 = .ok (.iaload, 1) := by decide +kernel
theorem dX5_found_15 : decode cX5_found 15 = .ok (.goto 8, 3) := by decide +kernel
theorem dX5_found_18 : decode cX5_found 18 = .ok (.aload_n 0, 1) := by decide +kernel
theorem dX5_found_19 : decode cX5_found 19 = .ok (.iconst 1, 1) := by decide +kernel
theorem dX5_found_20 : decode cX5_found 20 = .ok (.invokevirtual 87, 3) := by decide +kernel
theorem dX5_found_23 : decode cX5_found 23 = .ok (.ireturn, 1) := by decide +kernel
