theorem dL_cell_0 : decode cL_cell 0 = .ok (.iload_n 1, 1) := by decide +kernel
theorem dL_cell_1 : decode cL_cell 1 = .ok (.aload_n 0, 1) := by decide +kernel
theorem dL_cell_2 : decode cL_cell 2 = .ok (.arraylength, 1) := by decide +kernel
theorem dL_cell_3 : decode cL_cell 3 = .ok (.if_icmp .ge 9, 3) := by decide +kernel
theorem dL_cell_6 : decode cL_cell 6 = .ok (.aload_n 0, 1) := by decide +kernel
theorem dL_cell_7 : decode cL_cell 7 = .ok (.iload_n 1, 1) := by decide +kernel
theorem dL_cell_8 : decode cL_cell 8 = .ok (.iaload, 1) := by decide +kernel
theorem dL_cell_9 : decode cL_cell 9 = .ok (.goto 11, 3) := by decide +kernel
theorem dL_cell_12 : decode cL_cell 12 = .ok (.ldc 7, 2) := by decide +kernel
theorem dL_cell_14 : decode cL_cell 14 = .ok (.iload_n 1, 1) := by decide +kernel
theorem dL_cell_15 : decode cL_cell 15 = .ok (.imul, 1) := by decide +kernel
theorem dL_cell_16 : decode cL_cell 16 = .ok (.sipush 1087, 3) := by decide +kernel
theorem dL_cell_19 : decode cL_cell 19 = .ok (.iadd, 1) := by decide +kernel
theorem dL_cell_20 : decode cL_cell 20 = .ok (.ireturn, 1) := by decide +kernel
theorem dL_low_0 : decode cL_low 0 = .ok (.iload_n 0, 1) := by decide +kernel
theorem dL_low_1 : decode cL_low 1 = .ok (.ldc 8, 2) := by decide +kernel
theorem dL_low_3 : decode cL_low 3 = .ok (.iand, 1) := by decide +kernel
theorem dL_low_4 : decode cL_low 4 = .ok (.iload_n 1, 1) := by decide +kernel
theorem dL_low_5 : decode cL_low 5 = .ok (.irem, 1) := by decide +kernel
theorem dL_low_6 : decode cL_low 6 = .ok (.ireturn, 1) := by decide +kernel
theorem dL_digest_0 : decode cL_digest 0 = .ok (.ldc2_w 9, 3) := by decide +kernel
theorem dL_digest_3 : decode cL_digest 3 = .ok (.lstore_n 1, 1) := by decide +kernel
theorem dL_digest_4 : decode cL_digest 4 = .ok (.iconst 0, 1) := by decide +kernel
theorem dL_digest_5 : decode cL_digest 5 = .ok (.istore_n 3, 1) := by decide +kernel
theorem dL_digest_6 : decode cL_digest 6 = .ok (.iload_n 3, 1) := by decide +kernel
theorem dL_digest_7 : decode cL_digest 7 = .ok (.bipush 16, 2) := by decide +kernel
theorem dL_digest_9 : decode cL_digest 9 = .ok (.if_icmp .ge 32, 3) := by decide +kernel
theorem dL_digest_12 : decode cL_digest 12 = .ok (.ldc2_w 11, 3) := by decide +kernel
theorem dL_digest_15 : decode cL_digest 15 = .ok (.lload_n 1, 1) := by decide +kernel
theorem dL_digest_16 : decode cL_digest 16 = .ok (.lmul, 1) := by decide +kernel
theorem dL_digest_17 : decode cL_digest 17 = .ok (.iload_n 3, 1) := by decide +kernel
theorem dL_digest_18 : decode cL_digest 18 = .ok (.bipush 8, 2) := by decide +kernel
theorem dL_digest_20 : decode cL_digest 20 = .ok (.if_icmp .ne 7, 3) := by decide +kernel
theorem dL_digest_23 : decode cL_digest 23 = .ok (.iconst 0, 1) := by decide +kernel
theorem dL_digest_24 : decode cL_digest 24 = .ok (.goto 8, 3) := by decide +kernel
theorem dL_digest_27 : decode cL_digest 27 = .ok (.aload_n 0, 1) := by decide +kernel
theorem dL_digest_28 : decode cL_digest 28 = .ok (.iload_n 3, 1) := by decide +kernel
theorem dL_digest_29 : decode cL_digest 29 = .ok (.invokevirtual 13, 3) := by decide +kernel
theorem dL_digest_32 : decode cL_digest 32 = .ok (.i2l, 1) := by decide +kernel
theorem dL_digest_33 : decode cL_digest 33 = .ok (.ladd, 1) := by decide +kernel
theorem dL_digest_34 : decode cL_digest 34 = .ok (.lstore_n 1, 1) := by decide +kernel
theorem dL_digest_35 : decode cL_digest 35 = .ok (.iinc 3 1, 3) := by decide +kernel
theorem dL_digest_38 : decode cL_digest 38 = .ok (.goto (-32), 3) := by decide +kernel
theorem dL_digest_41 : decode cL_digest 41 = .ok (.iconst 0, 1) := by decide +kernel
theorem dL_digest_42 : decode cL_digest 42 = .ok (.istore_n 3, 1) := by decide +kernel
theorem dL_digest_43 : decode cL_digest 43 = .ok (.iload_n 3, 1) := by decide +kernel
theorem dL_digest_44 : decode cL_digest 44 = .ok (.aload_n 0, 1) := by decide +kernel
theorem dL_digest_45 : decode cL_digest 45 = .ok (.iconst 0, 1) := by decide +kernel
theorem dL_digest_46 : decode cL_digest 46 = .ok (.invokevirtual 13, 3) := by decide +kernel
theorem dL_digest_49 : decode cL_digest 49 = .ok (.if_icmp .ge 71, 3) := by decide +kernel
theorem dL_digest_52 : decode cL_digest 52 = .ok (.iconst 0, 1) := by decide +kernel
theorem dL_digest_53 : decode cL_digest 53 = .ok (.istore 4, 2) := by decide +kernel
theorem dL_digest_55 : decode cL_digest 55 = .ok (.iload 4, 2) := by decide +kernel
theorem dL_digest_57 : decode cL_digest 57 = .ok (.bipush 13, 2) := by decide +kernel
theorem dL_digest_59 : decode cL_digest 59 = .ok (.if_icmp .ge 24, 3) := by decide +kernel
theorem dL_digest_62 : decode cL_digest 62 = .ok (.ldc2_w 11, 3) := by decide +kernel
theorem dL_digest_65 : decode cL_digest 65 = .ok (.lload_n 1, 1) := by decide +kernel
theorem dL_digest_66 : decode cL_digest 66 = .ok (.lmul, 1) := by decide +kernel
theorem dL_digest_67 : decode cL_digest 67 = .ok (.aload_n 0, 1) := by decide +kernel
theorem dL_digest_68 : decode cL_digest 68 = .ok (.iload_n 3, 1) := by decide +kernel
theorem dL_digest_69 : decode cL_digest 69 = .ok (.iload 4, 2) := by decide +kernel
theorem dL_digest_71 : decode cL_digest 71 = .ok (.invokevirtual 19, 3) := by decide +kernel
theorem dL_digest_74 : decode cL_digest 74 = .ok (.i2l, 1) := by decide +kernel
theorem dL_digest_75 : decode cL_digest 75 = .ok (.ladd, 1) := by decide +kernel
theorem dL_digest_76 : decode cL_digest 76 = .ok (.lstore_n 1, 1) := by decide +kernel
theorem dL_digest_77 : decode cL_digest 77 = .ok (.iinc 4 1, 3) := by decide +kernel
theorem dL_digest_80 : decode cL_digest 80 = .ok (.goto (-25), 3) := by decide +kernel
theorem dL_digest_83 : decode cL_digest 83 = .ok (.iconst 0, 1) := by decide +kernel
theorem dL_digest_84 : decode cL_digest 84 = .ok (.istore 4, 2) := by decide +kernel
theorem dL_digest_86 : decode cL_digest 86 = .ok (.iload 4, 2) := by decide +kernel
theorem dL_digest_88 : decode cL_digest 88 = .ok (.bipush 7, 2) := by decide +kernel
theorem dL_digest_90 : decode cL_digest 90 = .ok (.if_icmp .ge 24, 3) := by decide +kernel
theorem dL_digest_93 : decode cL_digest 93 = .ok (.ldc2_w 11, 3) := by decide +kernel
theorem dL_digest_96 : decode cL_digest 96 = .ok (.lload_n 1, 1) := by decide +kernel
theorem dL_digest_97 : decode cL_digest 97 = .ok (.lmul, 1) := by decide +kernel
theorem dL_digest_98 : decode cL_digest 98 = .ok (.aload_n 0, 1) := by decide +kernel
theorem dL_digest_99 : decode cL_digest 99 = .ok (.iload_n 3, 1) := by decide +kernel
theorem dL_digest_100 : decode cL_digest 100 = .ok (.iload 4, 2) := by decide +kernel
theorem dL_digest_102 : decode cL_digest 102 = .ok (.invokevirtual 23, 3) := by decide +kernel
theorem dL_digest_105 : decode cL_digest 105 = .ok (.i2l, 1) := by decide +kernel
theorem dL_digest_106 : decode cL_digest 106 = .ok (.ladd, 1) := by decide +kernel
theorem dL_digest_107 : decode cL_digest 107 = .ok (.lstore_n 1, 1) := by decide +kernel
theorem dL_digest_108 : decode cL_digest 108 = .ok (.iinc 4 1, 3) := by decide +kernel
theorem dL_digest_111 : decode cL_digest 111 = .ok (.goto (-25), 3) := by decide +kernel
theorem dL_digest_114 : decode cL_digest 114 = .ok (.iinc 3 1, 3) := by decide +kernel
theorem dL_digest_117 : decode cL_digest 117 = .ok (.goto (-74), 3) := by decide +kernel
theorem dL_digest_120 : decode cL_digest 120 = .ok (.iconst 0, 1) := by decide +kernel
theorem dL_digest_121 : decode cL_digest 121 = .ok (.istore_n 3, 1) := by decide +kernel
theorem dL_digest_122 : decode cL_digest 122 = .ok (.iload_n 3, 1) := by decide +kernel
theorem dL_digest_123 : decode cL_digest 123 = .ok (.bipush 10, 2) := by decide +kernel
theorem dL_digest_125 : decode cL_digest 125 = .ok (.if_icmp .ge 47, 3) := by decide +kernel
theorem dL_digest_128 : decode cL_digest 128 = .ok (.ldc2_w 11, 3) := by decide +kernel
theorem dL_digest_131 : decode cL_digest 131 = .ok (.lload_n 1, 1) := by decide +kernel
theorem dL_digest_132 : decode cL_digest 132 = .ok (.lmul, 1) := by decide +kernel
theorem dL_digest_133 : decode cL_digest 133 = .ok (.ldc2_w 26, 3) := by decide +kernel
theorem dL_digest_136 : decode cL_digest 136 = .ok (.aload_n 0, 1) := by decide +kernel
theorem dL_digest_137 : decode cL_digest 137 = .ok (.iload_n 3, 1) := by decide +kernel
theorem dL_digest_138 : decode cL_digest 138 = .ok (.iconst 0, 1) := by decide +kernel
theorem dL_digest_139 : decode cL_digest 139 = .ok (.invokevirtual 28, 3) := by decide +kernel
theorem dL_digest_142 : decode cL_digest 142 = .ok (.i2l, 1) := by decide +kernel
theorem dL_digest_143 : decode cL_digest 143 = .ok (.lmul, 1) := by decide +kernel
theorem dL_digest_144 : decode cL_digest 144 = .ok (.ladd, 1) := by decide +kernel
theorem dL_digest_145 : decode cL_digest 145 = .ok (.ldc2_w 31, 3) := by decide +kernel
theorem dL_digest_148 : decode cL_digest 148 = .ok (.aload_n 0, 1) := by decide +kernel
theorem dL_digest_149 : decode cL_digest 149 = .ok (.iload_n 3, 1) := by decide +kernel
theorem dL_digest_150 : decode cL_digest 150 = .ok (.iconst 1, 1) := by decide +kernel
theorem dL_digest_151 : decode cL_digest 151 = .ok (.invokevirtual 28, 3) := by decide +kernel
theorem dL_digest_154 : decode cL_digest 154 = .ok (.i2l, 1) := by decide +kernel
theorem dL_digest_155 : decode cL_digest 155 = .ok (.lmul, 1) := by decide +kernel
theorem dL_digest_156 : decode cL_digest 156 = .ok (.ladd, 1) := by decide +kernel
theorem dL_digest_157 : decode cL_digest 157 = .ok (.aload_n 0, 1) := by decide +kernel
theorem dL_digest_158 : decode cL_digest 158 = .ok (.iload_n 3, 1) := by decide +kernel
theorem dL_digest_159 : decode cL_digest 159 = .ok (.iconst 2, 1) := by decide +kernel
theorem dL_digest_160 : decode cL_digest 160 = .ok (.invokevirtual 28, 3) := by decide +kernel
theorem dL_digest_163 : decode cL_digest 163 = .ok (.i2l, 1) := by decide +kernel
theorem dL_digest_164 : decode cL_digest 164 = .ok (.ladd, 1) := by decide +kernel
theorem dL_digest_165 : decode cL_digest 165 = .ok (.lstore_n 1, 1) := by decide +kernel
theorem dL_digest_166 : decode cL_digest 166 = .ok (.iinc 3 1, 3) := by decide +kernel
theorem dL_digest_169 : decode cL_digest 169 = .ok (.goto (-47), 3) := by decide +kernel
theorem dL_digest_172 : decode cL_digest 172 = .ok (.lload_n 1, 1) := by decide +kernel
theorem dL_digest_173 : decode cL_digest 173 = .ok (.lreturn, 1) := by decide +kernel
theorem dL_peak_0 : decode cL_peak 0 = .ok (.aload_n 0, 1) := by decide +kernel
theorem dL_peak_1 : decode cL_peak 1 = .ok (.iload_n 1, 1) := by decide +kernel
theorem dL_peak_2 : decode cL_peak 2 = .ok (.iconst 0, 1) := by decide +kernel
theorem dL_peak_3 : decode cL_peak 3 = .ok (.invokevirtual 19, 3) := by decide +kernel
theorem dL_peak_6 : decode cL_peak 6 = .ok (.aload_n 0, 1) := by decide +kernel
theorem dL_peak_7 : decode cL_peak 7 = .ok (.iload_n 1, 1) := by decide +kernel
theorem dL_peak_8 : decode cL_peak 8 = .ok (.iconst 2, 1) := by decide +kernel
theorem dL_peak_9 : decode cL_peak 9 = .ok (.invokevirtual 19, 3) := by decide +kernel
theorem dL_peak_12 : decode cL_peak 12 = .ok (.imul, 1) := by decide +kernel
theorem dL_peak_13 : decode cL_peak 13 = .ok (.ireturn, 1) := by decide +kernel
theorem dL_heatOf_0 : decode cL_heatOf 0 = .ok (.aload_n 0, 1) := by decide +kernel
theorem dL_heatOf_1 : decode cL_heatOf 1 = .ok (.iload_n 1, 1) := by decide +kernel
theorem dL_heatOf_2 : decode cL_heatOf 2 = .ok (.iconst 1, 1) := by decide +kernel
theorem dL_heatOf_3 : decode cL_heatOf 3 = .ok (.invokevirtual 19, 3) := by decide +kernel
theorem dL_heatOf_6 : decode cL_heatOf 6 = .ok (.istore_n 2, 1) := by decide +kernel
theorem dL_heatOf_7 : decode cL_heatOf 7 = .ok (.iconst 0, 1) := by decide +kernel
theorem dL_heatOf_8 : decode cL_heatOf 8 = .ok (.istore_n 3, 1) := by decide +kernel
theorem dL_heatOf_9 : decode cL_heatOf 9 = .ok (.iconst 1, 1) := by decide +kernel
theorem dL_heatOf_10 : decode cL_heatOf 10 = .ok (.istore 4, 2) := by decide +kernel
theorem dL_heatOf_12 : decode cL_heatOf 12 = .ok (.iload 4, 2) := by decide +kernel
theorem dL_heatOf_14 : decode cL_heatOf 14 = .ok (.iload_n 2, 1) := by decide +kernel
theorem dL_heatOf_15 : decode cL_heatOf 15 = .ok (.if_icmp .gt 57, 3) := by decide +kernel
theorem dL_heatOf_18 : decode cL_heatOf 18 = .ok (.aload_n 0, 1) := by decide +kernel
theorem dL_heatOf_19 : decode cL_heatOf 19 = .ok (.iload_n 1, 1) := by decide +kernel
theorem dL_heatOf_20 : decode cL_heatOf 20 = .ok (.invokestatic 33, 3) := by decide +kernel
theorem dL_heatOf_23 : decode cL_heatOf 23 = .ok (.iload 4, 2) := by decide +kernel
theorem dL_heatOf_25 : decode cL_heatOf 25 = .ok (.imul, 1) := by decide +kernel
theorem dL_heatOf_26 : decode cL_heatOf 26 = .ok (.iload_n 2, 1) := by decide +kernel
theorem dL_heatOf_27 : decode cL_heatOf 27 = .ok (.idiv, 1) := by decide +kernel
theorem dL_heatOf_28 : decode cL_heatOf 28 = .ok (.istore 5, 2) := by decide +kernel
theorem dL_heatOf_30 : decode cL_heatOf 30 = .ok (.iload 5, 2) := by decide +kernel
theorem dL_heatOf_32 : decode cL_heatOf 32 = .ok (.iload 5, 2) := by decide +kernel
theorem dL_heatOf_34 : decode cL_heatOf 34 = .ok (.iload_n 2, 1) := by decide +kernel
theorem dL_heatOf_35 : decode cL_heatOf 35 = .ok (.imul, 1) := by decide +kernel
theorem dL_heatOf_36 : decode cL_heatOf 36 = .ok (.aload_n 0, 1) := by decide +kernel
theorem dL_heatOf_37 : decode cL_heatOf 37 = .ok (.iload_n 1, 1) := by decide +kernel
theorem dL_heatOf_38 : decode cL_heatOf 38 = .ok (.invokestatic 33, 3) := by decide +kernel
theorem dL_heatOf_41 : decode cL_heatOf 41 = .ok (.iload 4, 2) := by decide +kernel
theorem dL_heatOf_43 : decode cL_heatOf 43 = .ok (.imul, 1) := by decide +kernel
theorem dL_heatOf_44 : decode cL_heatOf 44 = .ok (.if_icmp .ge 7, 3) := by decide +kernel
theorem dL_heatOf_47 : decode cL_heatOf 47 = .ok (.iconst 1, 1) := by decide +kernel
theorem dL_heatOf_48 : decode cL_heatOf 48 = .ok (.goto 4, 3) := by decide +kernel
theorem dL_heatOf_51 : decode cL_heatOf 51 = .ok (.iconst 0, 1) := by decide +kernel
theorem dL_heatOf_52 : decode cL_heatOf 52 = .ok (.iadd, 1) := by decide +kernel
theorem dL_heatOf_53 : decode cL_heatOf 53 = .ok (.istore 5, 2) := by decide +kernel
theorem dL_heatOf_55 : decode cL_heatOf 55 = .ok (.iload_n 3, 1) := by decide +kernel
theorem dL_heatOf_56 : decode cL_heatOf 56 = .ok (.iload 5, 2) := by decide +kernel
theorem dL_heatOf_58 : decode cL_heatOf 58 = .ok (.iload 5, 2) := by decide +kernel
theorem dL_heatOf_60 : decode cL_heatOf 60 = .ok (.imul, 1) := by decide +kernel
theorem dL_heatOf_61 : decode cL_heatOf 61 = .ok (.bipush 10, 2) := by decide +kernel
theorem dL_heatOf_63 : decode cL_heatOf 63 = .ok (.idiv, 1) := by decide +kernel
theorem dL_heatOf_64 : decode cL_heatOf 64 = .ok (.iadd, 1) := by decide +kernel
theorem dL_heatOf_65 : decode cL_heatOf 65 = .ok (.istore_n 3, 1) := by decide +kernel
theorem dL_heatOf_66 : decode cL_heatOf 66 = .ok (.iinc 4 1, 3) := by decide +kernel
theorem dL_heatOf_69 : decode cL_heatOf 69 = .ok (.goto (-57), 3) := by decide +kernel
theorem dL_heatOf_72 : decode cL_heatOf 72 = .ok (.iload_n 3, 1) := by decide +kernel
theorem dL_heatOf_73 : decode cL_heatOf 73 = .ok (.ireturn, 1) := by decide +kernel
theorem dL_why_0 : decode cL_why 0 = .ok (.aload_n 0, 1) := by decide +kernel
theorem dL_why_1 : decode cL_why 1 = .ok (.iload_n 1, 1) := by decide +kernel
theorem dL_why_2 : decode cL_why 2 = .ok (.bipush 7, 2) := by decide +kernel
theorem dL_why_4 : decode cL_why 4 = .ok (.invokevirtual 19, 3) := by decide +kernel
theorem dL_why_7 : decode cL_why 7 = .ok (.ifCond .eq 5, 3) := by decide +kernel
theorem dL_why_10 : decode cL_why 10 = .ok (.iconst 4, 1) := by decide +kernel
theorem dL_why_11 : decode cL_why 11 = .ok (.ireturn, 1) := by decide +kernel
theorem dL_why_12 : decode cL_why 12 = .ok (.aload_n 0, 1) := by decide +kernel
theorem dL_why_13 : decode cL_why 13 = .ok (.iload_n 1, 1) := by decide +kernel
theorem dL_why_14 : decode cL_why 14 = .ok (.iconst 3, 1) := by decide +kernel
theorem dL_why_15 : decode cL_why 15 = .ok (.invokevirtual 19, 3) := by decide +kernel
theorem dL_why_18 : decode cL_why 18 = .ok (.aload_n 0, 1) := by decide +kernel
theorem dL_why_19 : decode cL_why 19 = .ok (.iload_n 1, 1) := by decide +kernel
theorem dL_why_20 : decode cL_why 20 = .ok (.bipush 6, 2) := by decide +kernel
theorem dL_why_22 : decode cL_why 22 = .ok (.invokevirtual 19, 3) := by decide +kernel
theorem dL_why_25 : decode cL_why 25 = .ok (.isub, 1) := by decide +kernel
theorem dL_why_26 : decode cL_why 26 = .ok (.aload_n 0, 1) := by decide +kernel
theorem dL_why_27 : decode cL_why 27 = .ok (.iload_n 1, 1) := by decide +kernel
theorem dL_why_28 : decode cL_why 28 = .ok (.invokevirtual 39, 3) := by decide +kernel
theorem dL_why_31 : decode cL_why 31 = .ok (.if_icmp .ge 5, 3) := by decide +kernel
theorem dL_why_34 : decode cL_why 34 = .ok (.iconst 2, 1) := by decide +kernel
theorem dL_why_35 : decode cL_why 35 = .ok (.ireturn, 1) := by decide +kernel
theorem dL_why_36 : decode cL_why 36 = .ok (.aload_n 0, 1) := by decide +kernel
theorem dL_why_37 : decode cL_why 37 = .ok (.iload_n 1, 1) := by decide +kernel
theorem dL_why_38 : decode cL_why 38 = .ok (.invokestatic 33, 3) := by decide +kernel
theorem dL_why_41 : decode cL_why 41 = .ok (.istore_n 2, 1) := by decide +kernel
theorem dL_why_42 : decode cL_why 42 = .ok (.iconst 0, 1) := by decide +kernel
theorem dL_why_43 : decode cL_why 43 = .ok (.istore_n 3, 1) := by decide +kernel
theorem dL_why_44 : decode cL_why 44 = .ok (.iload_n 3, 1) := by decide +kernel
theorem dL_why_45 : decode cL_why 45 = .ok (.aload_n 0, 1) := by decide +kernel
theorem dL_why_46 : decode cL_why 46 = .ok (.iconst 0, 1) := by decide +kernel
theorem dL_why_47 : decode cL_why 47 = .ok (.invokevirtual 13, 3) := by decide +kernel
theorem dL_why_50 : decode cL_why 50 = .ok (.if_icmp .ge 51, 3) := by decide +kernel
theorem dL_why_53 : decode cL_why 53 = .ok (.aload_n 0, 1) := by decide +kernel
theorem dL_why_54 : decode cL_why 54 = .ok (.iload_n 3, 1) := by decide +kernel
theorem dL_why_55 : decode cL_why 55 = .ok (.iconst 5, 1) := by decide +kernel
theorem dL_why_56 : decode cL_why 56 = .ok (.invokevirtual 19, 3) := by decide +kernel
theorem dL_why_59 : decode cL_why 59 = .ok (.istore 4, 2) := by decide +kernel
theorem dL_why_61 : decode cL_why 61 = .ok (.iload_n 2, 1) := by decide +kernel
theorem dL_why_62 : decode cL_why 62 = .ok (.iload 4, 2) := by decide +kernel
theorem dL_why_64 : decode cL_why 64 = .ok (.iconst 2, 1) := by decide +kernel
theorem dL_why_65 : decode cL_why 65 = .ok (.if_icmp .ne 11, 3) := by decide +kernel
theorem dL_why_68 : decode cL_why 68 = .ok (.aload_n 0, 1) := by decide +kernel
theorem dL_why_69 : decode cL_why 69 = .ok (.iload_n 3, 1) := by decide +kernel
theorem dL_why_70 : decode cL_why 70 = .ok (.invokestatic 33, 3) := by decide +kernel
theorem dL_why_73 : decode cL_why 73 = .ok (.goto 20, 3) := by decide +kernel
theorem dL_why_76 : decode cL_why 76 = .ok (.iload 4, 2) := by decide +kernel
theorem dL_why_78 : decode cL_why 78 = .ok (.iconst 3, 1) := by decide +kernel
theorem dL_why_79 : decode cL_why 79 = .ok (.if_icmp .ne 13, 3) := by decide +kernel
theorem dL_why_82 : decode cL_why 82 = .ok (.aload_n 0, 1) := by decide +kernel
theorem dL_why_83 : decode cL_why 83 = .ok (.iload_n 3, 1) := by decide +kernel
theorem dL_why_84 : decode cL_why 84 = .ok (.bipush 10, 2) := by decide +kernel
theorem dL_why_86 : decode cL_why 86 = .ok (.invokevirtual 19, 3) := by decide +kernel
theorem dL_why_89 : decode cL_why 89 = .ok (.goto 4, 3) := by decide +kernel
theorem dL_why_92 : decode cL_why 92 = .ok (.iconst 0, 1) := by decide +kernel
theorem dL_why_93 : decode cL_why 93 = .ok (.iadd, 1) := by decide +kernel
theorem dL_why_94 : decode cL_why 94 = .ok (.istore_n 2, 1) := by decide +kernel
theorem dL_why_95 : decode cL_why 95 = .ok (.iinc 3 1, 3) := by decide +kernel
theorem dL_why_98 : decode cL_why 98 = .ok (.goto (-54), 3) := by decide +kernel
theorem dL_why_101 : decode cL_why 101 = .ok (.iload_n 2, 1) := by decide +kernel
theorem dL_why_102 : decode cL_why 102 = .ok (.aload_n 0, 1) := by decide +kernel
theorem dL_why_103 : decode cL_why 103 = .ok (.bipush 6, 2) := by decide +kernel
theorem dL_why_105 : decode cL_why 105 = .ok (.invokevirtual 13, 3) := by decide +kernel
theorem dL_why_108 : decode cL_why 108 = .ok (.if_icmp .le 7, 3) := by decide +kernel
theorem dL_why_111 : decode cL_why 111 = .ok (.iconst 3, 1) := by decide +kernel
theorem dL_why_112 : decode cL_why 112 = .ok (.goto 4, 3) := by decide +kernel
theorem dL_why_115 : decode cL_why 115 = .ok (.iconst 0, 1) := by decide +kernel
theorem dL_why_116 : decode cL_why 116 = .ok (.ireturn, 1) := by decide +kernel
theorem dL_urgency_0 : decode cL_urgency 0 = .ok (.aload_n 0, 1) := by decide +kernel
theorem dL_urgency_1 : decode cL_urgency 1 = .ok (.iload_n 1, 1) := by decide +kernel
theorem dL_urgency_2 : decode cL_urgency 2 = .ok (.iconst 4, 1) := by decide +kernel
theorem dL_urgency_3 : decode cL_urgency 3 = .ok (.invokevirtual 19, 3) := by decide +kernel
theorem dL_urgency_6 : decode cL_urgency 6 = .ok (.aload_n 0, 1) := by decide +kernel
theorem dL_urgency_7 : decode cL_urgency 7 = .ok (.iload_n 1, 1) := by decide +kernel
theorem dL_urgency_8 : decode cL_urgency 8 = .ok (.bipush 9, 2) := by decide +kernel
theorem dL_urgency_10 : decode cL_urgency 10 = .ok (.invokevirtual 19, 3) := by decide +kernel
theorem dL_urgency_13 : decode cL_urgency 13 = .ok (.bipush 10, 2) := by decide +kernel
theorem dL_urgency_15 : decode cL_urgency 15 = .ok (.idiv, 1) := by decide +kernel
theorem dL_urgency_16 : decode cL_urgency 16 = .ok (.iadd, 1) := by decide +kernel
theorem dL_urgency_17 : decode cL_urgency 17 = .ok (.ireturn, 1) := by decide +kernel
theorem dL_lines_0 : decode cL_lines 0 = .ok (.iconst 0, 1) := by decide +kernel
theorem dL_lines_1 : decode cL_lines 1 = .ok (.istore_n 1, 1) := by decide +kernel
theorem dL_lines_2 : decode cL_lines 2 = .ok (.aload_n 0, 1) := by decide +kernel
theorem dL_lines_3 : decode cL_lines 3 = .ok (.iconst 1, 1) := by decide +kernel
theorem dL_lines_4 : decode cL_lines 4 = .ok (.invokevirtual 13, 3) := by decide +kernel
theorem dL_lines_7 : decode cL_lines 7 = .ok (.istore_n 2, 1) := by decide +kernel
theorem dL_lines_8 : decode cL_lines 8 = .ok (.iconst 0, 1) := by decide +kernel
theorem dL_lines_9 : decode cL_lines 9 = .ok (.istore_n 3, 1) := by decide +kernel
theorem dL_lines_10 : decode cL_lines 10 = .ok (.iload_n 3, 1) := by decide +kernel
theorem dL_lines_11 : decode cL_lines 11 = .ok (.iload_n 2, 1) := by decide +kernel
theorem dL_lines_12 : decode cL_lines 12 = .ok (.if_icmp .ge 137, 3) := by decide +kernel
theorem dL_lines_15 : decode cL_lines 15 = .ok (.aload_n 0, 1) := by decide +kernel
theorem dL_lines_16 : decode cL_lines 16 = .ok (.iload_n 3, 1) := by decide +kernel
theorem dL_lines_17 : decode cL_lines 17 = .ok (.invokevirtual 42, 3) := by decide +kernel
theorem dL_lines_20 : decode cL_lines 20 = .ok (.istore 4, 2) := by decide +kernel
theorem dL_lines_22 : decode cL_lines 22 = .ok (.iload 4, 2) := by decide +kernel
theorem dL_lines_24 : decode cL_lines 24 = .ok (.ifCond .lt 24, 3) := by decide +kernel
theorem dL_lines_27 : decode cL_lines 27 = .ok (.iload_n 1, 1) := by decide +kernel
theorem dL_lines_28 : decode cL_lines 28 = .ok (.iload 4, 2) := by decide +kernel
theorem dL_lines_30 : decode cL_lines 30 = .ok (.ishr, 1) := by decide +kernel
theorem dL_lines_31 : decode cL_lines 31 = .ok (.iconst 1, 1) := by decide +kernel
theorem dL_lines_32 : decode cL_lines 32 = .ok (.iand, 1) := by decide +kernel
theorem dL_lines_33 : decode cL_lines 33 = .ok (.iconst 1, 1) := by decide +kernel
theorem dL_lines_34 : decode cL_lines 34 = .ok (.if_icmp .eq 14, 3) := by decide +kernel
theorem dL_lines_37 : decode cL_lines 37 = .ok (.aload_n 0, 1) := by decide +kernel
theorem dL_lines_38 : decode cL_lines 38 = .ok (.iload 4, 2) := by decide +kernel
theorem dL_lines_40 : decode cL_lines 40 = .ok (.iconst 5, 1) := by decide +kernel
theorem dL_lines_41 : decode cL_lines 41 = .ok (.invokevirtual 19, 3) := by decide +kernel
theorem dL_lines_44 : decode cL_lines 44 = .ok (.iconst 1, 1) := by decide +kernel
theorem dL_lines_45 : decode cL_lines 45 = .ok (.if_icmp .eq 5, 3) := by decide +kernel
theorem dL_lines_48 : decode cL_lines 48 = .ok (.iconst 0, 1) := by decide +kernel
theorem dL_lines_49 : decode cL_lines 49 = .ok (.ireturn, 1) := by decide +kernel
theorem dL_lines_50 : decode cL_lines 50 = .ok (.iload_n 1, 1) := by decide +kernel
theorem dL_lines_51 : decode cL_lines 51 = .ok (.iconst 1, 1) := by decide +kernel
theorem dL_lines_52 : decode cL_lines 52 = .ok (.iload 4, 2) := by decide +kernel
theorem dL_lines_54 : decode cL_lines 54 = .ok (.ishl, 1) := by decide +kernel
theorem dL_lines_55 : decode cL_lines 55 = .ok (.ior, 1) := by decide +kernel
theorem dL_lines_56 : decode cL_lines 56 = .ok (.istore_n 1, 1) := by decide +kernel
theorem dL_lines_57 : decode cL_lines 57 = .ok (.iload_n 3, 1) := by decide +kernel
theorem dL_lines_58 : decode cL_lines 58 = .ok (.ifCond .le 13, 3) := by decide +kernel
theorem dL_lines_61 : decode cL_lines 61 = .ok (.aload_n 0, 1) := by decide +kernel
theorem dL_lines_62 : decode cL_lines 62 = .ok (.iload_n 3, 1) := by decide +kernel
theorem dL_lines_63 : decode cL_lines 63 = .ok (.iconst 1, 1) := by decide +kernel
theorem dL_lines_64 : decode cL_lines 64 = .ok (.isub, 1) := by decide +kernel
theorem dL_lines_65 : decode cL_lines 65 = .ok (.invokevirtual 42, 3) := by decide +kernel
theorem dL_lines_68 : decode cL_lines 68 = .ok (.goto 5, 3) := by decide +kernel
theorem dL_lines_71 : decode cL_lines 71 = .ok (.iload 4, 2) := by decide +kernel
theorem dL_lines_73 : decode cL_lines 73 = .ok (.istore 5, 2) := by decide +kernel
theorem dL_lines_75 : decode cL_lines 75 = .ok (.aload_n 0, 1) := by decide +kernel
theorem dL_lines_76 : decode cL_lines 76 = .ok (.iload 5, 2) := by decide +kernel
theorem dL_lines_78 : decode cL_lines 78 = .ok (.invokestatic 45, 3) := by decide +kernel
theorem dL_lines_81 : decode cL_lines 81 = .ok (.aload_n 0, 1) := by decide +kernel
theorem dL_lines_82 : decode cL_lines 82 = .ok (.iload 4, 2) := by decide +kernel
theorem dL_lines_84 : decode cL_lines 84 = .ok (.invokestatic 45, 3) := by decide +kernel
theorem dL_lines_87 : decode cL_lines 87 = .ok (.isub, 1) := by decide +kernel
theorem dL_lines_88 : decode cL_lines 88 = .ok (.istore 6, 2) := by decide +kernel
theorem dL_lines_90 : decode cL_lines 90 = .ok (.aload_n 0, 1) := by decide +kernel
theorem dL_lines_91 : decode cL_lines 91 = .ok (.iload 5, 2) := by decide +kernel
theorem dL_lines_93 : decode cL_lines 93 = .ok (.bipush 9, 2) := by decide +kernel
theorem dL_lines_95 : decode cL_lines 95 = .ok (.invokevirtual 19, 3) := by decide +kernel
theorem dL_lines_98 : decode cL_lines 98 = .ok (.aload_n 0, 1) := by decide +kernel
theorem dL_lines_99 : decode cL_lines 99 = .ok (.iload 4, 2) := by decide +kernel
theorem dL_lines_101 : decode cL_lines 101 = .ok (.bipush 9, 2) := by decide +kernel
theorem dL_lines_103 : decode cL_lines 103 = .ok (.invokevirtual 19, 3) := by decide +kernel
theorem dL_lines_106 : decode cL_lines 106 = .ok (.isub, 1) := by decide +kernel
theorem dL_lines_107 : decode cL_lines 107 = .ok (.istore 7, 2) := by decide +kernel
theorem dL_lines_109 : decode cL_lines 109 = .ok (.iload 6, 2) := by decide +kernel
theorem dL_lines_111 : decode cL_lines 111 = .ok (.ifCond .lt 30, 3) := by decide +kernel
theorem dL_lines_114 : decode cL_lines 114 = .ok (.iload 6, 2) := by decide +kernel
theorem dL_lines_116 : decode cL_lines 116 = .ok (.ifCond .ne 8, 3) := by decide +kernel
theorem dL_lines_119 : decode cL_lines 119 = .ok (.iload 7, 2) := by decide +kernel
theorem dL_lines_121 : decode cL_lines 121 = .ok (.ifCond .lt 20, 3) := by decide +kernel
theorem dL_lines_124 : decode cL_lines 124 = .ok (.iload 6, 2) := by decide +kernel
theorem dL_lines_126 : decode cL_lines 126 = .ok (.ifCond .ne 17, 3) := by decide +kernel
theorem dL_lines_129 : decode cL_lines 129 = .ok (.iload 7, 2) := by decide +kernel
theorem dL_lines_131 : decode cL_lines 131 = .ok (.ifCond .ne 12, 3) := by decide +kernel
theorem dL_lines_134 : decode cL_lines 134 = .ok (.iload 5, 2) := by decide +kernel
theorem dL_lines_136 : decode cL_lines 136 = .ok (.iload 4, 2) := by decide +kernel
theorem dL_lines_138 : decode cL_lines 138 = .ok (.if_icmp .le 5, 3) := by decide +kernel
theorem dL_lines_141 : decode cL_lines 141 = .ok (.iconst 0, 1) := by decide +kernel
theorem dL_lines_142 : decode cL_lines 142 = .ok (.ireturn, 1) := by decide +kernel
theorem dL_lines_143 : decode cL_lines 143 = .ok (.iinc 3 1, 3) := by decide +kernel
theorem dL_lines_146 : decode cL_lines 146 = .ok (.goto (-136), 3) := by decide +kernel
theorem dL_lines_149 : decode cL_lines 149 = .ok (.aload_n 0, 1) := by decide +kernel
theorem dL_lines_150 : decode cL_lines 150 = .ok (.iload_n 2, 1) := by decide +kernel
theorem dL_lines_151 : decode cL_lines 151 = .ok (.invokevirtual 42, 3) := by decide +kernel
theorem dL_lines_154 : decode cL_lines 154 = .ok (.bipush (-4), 2) := by decide +kernel
theorem dL_lines_156 : decode cL_lines 156 = .ok (.if_icmp .ne 17, 3) := by decide +kernel
theorem dL_lines_159 : decode cL_lines 159 = .ok (.aload_n 0, 1) := by decide +kernel
theorem dL_lines_160 : decode cL_lines 160 = .ok (.iconst (-1), 1) := by decide +kernel
theorem dL_lines_161 : decode cL_lines 161 = .ok (.invokevirtual 42, 3) := by decide +kernel
theorem dL_lines_164 : decode cL_lines 164 = .ok (.bipush (-2), 2) := by decide +kernel
theorem dL_lines_166 : decode cL_lines 166 = .ok (.if_icmp .ne 7, 3) := by decide +kernel
theorem dL_lines_169 : decode cL_lines 169 = .ok (.iconst 1, 1) := by decide +kernel
theorem dL_lines_170 : decode cL_lines 170 = .ok (.goto 4, 3) := by decide +kernel
theorem dL_lines_173 : decode cL_lines 173 = .ok (.iconst 0, 1) := by decide +kernel
theorem dL_lines_174 : decode cL_lines 174 = .ok (.ireturn, 1) := by decide +kernel
theorem dL_sound_0 : decode cL_sound 0 = .ok (.bipush 8, 2) := by decide +kernel
theorem dL_sound_2 : decode cL_sound 2 = .ok (.newarray .int, 2) := by decide +kernel
theorem dL_sound_4 : decode cL_sound 4 = .ok (.astore_n 1, 1) := by decide +kernel
theorem dL_sound_5 : decode cL_sound 5 = .ok (.iconst 0, 1) := by decide +kernel
theorem dL_sound_6 : decode cL_sound 6 = .ok (.istore_n 2, 1) := by decide +kernel
theorem dL_sound_7 : decode cL_sound 7 = .ok (.iconst 0, 1) := by decide +kernel
theorem dL_sound_8 : decode cL_sound 8 = .ok (.istore_n 3, 1) := by decide +kernel
theorem dL_sound_9 : decode cL_sound 9 = .ok (.iconst 0, 1) := by decide +kernel
theorem dL_sound_10 : decode cL_sound 10 = .ok (.istore 4, 2) := by decide +kernel
theorem dL_sound_12 : decode cL_sound 12 = .ok (.iload 4, 2) := by decide +kernel
theorem dL_sound_14 : decode cL_sound 14 = .ok (.aload_n 0, 1) := by decide +kernel
theorem dL_sound_15 : decode cL_sound 15 = .ok (.iconst 0, 1) := by decide +kernel
theorem dL_sound_16 : decode cL_sound 16 = .ok (.invokevirtual 13, 3) := by decide +kernel
theorem dL_sound_19 : decode cL_sound 19 = .ok (.if_icmp .ge 313, 3) := by decide +kernel
theorem dL_sound_22 : decode cL_sound 22 = .ok (.aload_n 0, 1) := by decide +kernel
theorem dL_sound_23 : decode cL_sound 23 = .ok (.iload 4, 2) := by decide +kernel
theorem dL_sound_25 : decode cL_sound 25 = .ok (.iconst 5, 1) := by decide +kernel
theorem dL_sound_26 : decode cL_sound 26 = .ok (.invokevirtual 19, 3) := by decide +kernel
theorem dL_sound_29 : decode cL_sound 29 = .ok (.istore 5, 2) := by decide +kernel
theorem dL_sound_31 : decode cL_sound 31 = .ok (.aload_n 0, 1) := by decide +kernel
theorem dL_sound_32 : decode cL_sound 32 = .ok (.iload 4, 2) := by decide +kernel
theorem dL_sound_34 : decode cL_sound 34 = .ok (.bipush 6, 2) := by decide +kernel
theorem dL_sound_36 : decode cL_sound 36 = .ok (.invokevirtual 19, 3) := by decide +kernel
theorem dL_sound_39 : decode cL_sound 39 = .ok (.istore 6, 2) := by decide +kernel
theorem dL_sound_41 : decode cL_sound 41 = .ok (.aload_n 0, 1) := by decide +kernel
theorem dL_sound_42 : decode cL_sound 42 = .ok (.iload 4, 2) := by decide +kernel
theorem dL_sound_44 : decode cL_sound 44 = .ok (.iconst 3, 1) := by decide +kernel
theorem dL_sound_45 : decode cL_sound 45 = .ok (.invokevirtual 19, 3) := by decide +kernel
theorem dL_sound_48 : decode cL_sound 48 = .ok (.iload 6, 2) := by decide +kernel
theorem dL_sound_50 : decode cL_sound 50 = .ok (.isub, 1) := by decide +kernel
theorem dL_sound_51 : decode cL_sound 51 = .ok (.istore 7, 2) := by decide +kernel
theorem dL_sound_53 : decode cL_sound 53 = .ok (.aload_n 1, 1) := by decide +kernel
theorem dL_sound_54 : decode cL_sound 54 = .ok (.iload 5, 2) := by decide +kernel
theorem dL_sound_56 : decode cL_sound 56 = .ok (.dup2, 1) := by decide +kernel
theorem dL_sound_57 : decode cL_sound 57 = .ok (.iaload, 1) := by decide +kernel
theorem dL_sound_58 : decode cL_sound 58 = .ok (.iconst 1, 1) := by decide +kernel
theorem dL_sound_59 : decode cL_sound 59 = .ok (.iadd, 1) := by decide +kernel
theorem dL_sound_60 : decode cL_sound 60 = .ok (.iastore, 1) := by decide +kernel
theorem dL_sound_61 : decode cL_sound 61 = .ok (.iload_n 2, 1) := by decide +kernel
theorem dL_sound_62 : decode cL_sound 62 = .ok (.aload_n 0, 1) := by decide +kernel
theorem dL_sound_63 : decode cL_sound 63 = .ok (.iload 4, 2) := by decide +kernel
theorem dL_sound_65 : decode cL_sound 65 = .ok (.iconst 0, 1) := by decide +kernel
theorem dL_sound_66 : decode cL_sound 66 = .ok (.invokevirtual 23, 3) := by decide +kernel
theorem dL_sound_69 : decode cL_sound 69 = .ok (.iadd, 1) := by decide +kernel
theorem dL_sound_70 : decode cL_sound 70 = .ok (.istore_n 2, 1) := by decide +kernel
theorem dL_sound_71 : decode cL_sound 71 = .ok (.iload_n 3, 1) := by decide +kernel
theorem dL_sound_72 : decode cL_sound 72 = .ok (.aload_n 0, 1) := by decide +kernel
theorem dL_sound_73 : decode cL_sound 73 = .ok (.iload 4, 2) := by decide +kernel
theorem dL_sound_75 : decode cL_sound 75 = .ok (.bipush 10, 2) := by decide +kernel
theorem dL_sound_77 : decode cL_sound 77 = .ok (.invokevirtual 19, 3) := by decide +kernel
theorem dL_sound_80 : decode cL_sound 80 = .ok (.iadd, 1) := by decide +kernel
theorem dL_sound_81 : decode cL_sound 81 = .ok (.istore_n 3, 1) := by decide +kernel
theorem dL_sound_82 : decode cL_sound 82 = .ok (.aload_n 0, 1) := by decide +kernel
theorem dL_sound_83 : decode cL_sound 83 = .ok (.iload 4, 2) := by decide +kernel
theorem dL_sound_85 : decode cL_sound 85 = .ok (.iconst 0, 1) := by decide +kernel
theorem dL_sound_86 : decode cL_sound 86 = .ok (.invokevirtual 23, 3) := by decide +kernel
theorem dL_sound_89 : decode cL_sound 89 = .ok (.aload_n 0, 1) := by decide +kernel
theorem dL_sound_90 : decode cL_sound 90 = .ok (.iload 4, 2) := by decide +kernel
theorem dL_sound_92 : decode cL_sound 92 = .ok (.iconst 1, 1) := by decide +kernel
theorem dL_sound_93 : decode cL_sound 93 = .ok (.invokevirtual 23, 3) := by decide +kernel
theorem dL_sound_96 : decode cL_sound 96 = .ok (.iload 6, 2) := by decide +kernel
theorem dL_sound_98 : decode cL_sound 98 = .ok (.iadd, 1) := by decide +kernel
theorem dL_sound_99 : decode cL_sound 99 = .ok (.if_icmp .ne 40, 3) := by decide +kernel
theorem dL_sound_102 : decode cL_sound 102 = .ok (.aload_n 0, 1) := by decide +kernel
theorem dL_sound_103 : decode cL_sound 103 = .ok (.iload 4, 2) := by decide +kernel
theorem dL_sound_105 : decode cL_sound 105 = .ok (.bipush 12, 2) := by decide +kernel
theorem dL_sound_107 : decode cL_sound 107 = .ok (.invokevirtual 19, 3) := by decide +kernel
theorem dL_sound_110 : decode cL_sound 110 = .ok (.iload 7, 2) := by decide +kernel
theorem dL_sound_112 : decode cL_sound 112 = .ok (.ifCond .ge 7, 3) := by decide +kernel
theorem dL_sound_115 : decode cL_sound 115 = .ok (.iconst 0, 1) := by decide +kernel
theorem dL_sound_116 : decode cL_sound 116 = .ok (.goto 5, 3) := by decide +kernel
theorem dL_sound_119 : decode cL_sound 119 = .ok (.iload 7, 2) := by decide +kernel
theorem dL_sound_121 : decode cL_sound 121 = .ok (.if_icmp .ne 18, 3) := by decide +kernel
theorem dL_sound_124 : decode cL_sound 124 = .ok (.aload_n 0, 1) := by decide +kernel
theorem dL_sound_125 : decode cL_sound 125 = .ok (.iload 4, 2) := by decide +kernel
theorem dL_sound_127 : decode cL_sound 127 = .ok (.invokevirtual 39, 3) := by decide +kernel
theorem dL_sound_130 : decode cL_sound 130 = .ok (.aload_n 0, 1) := by decide +kernel
theorem dL_sound_131 : decode cL_sound 131 = .ok (.iload 4, 2) := by decide +kernel
theorem dL_sound_133 : decode cL_sound 133 = .ok (.invokestatic 48, 3) := by decide +kernel
theorem dL_sound_136 : decode cL_sound 136 = .ok (.if_icmp .eq 5, 3) := by decide +kernel
theorem dL_sound_139 : decode cL_sound 139 = .ok (.iconst 0, 1) := by decide +kernel
theorem dL_sound_140 : decode cL_sound 140 = .ok (.ireturn, 1) := by decide +kernel
theorem dL_sound_141 : decode cL_sound 141 = .ok (.aload_n 0, 1) := by decide +kernel
theorem dL_sound_142 : decode cL_sound 142 = .ok (.iload 4, 2) := by decide +kernel
theorem dL_sound_144 : decode cL_sound 144 = .ok (.bipush 8, 2) := by decide +kernel
theorem dL_sound_146 : decode cL_sound 146 = .ok (.invokevirtual 19, 3) := by decide +kernel
theorem dL_sound_149 : decode cL_sound 149 = .ok (.bipush (-4), 2) := by decide +kernel
theorem dL_sound_151 : decode cL_sound 151 = .ok (.if_icmp .ne 7, 3) := by decide +kernel
theorem dL_sound_154 : decode cL_sound 154 = .ok (.iconst 1, 1) := by decide +kernel
theorem dL_sound_155 : decode cL_sound 155 = .ok (.goto 4, 3) := by decide +kernel
theorem dL_sound_158 : decode cL_sound 158 = .ok (.iconst 0, 1) := by decide +kernel
theorem dL_sound_159 : decode cL_sound 159 = .ok (.iload 5, 2) := by decide +kernel
theorem dL_sound_161 : decode cL_sound 161 = .ok (.iconst 2, 1) := by decide +kernel
theorem dL_sound_162 : decode cL_sound 162 = .ok (.if_icmp .ne 7, 3) := by decide +kernel
theorem dL_sound_165 : decode cL_sound 165 = .ok (.iconst 1, 1) := by decide +kernel
theorem dL_sound_166 : decode cL_sound 166 = .ok (.goto 4, 3) := by decide +kernel
theorem dL_sound_169 : decode cL_sound 169 = .ok (.iconst 0, 1) := by decide +kernel
theorem dL_sound_170 : decode cL_sound 170 = .ok (.if_icmp .eq 84, 3) := by decide +kernel
theorem dL_sound_173 : decode cL_sound 173 = .ok (.aload_n 0, 1) := by decide +kernel
theorem dL_sound_174 : decode cL_sound 174 = .ok (.iload 4, 2) := by decide +kernel
theorem dL_sound_176 : decode cL_sound 176 = .ok (.bipush 9, 2) := by decide +kernel
theorem dL_sound_178 : decode cL_sound 178 = .ok (.invokevirtual 19, 3) := by decide +kernel
theorem dL_sound_181 : decode cL_sound 181 = .ok (.bipush (-4), 2) := by decide +kernel
theorem dL_sound_183 : decode cL_sound 183 = .ok (.if_icmp .ne 7, 3) := by decide +kernel
theorem dL_sound_186 : decode cL_sound 186 = .ok (.iconst 1, 1) := by decide +kernel
theorem dL_sound_187 : decode cL_sound 187 = .ok (.goto 4, 3) := by decide +kernel
theorem dL_sound_190 : decode cL_sound 190 = .ok (.iconst 0, 1) := by decide +kernel
theorem dL_sound_191 : decode cL_sound 191 = .ok (.iload 5, 2) := by decide +kernel
theorem dL_sound_193 : decode cL_sound 193 = .ok (.iconst 1, 1) := by decide +kernel
theorem dL_sound_194 : decode cL_sound 194 = .ok (.if_icmp .ne 7, 3) := by decide +kernel
theorem dL_sound_197 : decode cL_sound 197 = .ok (.iconst 1, 1) := by decide +kernel
theorem dL_sound_198 : decode cL_sound 198 = .ok (.goto 4, 3) := by decide +kernel
theorem dL_sound_201 : decode cL_sound 201 = .ok (.iconst 0, 1) := by decide +kernel
theorem dL_sound_202 : decode cL_sound 202 = .ok (.if_icmp .eq 52, 3) := by decide +kernel
theorem dL_sound_205 : decode cL_sound 205 = .ok (.aload_n 0, 1) := by decide +kernel
theorem dL_sound_206 : decode cL_sound 206 = .ok (.iload 4, 2) := by decide +kernel
theorem dL_sound_208 : decode cL_sound 208 = .ok (.bipush 11, 2) := by decide +kernel
theorem dL_sound_210 : decode cL_sound 210 = .ok (.invokevirtual 19, 3) := by decide +kernel
theorem dL_sound_213 : decode cL_sound 213 = .ok (.bipush (-4), 2) := by decide +kernel
theorem dL_sound_215 : decode cL_sound 215 = .ok (.if_icmp .ne 7, 3) := by decide +kernel
theorem dL_sound_218 : decode cL_sound 218 = .ok (.iconst 1, 1) := by decide +kernel
theorem dL_sound_219 : decode cL_sound 219 = .ok (.goto 4, 3) := by decide +kernel
theorem dL_sound_222 : decode cL_sound 222 = .ok (.iconst 0, 1) := by decide +kernel
theorem dL_sound_223 : decode cL_sound 223 = .ok (.iload 5, 2) := by decide +kernel
theorem dL_sound_225 : decode cL_sound 225 = .ok (.iconst 4, 1) := by decide +kernel
theorem dL_sound_226 : decode cL_sound 226 = .ok (.if_icmp .ne 7, 3) := by decide +kernel
theorem dL_sound_229 : decode cL_sound 229 = .ok (.iconst 1, 1) := by decide +kernel
theorem dL_sound_230 : decode cL_sound 230 = .ok (.goto 4, 3) := by decide +kernel
theorem dL_sound_233 : decode cL_sound 233 = .ok (.iconst 0, 1) := by decide +kernel
theorem dL_sound_234 : decode cL_sound 234 = .ok (.if_icmp .eq 20, 3) := by decide +kernel
theorem dL_sound_237 : decode cL_sound 237 = .ok (.iload 5, 2) := by decide +kernel
theorem dL_sound_239 : decode cL_sound 239 = .ok (.iconst 2, 1) := by decide +kernel
theorem dL_sound_240 : decode cL_sound 240 = .ok (.if_icmp .ne 16, 3) := by decide +kernel
theorem dL_sound_243 : decode cL_sound 243 = .ok (.aload_n 0, 1) := by decide +kernel
theorem dL_sound_244 : decode cL_sound 244 = .ok (.iload 4, 2) := by decide +kernel
theorem dL_sound_246 : decode cL_sound 246 = .ok (.bipush 7, 2) := by decide +kernel
theorem dL_sound_248 : decode cL_sound 248 = .ok (.invokevirtual 19, 3) := by decide +kernel
theorem dL_sound_251 : decode cL_sound 251 = .ok (.ifCond .eq 5, 3) := by decide +kernel
theorem dL_sound_254 : decode cL_sound 254 = .ok (.iconst 0, 1) := by decide +kernel
theorem dL_sound_255 : decode cL_sound 255 = .ok (.ireturn, 1) := by decide +kernel
theorem dL_sound_256 : decode cL_sound 256 = .ok (.aload_n 0, 1) := by decide +kernel
theorem dL_sound_257 : decode cL_sound 257 = .ok (.iload 4, 2) := by decide +kernel
theorem dL_sound_259 : decode cL_sound 259 = .ok (.invokevirtual 51, 3) := by decide +kernel
theorem dL_sound_262 : decode cL_sound 262 = .ok (.iload 5, 2) := by decide +kernel
theorem dL_sound_264 : decode cL_sound 264 = .ok (.iconst 1, 1) := by decide +kernel
theorem dL_sound_265 : decode cL_sound 265 = .ok (.if_icmp .ne 12, 3) := by decide +kernel
theorem dL_sound_268 : decode cL_sound 268 = .ok (.aload_n 0, 1) := by decide +kernel
theorem dL_sound_269 : decode cL_sound 269 = .ok (.iload 4, 2) := by decide +kernel
theorem dL_sound_271 : decode cL_sound 271 = .ok (.invokestatic 54, 3) := by decide +kernel
theorem dL_sound_274 : decode cL_sound 274 = .ok (.goto 5, 3) := by decide +kernel
theorem dL_sound_277 : decode cL_sound 277 = .ok (.bipush (-4), 2) := by decide +kernel
theorem dL_sound_279 : decode cL_sound 279 = .ok (.if_icmp .ne 45, 3) := by decide +kernel
theorem dL_sound_282 : decode cL_sound 282 = .ok (.iload 5, 2) := by decide +kernel
theorem dL_sound_284 : decode cL_sound 284 = .ok (.iconst 2, 1) := by decide +kernel
theorem dL_sound_285 : decode cL_sound 285 = .ok (.if_icmp .eq 20, 3) := by decide +kernel
theorem dL_sound_288 : decode cL_sound 288 = .ok (.iload 5, 2) := by decide +kernel
theorem dL_sound_290 : decode cL_sound 290 = .ok (.iconst 3, 1) := by decide +kernel
theorem dL_sound_291 : decode cL_sound 291 = .ok (.if_icmp .eq 14, 3) := by decide +kernel
theorem dL_sound_294 : decode cL_sound 294 = .ok (.aload_n 0, 1) := by decide +kernel
theorem dL_sound_295 : decode cL_sound 295 = .ok (.iload 4, 2) := by decide +kernel
theorem dL_sound_297 : decode cL_sound 297 = .ok (.bipush 10, 2) := by decide +kernel
theorem dL_sound_299 : decode cL_sound 299 = .ok (.invokevirtual 19, 3) := by decide +kernel
theorem dL_sound_302 : decode cL_sound 302 = .ok (.ifCond .ne 22, 3) := by decide +kernel
theorem dL_sound_305 : decode cL_sound 305 = .ok (.aload_n 0, 1) := by decide +kernel
theorem dL_sound_306 : decode cL_sound 306 = .ok (.iload 4, 2) := by decide +kernel
theorem dL_sound_308 : decode cL_sound 308 = .ok (.iconst 4, 1) := by decide +kernel
theorem dL_sound_309 : decode cL_sound 309 = .ok (.invokevirtual 23, 3) := by decide +kernel
theorem dL_sound_312 : decode cL_sound 312 = .ok (.aload_n 0, 1) := by decide +kernel
theorem dL_sound_313 : decode cL_sound 313 = .ok (.iload 4, 2) := by decide +kernel
theorem dL_sound_315 : decode cL_sound 315 = .ok (.iconst 2, 1) := by decide +kernel
theorem dL_sound_316 : decode cL_sound 316 = .ok (.invokevirtual 23, 3) := by decide +kernel
theorem dL_sound_319 : decode cL_sound 319 = .ok (.iconst 1, 1) := by decide +kernel
theorem dL_sound_320 : decode cL_sound 320 = .ok (.isub, 1) := by decide +kernel
theorem dL_sound_321 : decode cL_sound 321 = .ok (.if_icmp .ge 5, 3) := by decide +kernel
theorem dL_sound_324 : decode cL_sound 324 = .ok (.iconst 0, 1) := by decide +kernel
theorem dL_sound_325 : decode cL_sound 325 = .ok (.ireturn, 1) := by decide +kernel
theorem dL_sound_326 : decode cL_sound 326 = .ok (.iinc 4 1, 3) := by decide +kernel
theorem dL_sound_329 : decode cL_sound 329 = .ok (.goto (-317), 3) := by decide +kernel
theorem dL_sound_332 : decode cL_sound 332 = .ok (.iconst 1, 1) := by decide +kernel
theorem dL_sound_333 : decode cL_sound 333 = .ok (.istore 4, 2) := by decide +kernel
theorem dL_sound_335 : decode cL_sound 335 = .ok (.iload 4, 2) := by decide +kernel
theorem dL_sound_337 : decode cL_sound 337 = .ok (.iconst 5, 1) := by decide +kernel
theorem dL_sound_338 : decode cL_sound 338 = .ok (.if_icmp .ge 24, 3) := by decide +kernel
theorem dL_sound_341 : decode cL_sound 341 = .ok (.aload_n 0, 1) := by decide +kernel
theorem dL_sound_342 : decode cL_sound 342 = .ok (.iload 4, 2) := by decide +kernel
theorem dL_sound_344 : decode cL_sound 344 = .ok (.invokevirtual 13, 3) := by decide +kernel
theorem dL_sound_347 : decode cL_sound 347 = .ok (.aload_n 1, 1) := by decide +kernel
theorem dL_sound_348 : decode cL_sound 348 = .ok (.iload 4, 2) := by decide +kernel
theorem dL_sound_350 : decode cL_sound 350 = .ok (.iaload, 1) := by decide +kernel
theorem dL_sound_351 : decode cL_sound 351 = .ok (.if_icmp .eq 5, 3) := by decide +kernel
theorem dL_sound_354 : decode cL_sound 354 = .ok (.iconst 0, 1) := by decide +kernel
theorem dL_sound_355 : decode cL_sound 355 = .ok (.ireturn, 1) := by decide +kernel
theorem dL_sound_356 : decode cL_sound 356 = .ok (.iinc 4 1, 3) := by decide +kernel
theorem dL_sound_359 : decode cL_sound 359 = .ok (.goto (-24), 3) := by decide +kernel
theorem dL_sound_362 : decode cL_sound 362 = .ok (.aload_n 1, 1) := by decide +kernel
theorem dL_sound_363 : decode cL_sound 363 = .ok (.iconst 0, 1) := by decide +kernel
theorem dL_sound_364 : decode cL_sound 364 = .ok (.iaload, 1) := by decide +kernel
theorem dL_sound_365 : decode cL_sound 365 = .ok (.aload_n 1, 1) := by decide +kernel
theorem dL_sound_366 : decode cL_sound 366 = .ok (.iconst 1, 1) := by decide +kernel
theorem dL_sound_367 : decode cL_sound 367 = .ok (.iaload, 1) := by decide +kernel
theorem dL_sound_368 : decode cL_sound 368 = .ok (.iadd, 1) := by decide +kernel
theorem dL_sound_369 : decode cL_sound 369 = .ok (.aload_n 1, 1) := by decide +kernel
theorem dL_sound_370 : decode cL_sound 370 = .ok (.iconst 2, 1) := by decide +kernel
theorem dL_sound_371 : decode cL_sound 371 = .ok (.iaload, 1) := by decide +kernel
theorem dL_sound_372 : decode cL_sound 372 = .ok (.iadd, 1) := by decide +kernel
theorem dL_sound_373 : decode cL_sound 373 = .ok (.aload_n 1, 1) := by decide +kernel
theorem dL_sound_374 : decode cL_sound 374 = .ok (.iconst 3, 1) := by decide +kernel
theorem dL_sound_375 : decode cL_sound 375 = .ok (.iaload, 1) := by decide +kernel
theorem dL_sound_376 : decode cL_sound 376 = .ok (.iadd, 1) := by decide +kernel
theorem dL_sound_377 : decode cL_sound 377 = .ok (.aload_n 1, 1) := by decide +kernel
theorem dL_sound_378 : decode cL_sound 378 = .ok (.iconst 4, 1) := by decide +kernel
theorem dL_sound_379 : decode cL_sound 379 = .ok (.iaload, 1) := by decide +kernel
theorem dL_sound_380 : decode cL_sound 380 = .ok (.iadd, 1) := by decide +kernel
theorem dL_sound_381 : decode cL_sound 381 = .ok (.istore 4, 2) := by decide +kernel
theorem dL_sound_383 : decode cL_sound 383 = .ok (.iload 4, 2) := by decide +kernel
theorem dL_sound_385 : decode cL_sound 385 = .ok (.aload_n 0, 1) := by decide +kernel
theorem dL_sound_386 : decode cL_sound 386 = .ok (.iconst 0, 1) := by decide +kernel
theorem dL_sound_387 : decode cL_sound 387 = .ok (.invokevirtual 13, 3) := by decide +kernel
theorem dL_sound_390 : decode cL_sound 390 = .ok (.if_icmp .ne 73, 3) := by decide +kernel
theorem dL_sound_393 : decode cL_sound 393 = .ok (.aload_n 0, 1) := by decide +kernel
theorem dL_sound_394 : decode cL_sound 394 = .ok (.invokestatic 57, 3) := by decide +kernel
theorem dL_sound_397 : decode cL_sound 397 = .ok (.ifCond .eq 66, 3) := by decide +kernel
theorem dL_sound_400 : decode cL_sound 400 = .ok (.aload_n 0, 1) := by decide +kernel
theorem dL_sound_401 : decode cL_sound 401 = .ok (.bipush 11, 2) := by decide +kernel
theorem dL_sound_403 : decode cL_sound 403 = .ok (.invokevirtual 13, 3) := by decide +kernel
theorem dL_sound_406 : decode cL_sound 406 = .ok (.iload_n 2, 1) := by decide +kernel
theorem dL_sound_407 : decode cL_sound 407 = .ok (.if_icmp .ne 56, 3) := by decide +kernel
theorem dL_sound_410 : decode cL_sound 410 = .ok (.iload_n 2, 1) := by decide +kernel
theorem dL_sound_411 : decode cL_sound 411 = .ok (.aload_n 0, 1) := by decide +kernel
theorem dL_sound_412 : decode cL_sound 412 = .ok (.bipush 12, 2) := by decide +kernel
theorem dL_sound_414 : decode cL_sound 414 = .ok (.invokevirtual 13, 3) := by decide +kernel
theorem dL_sound_417 : decode cL_sound 417 = .ok (.aload_n 0, 1) := by decide +kernel
theorem dL_sound_418 : decode cL_sound 418 = .ok (.bipush 13, 2) := by decide +kernel
theorem dL_sound_420 : decode cL_sound 420 = .ok (.invokevirtual 13, 3) := by decide +kernel
theorem dL_sound_423 : decode cL_sound 423 = .ok (.iadd, 1) := by decide +kernel
theorem dL_sound_424 : decode cL_sound 424 = .ok (.if_icmp .ne 39, 3) := by decide +kernel
theorem dL_sound_427 : decode cL_sound 427 = .ok (.aload_n 0, 1) := by decide +kernel
theorem dL_sound_428 : decode cL_sound 428 = .ok (.bipush 14, 2) := by decide +kernel
theorem dL_sound_430 : decode cL_sound 430 = .ok (.invokevirtual 13, 3) := by decide +kernel
theorem dL_sound_433 : decode cL_sound 433 = .ok (.iload_n 3, 1) := by decide +kernel
theorem dL_sound_434 : decode cL_sound 434 = .ok (.if_icmp .ne 29, 3) := by decide +kernel
theorem dL_sound_437 : decode cL_sound 437 = .ok (.aload_n 0, 1) := by decide +kernel
theorem dL_sound_438 : decode cL_sound 438 = .ok (.iload 4, 2) := by decide +kernel
theorem dL_sound_440 : decode cL_sound 440 = .ok (.iconst 0, 1) := by decide +kernel
theorem dL_sound_441 : decode cL_sound 441 = .ok (.invokevirtual 19, 3) := by decide +kernel
theorem dL_sound_444 : decode cL_sound 444 = .ok (.iconst (-1), 1) := by decide +kernel
theorem dL_sound_445 : decode cL_sound 445 = .ok (.if_icmp .ne 18, 3) := by decide +kernel
theorem dL_sound_448 : decode cL_sound 448 = .ok (.aload_n 0, 1) := by decide +kernel
theorem dL_sound_449 : decode cL_sound 449 = .ok (.bipush 18, 2) := by decide +kernel
theorem dL_sound_451 : decode cL_sound 451 = .ok (.invokevirtual 13, 3) := by decide +kernel
theorem dL_sound_454 : decode cL_sound 454 = .ok (.bipush (-2), 2) := by decide +kernel
theorem dL_sound_456 : decode cL_sound 456 = .ok (.if_icmp .ne 7, 3) := by decide +kernel
theorem dL_sound_459 : decode cL_sound 459 = .ok (.iconst 1, 1) := by decide +kernel
theorem dL_sound_460 : decode cL_sound 460 = .ok (.goto 4, 3) := by decide +kernel
theorem dL_sound_463 : decode cL_sound 463 = .ok (.iconst 0, 1) := by decide +kernel
theorem dL_sound_464 : decode cL_sound 464 = .ok (.ireturn, 1) := by decide +kernel
theorem dL_passedOver_0 : decode cL_passedOver 0 = .ok (.iconst 0, 1) := by decide +kernel
theorem dL_passedOver_1 : decode cL_passedOver 1 = .ok (.istore_n 1, 1) := by decide +kernel
theorem dL_passedOver_2 : decode cL_passedOver 2 = .ok (.iconst 0, 1) := by decide +kernel
theorem dL_passedOver_3 : decode cL_passedOver 3 = .ok (.istore_n 2, 1) := by decide +kernel
theorem dL_passedOver_4 : decode cL_passedOver 4 = .ok (.iload_n 2, 1) := by decide +kernel
theorem dL_passedOver_5 : decode cL_passedOver 5 = .ok (.aload_n 0, 1) := by decide +kernel
theorem dL_passedOver_6 : decode cL_passedOver 6 = .ok (.iconst 0, 1) := by decide +kernel
theorem dL_passedOver_7 : decode cL_passedOver 7 = .ok (.invokevirtual 13, 3) := by decide +kernel
theorem dL_passedOver_10 : decode cL_passedOver 10 = .ok (.if_icmp .ge 19, 3) := by decide +kernel
theorem dL_passedOver_13 : decode cL_passedOver 13 = .ok (.iload_n 1, 1) := by decide +kernel
theorem dL_passedOver_14 : decode cL_passedOver 14 = .ok (.aload_n 0, 1) := by decide +kernel
theorem dL_passedOver_15 : decode cL_passedOver 15 = .ok (.iload_n 2, 1) := by decide +kernel
theorem dL_passedOver_16 : decode cL_passedOver 16 = .ok (.bipush 6, 2) := by decide +kernel
theorem dL_passedOver_18 : decode cL_passedOver 18 = .ok (.invokevirtual 23, 3) := by decide +kernel
theorem dL_passedOver_21 : decode cL_passedOver 21 = .ok (.iadd, 1) := by decide +kernel
theorem dL_passedOver_22 : decode cL_passedOver 22 = .ok (.istore_n 1, 1) := by decide +kernel
theorem dL_passedOver_23 : decode cL_passedOver 23 = .ok (.iinc 2 1, 3) := by decide +kernel
theorem dL_passedOver_26 : decode cL_passedOver 26 = .ok (.goto (-22), 3) := by decide +kernel
theorem dL_passedOver_29 : decode cL_passedOver 29 = .ok (.iload_n 1, 1) := by decide +kernel
theorem dL_passedOver_30 : decode cL_passedOver 30 = .ok (.ireturn, 1) := by decide +kernel
theorem dL_second_0 : decode cL_second 0 = .ok (.iconst 0, 1) := by decide +kernel
theorem dL_second_1 : decode cL_second 1 = .ok (.istore_n 1, 1) := by decide +kernel
theorem dL_second_2 : decode cL_second 2 = .ok (.aload_n 0, 1) := by decide +kernel
theorem dL_second_3 : decode cL_second 3 = .ok (.iconst 0, 1) := by decide +kernel
theorem dL_second_4 : decode cL_second 4 = .ok (.invokevirtual 42, 3) := by decide +kernel
theorem dL_second_7 : decode cL_second 7 = .ok (.istore_n 2, 1) := by decide +kernel
theorem dL_second_8 : decode cL_second 8 = .ok (.iload_n 2, 1) := by decide +kernel
theorem dL_second_9 : decode cL_second 9 = .ok (.ifCond .lt 23, 3) := by decide +kernel
theorem dL_second_12 : decode cL_second 12 = .ok (.aload_n 0, 1) := by decide +kernel
theorem dL_second_13 : decode cL_second 13 = .ok (.iload_n 2, 1) := by decide +kernel
theorem dL_second_14 : decode cL_second 14 = .ok (.invokevirtual 51, 3) := by decide +kernel
theorem dL_second_17 : decode cL_second 17 = .ok (.ifCond .eq 15, 3) := by decide +kernel
theorem dL_second_20 : decode cL_second 20 = .ok (.iinc 1 1, 3) := by decide +kernel
theorem dL_second_23 : decode cL_second 23 = .ok (.aload_n 0, 1) := by decide +kernel
theorem dL_second_24 : decode cL_second 24 = .ok (.iload_n 1, 1) := by decide +kernel
theorem dL_second_25 : decode cL_second 25 = .ok (.invokevirtual 42, 3) := by decide +kernel
theorem dL_second_28 : decode cL_second 28 = .ok (.istore_n 2, 1) := by decide +kernel
theorem dL_second_29 : decode cL_second 29 = .ok (.goto (-21), 3) := by decide +kernel
theorem dL_second_32 : decode cL_second 32 = .ok (.aload_n 0, 1) := by decide +kernel
theorem dL_second_33 : decode cL_second 33 = .ok (.iconst 5, 1) := by decide +kernel
theorem dL_second_34 : decode cL_second 34 = .ok (.invokevirtual 13, 3) := by decide +kernel
theorem dL_second_37 : decode cL_second 37 = .ok (.istore_n 3, 1) := by decide +kernel
theorem dL_second_38 : decode cL_second 38 = .ok (.iload_n 2, 1) := by decide +kernel
theorem dL_second_39 : decode cL_second 39 = .ok (.ifCond .ge 7, 3) := by decide +kernel
theorem dL_second_42 : decode cL_second 42 = .ok (.iconst 0, 1) := by decide +kernel
theorem dL_second_43 : decode cL_second 43 = .ok (.goto 9, 3) := by decide +kernel
theorem dL_second_46 : decode cL_second 46 = .ok (.aload_n 0, 1) := by decide +kernel
theorem dL_second_47 : decode cL_second 47 = .ok (.iload_n 2, 1) := by decide +kernel
theorem dL_second_48 : decode cL_second 48 = .ok (.iconst 2, 1) := by decide +kernel
theorem dL_second_49 : decode cL_second 49 = .ok (.invokevirtual 23, 3) := by decide +kernel
theorem dL_second_52 : decode cL_second 52 = .ok (.istore 4, 2) := by decide +kernel
theorem dL_second_54 : decode cL_second 54 = .ok (.aload_n 0, 1) := by decide +kernel
theorem dL_second_55 : decode cL_second 55 = .ok (.invokestatic 61, 3) := by decide +kernel
theorem dL_second_58 : decode cL_second 58 = .ok (.istore 5, 2) := by decide +kernel
theorem dL_second_60 : decode cL_second 60 = .ok (.aload_n 0, 1) := by decide +kernel
theorem dL_second_61 : decode cL_second 61 = .ok (.iconst 2, 1) := by decide +kernel
theorem dL_second_62 : decode cL_second 62 = .ok (.invokevirtual 13, 3) := by decide +kernel
theorem dL_second_65 : decode cL_second 65 = .ok (.istore 6, 2) := by decide +kernel
theorem dL_second_67 : decode cL_second 67 = .ok (.aload_n 0, 1) := by decide +kernel
theorem dL_second_68 : decode cL_second 68 = .ok (.iconst 1, 1) := by decide +kernel
theorem dL_second_69 : decode cL_second 69 = .ok (.invokevirtual 65, 3) := by decide +kernel
theorem dL_second_72 : decode cL_second 72 = .ok (.istore 7, 2) := by decide +kernel
theorem dL_second_74 : decode cL_second 74 = .ok (.iload 7, 2) := by decide +kernel
theorem dL_second_76 : decode cL_second 76 = .ok (.iload_n 2, 1) := by decide +kernel
theorem dL_second_77 : decode cL_second 77 = .ok (.ifCond .ge 7, 3) := by decide +kernel
theorem dL_second_80 : decode cL_second 80 = .ok (.iconst 0, 1) := by decide +kernel
theorem dL_second_81 : decode cL_second 81 = .ok (.goto 4, 3) := by decide +kernel
theorem dL_second_84 : decode cL_second 84 = .ok (.iconst 1, 1) := by decide +kernel
theorem dL_second_85 : decode cL_second 85 = .ok (.if_icmp .ne 33, 3) := by decide +kernel
theorem dL_second_88 : decode cL_second 88 = .ok (.aload_n 0, 1) := by decide +kernel
theorem dL_second_89 : decode cL_second 89 = .ok (.iconst 5, 1) := by decide +kernel
theorem dL_second_90 : decode cL_second 90 = .ok (.invokevirtual 13, 3) := by decide +kernel
theorem dL_second_93 : decode cL_second 93 = .ok (.iload_n 3, 1) := by decide +kernel
theorem dL_second_94 : decode cL_second 94 = .ok (.iconst 1, 1) := by decide +kernel
theorem dL_second_95 : decode cL_second 95 = .ok (.iadd, 1) := by decide +kernel
theorem dL_second_96 : decode cL_second 96 = .ok (.if_icmp .ne 22, 3) := by decide +kernel
theorem dL_second_99 : decode cL_second 99 = .ok (.aload_n 0, 1) := by decide +kernel
theorem dL_second_100 : decode cL_second 100 = .ok (.invokestatic 61, 3) := by decide +kernel
theorem dL_second_103 : decode cL_second 103 = .ok (.iload 5, 2) := by decide +kernel
theorem dL_second_105 : decode cL_second 105 = .ok (.iload_n 2, 1) := by decide +kernel
theorem dL_second_106 : decode cL_second 106 = .ok (.ifCond .ge 7, 3) := by decide +kernel
theorem dL_second_109 : decode cL_second 109 = .ok (.iconst 0, 1) := by decide +kernel
theorem dL_second_110 : decode cL_second 110 = .ok (.goto 4, 3) := by decide +kernel
theorem dL_second_113 : decode cL_second 113 = .ok (.iload_n 1, 1) := by decide +kernel
theorem dL_second_114 : decode cL_second 114 = .ok (.iadd, 1) := by decide +kernel
theorem dL_second_115 : decode cL_second 115 = .ok (.if_icmp .eq 5, 3) := by decide +kernel
theorem dL_second_118 : decode cL_second 118 = .ok (.iconst 0, 1) := by decide +kernel
theorem dL_second_119 : decode cL_second 119 = .ok (.ireturn, 1) := by decide +kernel
theorem dL_second_120 : decode cL_second 120 = .ok (.iload_n 2, 1) := by decide +kernel
