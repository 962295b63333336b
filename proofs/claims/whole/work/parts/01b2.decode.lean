theorem dX3_likelihood_85 : decode cX3_likelihood 85 = .ok (.aload_n 0, 1) := by decide +kernel
theorem dX3_likelihood_86 : decode cX3_likelihood 86 = .ok (.getfield 12, 3) := by decide +kernel
theorem dX3_likelihood_89 : decode cX3_likelihood 89 = .ok (.iload_n 1, 1) := by decide +kernel
theorem dX3_likelihood_90 : decode cX3_likelihood 90 = .ok (.iload 9, 2) := by decide +kernel
theorem dX3_likelihood_92 : decode cX3_likelihood 92 = .ok (.invokevirtual 155, 3) := by decide +kernel
theorem dX3_likelihood_95 : decode cX3_likelihood 95 = .ok (.bipush 10, 2) := by decide +kernel
theorem dX3_likelihood_97 : decode cX3_likelihood 97 = .ok (.if_icmp .eq 6, 3) := by decide +kernel
theorem dX3_likelihood_100 : decode cX3_likelihood 100 = .ok (.lconst 0, 1) := by decide +kernel
theorem dX3_likelihood_101 : decode cX3_likelihood 101 = .ok (.lstore 7, 2) := by decide +kernel
theorem dX3_likelihood_103 : decode cX3_likelihood 103 = .ok (.iinc 9 1, 3) := by decide +kernel
theorem dX3_likelihood_106 : decode cX3_likelihood 106 = .ok (.goto (-97), 3) := by decide +kernel
theorem dX3_likelihood_109 : decode cX3_likelihood 109 = .ok (.lload 5, 2) := by decide +kernel
theorem dX3_likelihood_111 : decode cX3_likelihood 111 = .ok (.lload 7, 2) := by decide +kernel
theorem dX3_likelihood_113 : decode cX3_likelihood 113 = .ok (.lsub, 1) := by decide +kernel
theorem dX3_likelihood_114 : decode cX3_likelihood 114 = .ok (.lstore 9, 2) := by decide +kernel
theorem dX3_likelihood_116 : decode cX3_likelihood 116 = .ok (.lload 5, 2) := by decide +kernel
theorem dX3_likelihood_118 : decode cX3_likelihood 118 = .ok (.lload 9, 2) := by decide +kernel
theorem dX3_likelihood_120 : decode cX3_likelihood 120 = .ok (.invokestatic 158, 3) := by decide +kernel
theorem dX3_likelihood_123 : decode cX3_likelihood 123 = .ok (.lstore 11, 2) := by decide +kernel
theorem dX3_likelihood_125 : decode cX3_likelihood 125 = .ok (.lload 11, 2) := by decide +kernel
theorem dX3_likelihood_127 : decode cX3_likelihood 127 = .ok (.lconst 1, 1) := by decide +kernel
theorem dX3_likelihood_128 : decode cX3_likelihood 128 = .ok (.lcmp, 1) := by decide +kernel
theorem dX3_likelihood_129 : decode cX3_likelihood 129 = .ok (.ifCond .ge 7, 3) := by decide +kernel
theorem dX3_likelihood_132 : decode cX3_likelihood 132 = .ok (.ldc2_w 162, 3) := by decide +kernel
theorem dX3_likelihood_135 : decode cX3_likelihood 135 = .ok (.lreturn, 1) := by decide +kernel
theorem dX3_likelihood_136 : decode cX3_likelihood 136 = .ok (.iload 4, 2) := by decide +kernel
theorem dX3_likelihood_138 : decode cX3_likelihood 138 = .ok (.ifCond .ne 11, 3) := by decide +kernel
theorem dX3_likelihood_141 : decode cX3_likelihood 141 = .ok (.lload 9, 2) := by decide +kernel
theorem dX3_likelihood_143 : decode cX3_likelihood 143 = .ok (.lload 11, 2) := by decide +kernel
theorem dX3_likelihood_145 : decode cX3_likelihood 145 = .ok (.ldiv, 1) := by decide +kernel
theorem dX3_likelihood_146 : decode cX3_likelihood 146 = .ok (.goto 8, 3) := by decide +kernel
theorem dX3_likelihood_149 : decode cX3_likelihood 149 = .ok (.lload 5, 2) := by decide +kernel
theorem dX3_likelihood_151 : decode cX3_likelihood 151 = .ok (.lload 11, 2) := by decide +kernel
theorem dX3_likelihood_153 : decode cX3_likelihood 153 = .ok (.ldiv, 1) := by decide +kernel
theorem dX3_likelihood_154 : decode cX3_likelihood 154 = .ok (.lreturn, 1) := by decide +kernel
theorem dX3_commonDivisor_0 : decode cX3_commonDivisor 0 = .ok (.lload_n 0, 1) := by decide +kernel
theorem dX3_commonDivisor_1 : decode cX3_commonDivisor 1 = .ok (.lstore 4, 2) := by decide +kernel
theorem dX3_commonDivisor_3 : decode cX3_commonDivisor 3 = .ok (.lload_n 2, 1) := by decide +kernel
theorem dX3_commonDivisor_4 : decode cX3_commonDivisor 4 = .ok (.lstore 6, 2) := by decide +kernel
theorem dX3_commonDivisor_6 : decode cX3_commonDivisor 6 = .ok (.iconst 0, 1) := by decide +kernel
theorem dX3_commonDivisor_7 : decode cX3_commonDivisor 7 = .ok (.istore 8, 2) := by decide +kernel
theorem dX3_commonDivisor_9 : decode cX3_commonDivisor 9 = .ok (.iload 8, 2) := by decide +kernel
theorem dX3_commonDivisor_11 : decode cX3_commonDivisor 11 = .ok (.bipush 100, 2) := by decide +kernel
theorem dX3_commonDivisor_13 : decode cX3_commonDivisor 13 = .ok (.if_icmp .ge 31, 3) := by decide +kernel
theorem dX3_commonDivisor_16 : decode cX3_commonDivisor 16 = .ok (.lload 6, 2) := by decide +kernel
theorem dX3_commonDivisor_18 : decode cX3_commonDivisor 18 = .ok (.lconst 0, 1) := by decide +kernel
theorem dX3_commonDivisor_19 : decode cX3_commonDivisor 19 = .ok (.lcmp, 1) := by decide +kernel
theorem dX3_commonDivisor_20 : decode cX3_commonDivisor 20 = .ok (.ifCond .eq 24, 3) := by decide +kernel
theorem dX3_commonDivisor_23 : decode cX3_commonDivisor 23 = .ok (.lload 4, 2) := by decide +kernel
theorem dX3_commonDivisor_25 : decode cX3_commonDivisor 25 = .ok (.lload 6, 2) := by decide +kernel
theorem dX3_commonDivisor_27 : decode cX3_commonDivisor 27 = .ok (.lrem, 1) := by decide +kernel
theorem dX3_commonDivisor_28 : decode cX3_commonDivisor 28 = .ok (.lstore 9, 2) := by decide +kernel
theorem dX3_commonDivisor_30 : decode cX3_commonDivisor 30 = .ok (.lload 6, 2) := by decide +kernel
theorem dX3_commonDivisor_32 : decode cX3_commonDivisor 32 = .ok (.lstore 4, 2) := by decide +kernel
theorem dX3_commonDivisor_34 : decode cX3_commonDivisor 34 = .ok (.lload 9, 2) := by decide +kernel
theorem dX3_commonDivisor_36 : decode cX3_commonDivisor 36 = .ok (.lstore 6, 2) := by decide +kernel
theorem dX3_commonDivisor_38 : decode cX3_commonDivisor 38 = .ok (.iinc 8 1, 3) := by decide +kernel
theorem dX3_commonDivisor_41 : decode cX3_commonDivisor 41 = .ok (.goto (-32), 3) := by decide +kernel
theorem dX3_commonDivisor_44 : decode cX3_commonDivisor 44 = .ok (.lload 4, 2) := by decide +kernel
theorem dX3_commonDivisor_46 : decode cX3_commonDivisor 46 = .ok (.lreturn, 1) := by decide +kernel
theorem dX3_weeksBy_0 : decode cX3_weeksBy 0 = .ok (.aload_n 0, 1) := by decide +kernel
theorem dX3_weeksBy_1 : decode cX3_weeksBy 1 = .ok (.getfield 12, 3) := by decide +kernel
theorem dX3_weeksBy_4 : decode cX3_weeksBy 4 = .ok (.invokevirtual 77, 3) := by decide +kernel
theorem dX3_weeksBy_7 : decode cX3_weeksBy 7 = .ok (.istore 4, 2) := by decide +kernel
theorem dX3_weeksBy_9 : decode cX3_weeksBy 9 = .ok (.aload_n 0, 1) := by decide +kernel
theorem dX3_weeksBy_10 : decode cX3_weeksBy 10 = .ok (.getfield 12, 3) := by decide +kernel
theorem dX3_weeksBy_13 : decode cX3_weeksBy 13 = .ok (.invokevirtual 65, 3) := by decide +kernel
theorem dX3_weeksBy_16 : decode cX3_weeksBy 16 = .ok (.istore 5, 2) := by decide +kernel
theorem dX3_weeksBy_18 : decode cX3_weeksBy 18 = .ok (.iload 4, 2) := by decide +kernel
theorem dX3_weeksBy_20 : decode cX3_weeksBy 20 = .ok (.iconst 1, 1) := by decide +kernel
theorem dX3_weeksBy_21 : decode cX3_weeksBy 21 = .ok (.if_icmp .lt 9, 3) := by decide +kernel
theorem dX3_weeksBy_24 : decode cX3_weeksBy 24 = .ok (.iload 5, 2) := by decide +kernel
theorem dX3_weeksBy_26 : decode cX3_weeksBy 26 = .ok (.iconst 1, 1) := by decide +kernel
theorem dX3_weeksBy_27 : decode cX3_weeksBy 27 = .ok (.if_icmp .ge 6, 3) := by decide +kernel
theorem dX3_weeksBy_30 : decode cX3_weeksBy 30 = .ok (.ldc 47, 2) := by decide +kernel
theorem dX3_weeksBy_32 : decode cX3_weeksBy 32 = .ok (.ireturn, 1) := by decide +kernel
theorem dX3_weeksBy_33 : decode cX3_weeksBy 33 = .ok (.iload_n 2, 1) := by decide +kernel
theorem dX3_weeksBy_34 : decode cX3_weeksBy 34 = .ok (.i2l, 1) := by decide +kernel
theorem dX3_weeksBy_35 : decode cX3_weeksBy 35 = .ok (.lstore 6, 2) := by decide +kernel
theorem dX3_weeksBy_37 : decode cX3_weeksBy 37 = .ok (.iconst 0, 1) := by decide +kernel
theorem dX3_weeksBy_38 : decode cX3_weeksBy 38 = .ok (.istore 8, 2) := by decide +kernel
theorem dX3_weeksBy_40 : decode cX3_weeksBy 40 = .ok (.iconst 0, 1) := by decide +kernel
theorem dX3_weeksBy_41 : decode cX3_weeksBy 41 = .ok (.istore 9, 2) := by decide +kernel
theorem dX3_weeksBy_43 : decode cX3_weeksBy 43 = .ok (.iload 9, 2) := by decide +kernel
theorem dX3_weeksBy_45 : decode cX3_weeksBy 45 = .ok (.iload_n 1, 1) := by decide +kernel
theorem dX3_weeksBy_46 : decode cX3_weeksBy 46 = .ok (.if_icmp .ge 102, 3) := by decide +kernel
theorem dX3_weeksBy_49 : decode cX3_weeksBy 49 = .ok (.lload 6, 2) := by decide +kernel
theorem dX3_weeksBy_51 : decode cX3_weeksBy 51 = .ok (.ldc2_w 164, 3) := by decide +kernel
theorem dX3_weeksBy_54 : decode cX3_weeksBy 54 = .ok (.lmul, 1) := by decide +kernel
theorem dX3_weeksBy_55 : decode cX3_weeksBy 55 = .ok (.ldc2_w 166, 3) := by decide +kernel
theorem dX3_weeksBy_58 : decode cX3_weeksBy 58 = .ok (.lrem, 1) := by decide +kernel
theorem dX3_weeksBy_59 : decode cX3_weeksBy 59 = .ok (.lstore 6, 2) := by decide +kernel
theorem dX3_weeksBy_61 : decode cX3_weeksBy 61 = .ok (.lload 6, 2) := by decide +kernel
theorem dX3_weeksBy_63 : decode cX3_weeksBy 63 = .ok (.ldc2_w 168, 3) := by decide +kernel
theorem dX3_weeksBy_66 : decode cX3_weeksBy 66 = .ok (.lrem, 1) := by decide +kernel
theorem dX3_weeksBy_67 : decode cX3_weeksBy 67 = .ok (.lconst 0, 1) := by decide +kernel
theorem dX3_weeksBy_68 : decode cX3_weeksBy 68 = .ok (.lcmp, 1) := by decide +kernel
theorem dX3_weeksBy_69 : decode cX3_weeksBy 69 = .ok (.ifCond .ne 24, 3) := by decide +kernel
theorem dX3_weeksBy_72 : decode cX3_weeksBy 72 = .ok (.aload_n 0, 1) := by decide +kernel
theorem dX3_weeksBy_73 : decode cX3_weeksBy 73 = .ok (.getfield 12, 3) := by decide +kernel
theorem dX3_weeksBy_76 : decode cX3_weeksBy 76 = .ok (.lload 6, 2) := by decide +kernel
theorem dX3_weeksBy_78 : decode cX3_weeksBy 78 = .ok (.iload 4, 2) := by decide +kernel
theorem dX3_weeksBy_80 : decode cX3_weeksBy 80 = .ok (.i2l, 1) := by decide +kernel
theorem dX3_weeksBy_81 : decode cX3_weeksBy 81 = .ok (.lrem, 1) := by decide +kernel
theorem dX3_weeksBy_82 : decode cX3_weeksBy 82 = .ok (.l2i, 1) := by decide +kernel
theorem dX3_weeksBy_83 : decode cX3_weeksBy 83 = .ok (.lload 6, 2) := by decide +kernel
theorem dX3_weeksBy_85 : decode cX3_weeksBy 85 = .ok (.ldc2_w 153, 3) := by decide +kernel
theorem dX3_weeksBy_88 : decode cX3_weeksBy 88 = .ok (.lrem, 1) := by decide +kernel
theorem dX3_weeksBy_89 : decode cX3_weeksBy 89 = .ok (.l2i, 1) := by decide +kernel
theorem dX3_weeksBy_90 : decode cX3_weeksBy 90 = .ok (.invokevirtual 115, 3) := by decide +kernel
theorem dX3_weeksBy_93 : decode cX3_weeksBy 93 = .ok (.lload 6, 2) := by decide +kernel
theorem dX3_weeksBy_95 : decode cX3_weeksBy 95 = .ok (.ldc2_w 170, 3) := by decide +kernel
theorem dX3_weeksBy_98 : decode cX3_weeksBy 98 = .ok (.lrem, 1) := by decide +kernel
theorem dX3_weeksBy_99 : decode cX3_weeksBy 99 = .ok (.lconst 0, 1) := by decide +kernel
theorem dX3_weeksBy_100 : decode cX3_weeksBy 100 = .ok (.lcmp, 1) := by decide +kernel
theorem dX3_weeksBy_101 : decode cX3_weeksBy 101 = .ok (.ifCond .ne 25, 3) := by decide +kernel
theorem dX3_weeksBy_104 : decode cX3_weeksBy 104 = .ok (.aload_n 0, 1) := by decide +kernel
theorem dX3_weeksBy_105 : decode cX3_weeksBy 105 = .ok (.getfield 12, 3) := by decide +kernel
theorem dX3_weeksBy_108 : decode cX3_weeksBy 108 = .ok (.lload 6, 2) := by decide +kernel
theorem dX3_weeksBy_110 : decode cX3_weeksBy 110 = .ok (.iload 5, 2) := by decide +kernel
theorem dX3_weeksBy_112 : decode cX3_weeksBy 112 = .ok (.i2l, 1) := by decide +kernel
theorem dX3_weeksBy_113 : decode cX3_weeksBy 113 = .ok (.lrem, 1) := by decide +kernel
theorem dX3_weeksBy_114 : decode cX3_weeksBy 114 = .ok (.l2i, 1) := by decide +kernel
theorem dX3_weeksBy_115 : decode cX3_weeksBy 115 = .ok (.iconst 3, 1) := by decide +kernel
theorem dX3_weeksBy_116 : decode cX3_weeksBy 116 = .ok (.lload 6, 2) := by decide +kernel
theorem dX3_weeksBy_118 : decode cX3_weeksBy 118 = .ok (.ldc2_w 172, 3) := by decide +kernel
theorem dX3_weeksBy_121 : decode cX3_weeksBy 121 = .ok (.lrem, 1) := by decide +kernel
theorem dX3_weeksBy_122 : decode cX3_weeksBy 122 = .ok (.l2i, 1) := by decide +kernel
theorem dX3_weeksBy_123 : decode cX3_weeksBy 123 = .ok (.invokevirtual 128, 3) := by decide +kernel
theorem dX3_weeksBy_126 : decode cX3_weeksBy 126 = .ok (.iload 8, 2) := by decide +kernel
theorem dX3_weeksBy_128 : decode cX3_weeksBy 128 = .ok (.aload_n 0, 1) := by decide +kernel
theorem dX3_weeksBy_129 : decode cX3_weeksBy 129 = .ok (.invokevirtual 174, 3) := by decide +kernel
theorem dX3_weeksBy_132 : decode cX3_weeksBy 132 = .ok (.iadd, 1) := by decide +kernel
theorem dX3_weeksBy_133 : decode cX3_weeksBy 133 = .ok (.istore 8, 2) := by decide +kernel
theorem dX3_weeksBy_135 : decode cX3_weeksBy 135 = .ok (.aload_n 0, 1) := by decide +kernel
theorem dX3_weeksBy_136 : decode cX3_weeksBy 136 = .ok (.getfield 12, 3) := by decide +kernel
theorem dX3_weeksBy_139 : decode cX3_weeksBy 139 = .ok (.invokevirtual 37, 3) := by decide +kernel
theorem dX3_weeksBy_142 : decode cX3_weeksBy 142 = .ok (.iinc 9 1, 3) := by decide +kernel
theorem dX3_weeksBy_145 : decode cX3_weeksBy 145 = .ok (.goto (-102), 3) := by decide +kernel
theorem dX3_weeksBy_148 : decode cX3_weeksBy 148 = .ok (.iload_n 3, 1) := by decide +kernel
theorem dX3_weeksBy_149 : decode cX3_weeksBy 149 = .ok (.ifCond .ne 8, 3) := by decide +kernel
theorem dX3_weeksBy_152 : decode cX3_weeksBy 152 = .ok (.iload 8, 2) := by decide +kernel
theorem dX3_weeksBy_154 : decode cX3_weeksBy 154 = .ok (.goto 10, 3) := by decide +kernel
theorem dX3_weeksBy_157 : decode cX3_weeksBy 157 = .ok (.aload_n 0, 1) := by decide +kernel
theorem dX3_weeksBy_158 : decode cX3_weeksBy 158 = .ok (.getfield 12, 3) := by decide +kernel
theorem dX3_weeksBy_161 : decode cX3_weeksBy 161 = .ok (.invokevirtual 177, 3) := by decide +kernel
theorem dX3_weeksBy_164 : decode cX3_weeksBy 164 = .ok (.ireturn, 1) := by decide +kernel
theorem dX3_soundingSteps_0 : decode cX3_soundingSteps 0 = .ok (.iconst 0, 1) := by decide +kernel
theorem dX3_soundingSteps_1 : decode cX3_soundingSteps 1 = .ok (.istore_n 1, 1) := by decide +kernel
theorem dX3_soundingSteps_2 : decode cX3_soundingSteps 2 = .ok (.iconst 0, 1) := by decide +kernel
theorem dX3_soundingSteps_3 : decode cX3_soundingSteps 3 = .ok (.istore_n 2, 1) := by decide +kernel
theorem dX3_soundingSteps_4 : decode cX3_soundingSteps 4 = .ok (.iload_n 2, 1) := by decide +kernel
theorem dX3_soundingSteps_5 : decode cX3_soundingSteps 5 = .ok (.aload_n 0, 1) := by decide +kernel
theorem dX3_soundingSteps_6 : decode cX3_soundingSteps 6 = .ok (.getfield 12, 3) := by decide +kernel
theorem dX3_soundingSteps_9 : decode cX3_soundingSteps 9 = .ok (.invokevirtual 65, 3) := by decide +kernel
theorem dX3_soundingSteps_12 : decode cX3_soundingSteps 12 = .ok (.if_icmp .ge 51, 3) := by decide +kernel
theorem dX3_soundingSteps_15 : decode cX3_soundingSteps 15 = .ok (.aload_n 0, 1) := by decide +kernel
theorem dX3_soundingSteps_16 : decode cX3_soundingSteps 16 = .ok (.getfield 12, 3) := by decide +kernel
theorem dX3_soundingSteps_19 : decode cX3_soundingSteps 19 = .ok (.iload_n 2, 1) := by decide +kernel
theorem dX3_soundingSteps_20 : decode cX3_soundingSteps 20 = .ok (.invokevirtual 135, 3) := by decide +kernel
theorem dX3_soundingSteps_23 : decode cX3_soundingSteps 23 = .ok (.istore_n 3, 1) := by decide +kernel
theorem dX3_soundingSteps_24 : decode cX3_soundingSteps 24 = .ok (.iconst 0, 1) := by decide +kernel
theorem dX3_soundingSteps_25 : decode cX3_soundingSteps 25 = .ok (.istore 4, 2) := by decide +kernel
theorem dX3_soundingSteps_27 : decode cX3_soundingSteps 27 = .ok (.iload 4, 2) := by decide +kernel
theorem dX3_soundingSteps_29 : decode cX3_soundingSteps 29 = .ok (.iload_n 3, 1) := by decide +kernel
theorem dX3_soundingSteps_30 : decode cX3_soundingSteps 30 = .ok (.if_icmp .ge 27, 3) := by decide +kernel
theorem dX3_soundingSteps_33 : decode cX3_soundingSteps 33 = .ok (.aload_n 0, 1) := by decide +kernel
theorem dX3_soundingSteps_34 : decode cX3_soundingSteps 34 = .ok (.getfield 12, 3) := by decide +kernel
theorem dX3_soundingSteps_37 : decode cX3_soundingSteps 37 = .ok (.iload_n 2, 1) := by decide +kernel
theorem dX3_soundingSteps_38 : decode cX3_soundingSteps 38 = .ok (.iload 4, 2) := by decide +kernel
theorem dX3_soundingSteps_40 : decode cX3_soundingSteps 40 = .ok (.invokevirtual 155, 3) := by decide +kernel
theorem dX3_soundingSteps_43 : decode cX3_soundingSteps 43 = .ok (.bipush 10, 2) := by decide +kernel
theorem dX3_soundingSteps_45 : decode cX3_soundingSteps 45 = .ok (.if_icmp .eq 6, 3) := by decide +kernel
theorem dX3_soundingSteps_48 : decode cX3_soundingSteps 48 = .ok (.iinc 1 1, 3) := by decide +kernel
theorem dX3_soundingSteps_51 : decode cX3_soundingSteps 51 = .ok (.iinc 4 1, 3) := by decide +kernel
theorem dX3_soundingSteps_54 : decode cX3_soundingSteps 54 = .ok (.goto (-27), 3) := by decide +kernel
theorem dX3_soundingSteps_57 : decode cX3_soundingSteps 57 = .ok (.iinc 2 1, 3) := by decide +kernel
theorem dX3_soundingSteps_60 : decode cX3_soundingSteps 60 = .ok (.goto (-56), 3) := by decide +kernel
theorem dX3_soundingSteps_63 : decode cX3_soundingSteps 63 = .ok (.iload_n 1, 1) := by decide +kernel
theorem dX3_soundingSteps_64 : decode cX3_soundingSteps 64 = .ok (.ireturn, 1) := by decide +kernel
theorem dX4_init_0 : decode cX4_init 0 = .ok (.aload_n 0, 1) := by decide +kernel
theorem dX4_init_1 : decode cX4_init 1 = .ok (.invokespecial 3, 3) := by decide +kernel
theorem dX4_init_4 : decode cX4_init 4 = .ok (.aload_n 0, 1) := by decide +kernel
theorem dX4_init_5 : decode cX4_init 5 = .ok (.sipush 320, 3) := by decide +kernel
theorem dX4_init_8 : decode cX4_init 8 = .ok (.newarray .int, 2) := by decide +kernel
theorem dX4_init_10 : decode cX4_init 10 = .ok (.putfield 11, 3) := by decide +kernel
theorem dX4_init_13 : decode cX4_init 13 = .ok (.aload_n 0, 1) := by decide +kernel
theorem dX4_init_14 : decode cX4_init 14 = .ok (.bipush 8, 2) := by decide +kernel
theorem dX4_init_16 : decode cX4_init 16 = .ok (.newarray .int, 2) := by decide +kernel
theorem dX4_init_18 : decode cX4_init 18 = .ok (.putfield 15, 3) := by decide +kernel
theorem dX4_init_21 : decode cX4_init 21 = .ok (.aload_n 0, 1) := by decide +kernel
theorem dX4_init_22 : decode cX4_init 22 = .ok (.bipush 8, 2) := by decide +kernel
theorem dX4_init_24 : decode cX4_init 24 = .ok (.newarray .int, 2) := by decide +kernel
theorem dX4_init_26 : decode cX4_init 26 = .ok (.putfield 18, 3) := by decide +kernel
theorem dX4_init_29 : decode cX4_init 29 = .ok (.iconst 0, 1) := by decide +kernel
theorem dX4_init_30 : decode cX4_init 30 = .ok (.istore_n 1, 1) := by decide +kernel
theorem dX4_init_31 : decode cX4_init 31 = .ok (.iload_n 1, 1) := by decide +kernel
theorem dX4_init_32 : decode cX4_init 32 = .ok (.bipush 8, 2) := by decide +kernel
theorem dX4_init_34 : decode cX4_init 34 = .ok (.if_icmp .ge 16, 3) := by decide +kernel
theorem dX4_init_37 : decode cX4_init 37 = .ok (.aload_n 0, 1) := by decide +kernel
theorem dX4_init_38 : decode cX4_init 38 = .ok (.getfield 18, 3) := by decide +kernel
theorem dX4_init_41 : decode cX4_init 41 = .ok (.iload_n 1, 1) := by decide +kernel
theorem dX4_init_42 : decode cX4_init 42 = .ok (.iconst (-1), 1) := by decide +kernel
theorem dX4_init_43 : decode cX4_init 43 = .ok (.iastore, 1) := by decide +kernel
theorem dX4_init_44 : decode cX4_init 44 = .ok (.iinc 1 1, 3) := by decide +kernel
theorem dX4_init_47 : decode cX4_init 47 = .ok (.goto (-16), 3) := by decide +kernel
theorem dX4_init_50 : decode cX4_init 50 = .ok (.return_, 1) := by decide +kernel
theorem dX4_isRow_0 : decode cX4_isRow 0 = .ok (.iload_n 1, 1) := by decide +kernel
theorem dX4_isRow_1 : decode cX4_isRow 1 = .ok (.ifCond .lt 13, 3) := by decide +kernel
theorem dX4_isRow_4 : decode cX4_isRow 4 = .ok (.iload_n 1, 1) := by decide +kernel
theorem dX4_isRow_5 : decode cX4_isRow 5 = .ok (.bipush 8, 2) := by decide +kernel
theorem dX4_isRow_7 : decode cX4_isRow 7 = .ok (.if_icmp .ge 7, 3) := by decide +kernel
theorem dX4_isRow_10 : decode cX4_isRow 10 = .ok (.iconst 1, 1) := by decide +kernel
theorem dX4_isRow_11 : decode cX4_isRow 11 = .ok (.goto 4, 3) := by decide +kernel
theorem dX4_isRow_14 : decode cX4_isRow 14 = .ok (.iconst 0, 1) := by decide +kernel
theorem dX4_isRow_15 : decode cX4_isRow 15 = .ok (.ireturn, 1) := by decide +kernel
theorem dX4_isLane_0 : decode cX4_isLane 0 = .ok (.iload_n 1, 1) := by decide +kernel
theorem dX4_isLane_1 : decode cX4_isLane 1 = .ok (.ifCond .lt 12, 3) := by decide +kernel
theorem dX4_isLane_4 : decode cX4_isLane 4 = .ok (.iload_n 1, 1) := by decide +kernel
theorem dX4_isLane_5 : decode cX4_isLane 5 = .ok (.iconst 3, 1) := by decide +kernel
theorem dX4_isLane_6 : decode cX4_isLane 6 = .ok (.if_icmp .ge 7, 3) := by decide +kernel
theorem dX4_isLane_9 : decode cX4_isLane 9 = .ok (.iconst 1, 1) := by decide +kernel
theorem dX4_isLane_10 : decode cX4_isLane 10 = .ok (.goto 4, 3) := by decide +kernel
theorem dX4_isLane_13 : decode cX4_isLane 13 = .ok (.iconst 0, 1) := by decide +kernel
theorem dX4_isLane_14 : decode cX4_isLane 14 = .ok (.ireturn, 1) := by decide +kernel
theorem dX4_isMissing_0 : decode cX4_isMissing 0 = .ok (.aload_n 0, 1) := by decide +kernel
theorem dX4_isMissing_1 : decode cX4_isMissing 1 = .ok (.iload_n 1, 1) := by decide +kernel
theorem dX4_isMissing_2 : decode cX4_isMissing 2 = .ok (.invokevirtual 21, 3) := by decide +kernel
theorem dX4_isMissing_5 : decode cX4_isMissing 5 = .ok (.ifCond .eq 12, 3) := by decide +kernel
theorem dX4_isMissing_8 : decode cX4_isMissing 8 = .ok (.aload_n 0, 1) := by decide +kernel
theorem dX4_isMissing_9 : decode cX4_isMissing 9 = .ok (.getfield 18, 3) := by decide +kernel
theorem dX4_isMissing_12 : decode cX4_isMissing 12 = .ok (.iload_n 1, 1) := by decide +kernel
theorem dX4_isMissing_13 : decode cX4_isMissing 13 = .ok (.iaload, 1) := by decide +kernel
theorem dX4_isMissing_14 : decode cX4_isMissing 14 = .ok (.ifCond .ge 7, 3) := by decide +kernel
theorem dX4_isMissing_17 : decode cX4_isMissing 17 = .ok (.iconst 1, 1) := by decide +kernel
theorem dX4_isMissing_18 : decode cX4_isMissing 18 = .ok (.goto 4, 3) := by decide +kernel
theorem dX4_isMissing_21 : decode cX4_isMissing 21 = .ok (.iconst 0, 1) := by decide +kernel
theorem dX4_isMissing_22 : decode cX4_isMissing 22 = .ok (.ireturn, 1) := by decide +kernel
theorem dX4_rowCount_0 : decode cX4_rowCount 0 = .ok (.iconst 0, 1) := by decide +kernel
theorem dX4_rowCount_1 : decode cX4_rowCount 1 = .ok (.istore_n 1, 1) := by decide +kernel
theorem dX4_rowCount_2 : decode cX4_rowCount 2 = .ok (.iconst 0, 1) := by decide +kernel
theorem dX4_rowCount_3 : decode cX4_rowCount 3 = .ok (.istore_n 2, 1) := by decide +kernel
theorem dX4_rowCount_4 : decode cX4_rowCount 4 = .ok (.iload_n 2, 1) := by decide +kernel
theorem dX4_rowCount_5 : decode cX4_rowCount 5 = .ok (.bipush 8, 2) := by decide +kernel
theorem dX4_rowCount_7 : decode cX4_rowCount 7 = .ok (.if_icmp .ge 21, 3) := by decide +kernel
theorem dX4_rowCount_10 : decode cX4_rowCount 10 = .ok (.aload_n 0, 1) := by decide +kernel
theorem dX4_rowCount_11 : decode cX4_rowCount 11 = .ok (.getfield 18, 3) := by decide +kernel
theorem dX4_rowCount_14 : decode cX4_rowCount 14 = .ok (.iload_n 2, 1) := by decide +kernel
theorem dX4_rowCount_15 : decode cX4_rowCount 15 = .ok (.iaload, 1) := by decide +kernel
theorem dX4_rowCount_16 : decode cX4_rowCount 16 = .ok (.ifCond .lt 6, 3) := by decide +kernel
theorem dX4_rowCount_19 : decode cX4_rowCount 19 = .ok (.iinc 1 1, 3) := by decide +kernel
theorem dX4_rowCount_22 : decode cX4_rowCount 22 = .ok (.iinc 2 1, 3) := by decide +kernel
theorem dX4_rowCount_25 : decode cX4_rowCount 25 = .ok (.goto (-21), 3) := by decide +kernel
theorem dX4_rowCount_28 : decode cX4_rowCount 28 = .ok (.iload_n 1, 1) := by decide +kernel
theorem dX4_rowCount_29 : decode cX4_rowCount 29 = .ok (.ireturn, 1) := by decide +kernel
theorem dX4_findingOf_0 : decode cX4_findingOf 0 = .ok (.aload_n 0, 1) := by decide +kernel
theorem dX4_findingOf_1 : decode cX4_findingOf 1 = .ok (.iload_n 1, 1) := by decide +kernel
theorem dX4_findingOf_2 : decode cX4_findingOf 2 = .ok (.invokevirtual 25, 3) := by decide +kernel
theorem dX4_findingOf_5 : decode cX4_findingOf 5 = .ok (.ifCond .eq 5, 3) := by decide +kernel
theorem dX4_findingOf_8 : decode cX4_findingOf 8 = .ok (.iconst 1, 1) := by decide +kernel
theorem dX4_findingOf_9 : decode cX4_findingOf 9 = .ok (.ireturn, 1) := by decide +kernel
theorem dX4_findingOf_10 : decode cX4_findingOf 10 = .ok (.iload_n 2, 1) := by decide +kernel
theorem dX4_findingOf_11 : decode cX4_findingOf 11 = .ok (.ifCond .lt 33, 3) := by decide +kernel
theorem dX4_findingOf_14 : decode cX4_findingOf 14 = .ok (.iload_n 3, 1) := by decide +kernel
theorem dX4_findingOf_15 : decode cX4_findingOf 15 = .ok (.ifCond .lt 29, 3) := by decide +kernel
theorem dX4_findingOf_18 : decode cX4_findingOf 18 = .ok (.iload_n 3, 1) := by decide +kernel
theorem dX4_findingOf_19 : decode cX4_findingOf 19 = .ok (.aload_n 0, 1) := by decide +kernel
theorem dX4_findingOf_20 : decode cX4_findingOf 20 = .ok (.getfield 18, 3) := by decide +kernel
theorem dX4_findingOf_23 : decode cX4_findingOf 23 = .ok (.iload_n 1, 1) := by decide +kernel
theorem dX4_findingOf_24 : decode cX4_findingOf 24 = .ok (.iaload, 1) := by decide +kernel
theorem dX4_findingOf_25 : decode cX4_findingOf 25 = .ok (.if_icmp .gt 19, 3) := by decide +kernel
theorem dX4_findingOf_28 : decode cX4_findingOf 28 = .ok (.iload_n 2, 1) := by decide +kernel
theorem dX4_findingOf_29 : decode cX4_findingOf 29 = .ok (.aload_n 0, 1) := by decide +kernel
theorem dX4_findingOf_30 : decode cX4_findingOf 30 = .ok (.getfield 18, 3) := by decide +kernel
theorem dX4_findingOf_33 : decode cX4_findingOf 33 = .ok (.iload_n 1, 1) := by decide +kernel
theorem dX4_findingOf_34 : decode cX4_findingOf 34 = .ok (.iaload, 1) := by decide +kernel
theorem dX4_findingOf_35 : decode cX4_findingOf 35 = .ok (.iload_n 3, 1) := by decide +kernel
theorem dX4_findingOf_36 : decode cX4_findingOf 36 = .ok (.isub, 1) := by decide +kernel
theorem dX4_findingOf_37 : decode cX4_findingOf 37 = .ok (.if_icmp .gt 7, 3) := by decide +kernel
theorem dX4_findingOf_40 : decode cX4_findingOf 40 = .ok (.iconst 1, 1) := by decide +kernel
theorem dX4_findingOf_41 : decode cX4_findingOf 41 = .ok (.goto 4, 3) := by decide +kernel
theorem dX4_findingOf_44 : decode cX4_findingOf 44 = .ok (.iconst 0, 1) := by decide +kernel
theorem dX4_findingOf_45 : decode cX4_findingOf 45 = .ok (.istore 4, 2) := by decide +kernel
theorem dX4_findingOf_47 : decode cX4_findingOf 47 = .ok (.iload 4, 2) := by decide +kernel
theorem dX4_findingOf_49 : decode cX4_findingOf 49 = .ok (.ifCond .eq 7, 3) := by decide +kernel
theorem dX4_findingOf_52 : decode cX4_findingOf 52 = .ok (.iconst 0, 1) := by decide +kernel
theorem dX4_findingOf_53 : decode cX4_findingOf 53 = .ok (.goto 4, 3) := by decide +kernel
theorem dX4_findingOf_56 : decode cX4_findingOf 56 = .ok (.iconst 2, 1) := by decide +kernel
theorem dX4_findingOf_57 : decode cX4_findingOf 57 = .ok (.ireturn, 1) := by decide +kernel
theorem dX4_findingOfCopy_0 : decode cX4_findingOfCopy 0 = .ok (.aload_n 0, 1) := by decide +kernel
theorem dX4_findingOfCopy_1 : decode cX4_findingOfCopy 1 = .ok (.iload_n 1, 1) := by decide +kernel
theorem dX4_findingOfCopy_2 : decode cX4_findingOfCopy 2 = .ok (.invokevirtual 25, 3) := by decide +kernel
theorem dX4_findingOfCopy_5 : decode cX4_findingOfCopy 5 = .ok (.ifCond .ne 11, 3) := by decide +kernel
theorem dX4_findingOfCopy_8 : decode cX4_findingOfCopy 8 = .ok (.aload_n 0, 1) := by decide +kernel
theorem dX4_findingOfCopy_9 : decode cX4_findingOfCopy 9 = .ok (.iload_n 3, 1) := by decide +kernel
theorem dX4_findingOfCopy_10 : decode cX4_findingOfCopy 10 = .ok (.invokevirtual 25, 3) := by decide +kernel
theorem dX4_findingOfCopy_13 : decode cX4_findingOfCopy 13 = .ok (.ifCond .eq 5, 3) := by decide +kernel
theorem dX4_findingOfCopy_16 : decode cX4_findingOfCopy 16 = .ok (.iconst 1, 1) := by decide +kernel
theorem dX4_findingOfCopy_17 : decode cX4_findingOfCopy 17 = .ok (.ireturn, 1) := by decide +kernel
theorem dX4_findingOfCopy_18 : decode cX4_findingOfCopy 18 = .ok (.aload_n 0, 1) := by decide +kernel
theorem dX4_findingOfCopy_19 : decode cX4_findingOfCopy 19 = .ok (.getfield 15, 3) := by decide +kernel
theorem dX4_findingOfCopy_22 : decode cX4_findingOfCopy 22 = .ok (.iload_n 1, 1) := by decide +kernel
theorem dX4_findingOfCopy_23 : decode cX4_findingOfCopy 23 = .ok (.iaload, 1) := by decide +kernel
theorem dX4_findingOfCopy_24 : decode cX4_findingOfCopy 24 = .ok (.aload_n 0, 1) := by decide +kernel
theorem dX4_findingOfCopy_25 : decode cX4_findingOfCopy 25 = .ok (.getfield 15, 3) := by decide +kernel
theorem dX4_findingOfCopy_28 : decode cX4_findingOfCopy 28 = .ok (.iload_n 3, 1) := by decide +kernel
theorem dX4_findingOfCopy_29 : decode cX4_findingOfCopy 29 = .ok (.iaload, 1) := by decide +kernel
theorem dX4_findingOfCopy_30 : decode cX4_findingOfCopy 30 = .ok (.if_icmp .eq 5, 3) := by decide +kernel
theorem dX4_findingOfCopy_33 : decode cX4_findingOfCopy 33 = .ok (.iconst 5, 1) := by decide +kernel
theorem dX4_findingOfCopy_34 : decode cX4_findingOfCopy 34 = .ok (.ireturn, 1) := by decide +kernel
theorem dX4_findingOfCopy_35 : decode cX4_findingOfCopy 35 = .ok (.aload_n 0, 1) := by decide +kernel
theorem dX4_findingOfCopy_36 : decode cX4_findingOfCopy 36 = .ok (.iload_n 1, 1) := by decide +kernel
theorem dX4_findingOfCopy_37 : decode cX4_findingOfCopy 37 = .ok (.iload_n 2, 1) := by decide +kernel
theorem dX4_findingOfCopy_38 : decode cX4_findingOfCopy 38 = .ok (.iload 5, 2) := by decide +kernel
theorem dX4_findingOfCopy_40 : decode cX4_findingOfCopy 40 = .ok (.invokevirtual 28, 3) := by decide +kernel
theorem dX4_findingOfCopy_43 : decode cX4_findingOfCopy 43 = .ok (.istore 6, 2) := by decide +kernel
theorem dX4_findingOfCopy_45 : decode cX4_findingOfCopy 45 = .ok (.iload 6, 2) := by decide +kernel
theorem dX4_findingOfCopy_47 : decode cX4_findingOfCopy 47 = .ok (.ifCond .eq 8, 3) := by decide +kernel
theorem dX4_findingOfCopy_50 : decode cX4_findingOfCopy 50 = .ok (.iload 6, 2) := by decide +kernel
theorem dX4_findingOfCopy_52 : decode cX4_findingOfCopy 52 = .ok (.goto 12, 3) := by decide +kernel
theorem dX4_findingOfCopy_55 : decode cX4_findingOfCopy 55 = .ok (.aload_n 0, 1) := by decide +kernel
theorem dX4_findingOfCopy_56 : decode cX4_findingOfCopy 56 = .ok (.iload_n 3, 1) := by decide +kernel
theorem dX4_findingOfCopy_57 : decode cX4_findingOfCopy 57 = .ok (.iload 4, 2) := by decide +kernel
theorem dX4_findingOfCopy_59 : decode cX4_findingOfCopy 59 = .ok (.iload 5, 2) := by decide +kernel
theorem dX4_findingOfCopy_61 : decode cX4_findingOfCopy 61 = .ok (.invokevirtual 28, 3) := by decide +kernel
theorem dX4_findingOfCopy_64 : decode cX4_findingOfCopy 64 = .ok (.ireturn, 1) := by decide +kernel
theorem dX4_lay_0 : decode cX4_lay 0 = .ok (.aload_n 0, 1) := by decide +kernel
theorem dX4_lay_1 : decode cX4_lay 1 = .ok (.iload_n 1, 1) := by decide +kernel
theorem dX4_lay_2 : decode cX4_lay 2 = .ok (.invokevirtual 21, 3) := by decide +kernel
theorem dX4_lay_5 : decode cX4_lay 5 = .ok (.ifCond .eq 13, 3) := by decide +kernel
theorem dX4_lay_8 : decode cX4_lay 8 = .ok (.iload_n 3, 1) := by decide +kernel
theorem dX4_lay_9 : decode cX4_lay 9 = .ok (.ifCond .lt 9, 3) := by decide +kernel
theorem dX4_lay_12 : decode cX4_lay 12 = .ok (.iload_n 3, 1) := by decide +kernel
theorem dX4_lay_13 : decode cX4_lay 13 = .ok (.bipush 40, 2) := by decide +kernel
theorem dX4_lay_15 : decode cX4_lay 15 = .ok (.if_icmp .le 6, 3) := by decide +kernel
theorem dX4_lay_18 : decode cX4_lay 18 = .ok (.ldc 32, 2) := by decide +kernel
theorem dX4_lay_20 : decode cX4_lay 20 = .ok (.ireturn, 1) := by decide +kernel
theorem dX4_lay_21 : decode cX4_lay 21 = .ok (.aload_n 0, 1) := by decide +kernel
theorem dX4_lay_22 : decode cX4_lay 22 = .ok (.getfield 15, 3) := by decide +kernel
theorem dX4_lay_25 : decode cX4_lay 25 = .ok (.iload_n 1, 1) := by decide +kernel
theorem dX4_lay_26 : decode cX4_lay 26 = .ok (.iload_n 2, 1) := by decide +kernel
theorem dX4_lay_27 : decode cX4_lay 27 = .ok (.iastore, 1) := by decide +kernel
theorem dX4_lay_28 : decode cX4_lay 28 = .ok (.aload_n 0, 1) := by decide +kernel
theorem dX4_lay_29 : decode cX4_lay 29 = .ok (.getfield 18, 3) := by decide +kernel
theorem dX4_lay_32 : decode cX4_lay 32 = .ok (.iload_n 1, 1) := by decide +kernel
theorem dX4_lay_33 : decode cX4_lay 33 = .ok (.iload_n 3, 1) := by decide +kernel
theorem dX4_lay_34 : decode cX4_lay 34 = .ok (.iastore, 1) := by decide +kernel
theorem dX4_lay_35 : decode cX4_lay 35 = .ok (.iconst 0, 1) := by decide +kernel
theorem dX4_lay_36 : decode cX4_lay 36 = .ok (.istore 4, 2) := by decide +kernel
theorem dX4_lay_38 : decode cX4_lay 38 = .ok (.iload 4, 2) := by decide +kernel
theorem dX4_lay_40 : decode cX4_lay 40 = .ok (.iload_n 3, 1) := by decide +kernel
theorem dX4_lay_41 : decode cX4_lay 41 = .ok (.if_icmp .ge 22, 3) := by decide +kernel
theorem dX4_lay_44 : decode cX4_lay 44 = .ok (.aload_n 0, 1) := by decide +kernel
theorem dX4_lay_45 : decode cX4_lay 45 = .ok (.getfield 11, 3) := by decide +kernel
theorem dX4_lay_48 : decode cX4_lay 48 = .ok (.iload_n 1, 1) := by decide +kernel
theorem dX4_lay_49 : decode cX4_lay 49 = .ok (.bipush 40, 2) := by decide +kernel
theorem dX4_lay_51 : decode cX4_lay 51 = .ok (.imul, 1) := by decide +kernel
theorem dX4_lay_52 : decode cX4_lay 52 = .ok (.iload 4, 2) := by decide +kernel
theorem dX4_lay_54 : decode cX4_lay 54 = .ok (.iadd, 1) := by decide +kernel
theorem dX4_lay_55 : decode cX4_lay 55 = .ok (.iconst 0, 1) := by decide +kernel
theorem dX4_lay_56 : decode cX4_lay 56 = .ok (.iastore, 1) := by decide +kernel
theorem dX4_lay_57 : decode cX4_lay 57 = .ok (.iinc 4 1, 3) := by decide +kernel
theorem dX4_lay_60 : decode cX4_lay 60 = .ok (.goto (-22), 3) := by decide +kernel
theorem dX4_lay_63 : decode cX4_lay 63 = .ok (.iload_n 3, 1) := by decide +kernel
theorem dX4_lay_64 : decode cX4_lay 64 = .ok (.ireturn, 1) := by decide +kernel
theorem dX4_put_0 : decode cX4_put 0 = .ok (.aload_n 0, 1) := by decide +kernel
theorem dX4_put_1 : decode cX4_put 1 = .ok (.iload_n 1, 1) := by decide +kernel
theorem dX4_put_2 : decode cX4_put 2 = .ok (.iload_n 2, 1) := by decide +kernel
theorem dX4_put_3 : decode cX4_put 3 = .ok (.iconst 1, 1) := by decide +kernel
theorem dX4_put_4 : decode cX4_put 4 = .ok (.invokevirtual 28, 3) := by decide +kernel
theorem dX4_put_7 : decode cX4_put 7 = .ok (.ifCond .eq 6, 3) := by decide +kernel
theorem dX4_put_10 : decode cX4_put 10 = .ok (.ldc 32, 2) := by decide +kernel
theorem dX4_put_12 : decode cX4_put 12 = .ok (.ireturn, 1) := by decide +kernel
theorem dX4_put_13 : decode cX4_put 13 = .ok (.iload_n 3, 1) := by decide +kernel
theorem dX4_put_14 : decode cX4_put 14 = .ok (.istore 4, 2) := by decide +kernel
theorem dX4_put_16 : decode cX4_put 16 = .ok (.aload_n 0, 1) := by decide +kernel
theorem dX4_put_17 : decode cX4_put 17 = .ok (.getfield 15, 3) := by decide +kernel
theorem dX4_put_20 : decode cX4_put 20 = .ok (.iload_n 1, 1) := by decide +kernel
theorem dX4_put_21 : decode cX4_put 21 = .ok (.iaload, 1) := by decide +kernel
theorem dX4_put_22 : decode cX4_put 22 = .ok (.ifCond .ne 10, 3) := by decide +kernel
theorem dX4_put_25 : decode cX4_put 25 = .ok (.iload_n 3, 1) := by decide +kernel
theorem dX4_put_26 : decode cX4_put 26 = .ok (.i2b, 1) := by decide +kernel
theorem dX4_put_27 : decode cX4_put 27 = .ok (.istore 4, 2) := by decide +kernel
theorem dX4_put_29 : decode cX4_put 29 = .ok (.goto 17, 3) := by decide +kernel
theorem dX4_put_32 : decode cX4_put 32 = .ok (.aload_n 0, 1) := by decide +kernel
theorem dX4_put_33 : decode cX4_put 33 = .ok (.getfield 15, 3) := by decide +kernel
theorem dX4_put_36 : decode cX4_put 36 = .ok (.iload_n 1, 1) := by decide +kernel
theorem dX4_put_37 : decode cX4_put 37 = .ok (.iaload, 1) := by decide +kernel
theorem dX4_put_38 : decode cX4_put 38 = .ok (.iconst 1, 1) := by decide +kernel
theorem dX4_put_39 : decode cX4_put 39 = .ok (.if_icmp .ne 7, 3) := by decide +kernel
theorem dX4_put_42 : decode cX4_put 42 = .ok (.iload_n 3, 1) := by decide +kernel
theorem dX4_put_43 : decode cX4_put 43 = .ok (.i2s, 1) := by decide +kernel
theorem dX4_put_44 : decode cX4_put 44 = .ok (.istore 4, 2) := by decide +kernel
theorem dX4_put_46 : decode cX4_put 46 = .ok (.aload_n 0, 1) := by decide +kernel
theorem dX4_put_47 : decode cX4_put 47 = .ok (.getfield 11, 3) := by decide +kernel
theorem dX4_put_50 : decode cX4_put 50 = .ok (.iload_n 1, 1) := by decide +kernel
theorem dX4_put_51 : decode cX4_put 51 = .ok (.bipush 40, 2) := by decide +kernel
theorem dX4_put_53 : decode cX4_put 53 = .ok (.imul, 1) := by decide +kernel
theorem dX4_put_54 : decode cX4_put 54 = .ok (.iload_n 2, 1) := by decide +kernel
theorem dX4_put_55 : decode cX4_put 55 = .ok (.iadd, 1) := by decide +kernel
theorem dX4_put_56 : decode cX4_put 56 = .ok (.iload 4, 2) := by decide +kernel
theorem dX4_put_58 : decode cX4_put 58 = .ok (.iastore, 1) := by decide +kernel
theorem dX4_put_59 : decode cX4_put 59 = .ok (.iload 4, 2) := by decide +kernel
theorem dX4_put_61 : decode cX4_put 61 = .ok (.ireturn, 1) := by decide +kernel
theorem dX4_itemAt_0 : decode cX4_itemAt 0 = .ok (.aload_n 0, 1) := by decide +kernel
theorem dX4_itemAt_1 : decode cX4_itemAt 1 = .ok (.iload_n 1, 1) := by decide +kernel
theorem dX4_itemAt_2 : decode cX4_itemAt 2 = .ok (.iload_n 2, 1) := by decide +kernel
theorem dX4_itemAt_3 : decode cX4_itemAt 3 = .ok (.iconst 1, 1) := by decide +kernel
theorem dX4_itemAt_4 : decode cX4_itemAt 4 = .ok (.invokevirtual 28, 3) := by decide +kernel
theorem dX4_itemAt_7 : decode cX4_itemAt 7 = .ok (.ifCond .eq 7, 3) := by decide +kernel
theorem dX4_itemAt_10 : decode cX4_itemAt 10 = .ok (.iconst 0, 1) := by decide +kernel
theorem dX4_itemAt_11 : decode cX4_itemAt 11 = .ok (.goto 14, 3) := by decide +kernel
theorem dX4_itemAt_14 : decode cX4_itemAt 14 = .ok (.aload_n 0, 1) := by decide +kernel
theorem dX4_itemAt_15 : decode cX4_itemAt 15 = .ok (.getfield 11, 3) := by decide +kernel
theorem dX4_itemAt_18 : decode cX4_itemAt 18 = .ok (.iload_n 1, 1) := by decide +kernel
theorem dX4_itemAt_19 : decode cX4_itemAt 19 = .ok (.bipush 40, 2) := by decide +kernel
theorem dX4_itemAt_21 : decode cX4_itemAt 21 = .ok (.imul, 1) := by decide +kernel
theorem dX4_itemAt_22 : decode cX4_itemAt 22 = .ok (.iload_n 2, 1) := by decide +kernel
theorem dX4_itemAt_23 : decode cX4_itemAt 23 = .ok (.iadd, 1) := by decide +kernel
theorem dX4_itemAt_24 : decode cX4_itemAt 24 = .ok (.iaload, 1) := by decide +kernel
theorem dX4_itemAt_25 : decode cX4_itemAt 25 = .ok (.ireturn, 1) := by decide +kernel
theorem dX4_move_0 : decode cX4_move 0 = .ok (.aload_n 0, 1) := by decide +kernel
theorem dX4_move_1 : decode cX4_move 1 = .ok (.iload_n 1, 1) := by decide +kernel
theorem dX4_move_2 : decode cX4_move 2 = .ok (.iload_n 2, 1) := by decide +kernel
theorem dX4_move_3 : decode cX4_move 3 = .ok (.iload_n 3, 1) := by decide +kernel
theorem dX4_move_4 : decode cX4_move 4 = .ok (.iload 4, 2) := by decide +kernel
theorem dX4_move_6 : decode cX4_move 6 = .ok (.iload 5, 2) := by decide +kernel
theorem dX4_move_8 : decode cX4_move 8 = .ok (.invokevirtual 33, 3) := by decide +kernel
theorem dX4_move_11 : decode cX4_move 11 = .ok (.ifCond .eq 6, 3) := by decide +kernel
theorem dX4_move_14 : decode cX4_move 14 = .ok (.ldc 32, 2) := by decide +kernel
theorem dX4_move_16 : decode cX4_move 16 = .ok (.ireturn, 1) := by decide +kernel
theorem dX4_move_17 : decode cX4_move 17 = .ok (.aload_n 0, 1) := by decide +kernel
theorem dX4_move_18 : decode cX4_move 18 = .ok (.getfield 11, 3) := by decide +kernel
theorem dX4_move_21 : decode cX4_move 21 = .ok (.iload_n 1, 1) := by decide +kernel
theorem dX4_move_22 : decode cX4_move 22 = .ok (.bipush 40, 2) := by decide +kernel
theorem dX4_move_24 : decode cX4_move 24 = .ok (.imul, 1) := by decide +kernel
theorem dX4_move_25 : decode cX4_move 25 = .ok (.iload_n 2, 1) := by decide +kernel
theorem dX4_move_26 : decode cX4_move 26 = .ok (.iadd, 1) := by decide +kernel
theorem dX4_move_27 : decode cX4_move 27 = .ok (.aload_n 0, 1) := by decide +kernel
theorem dX4_move_28 : decode cX4_move 28 = .ok (.getfield 11, 3) := by decide +kernel
theorem dX4_move_31 : decode cX4_move 31 = .ok (.iload_n 3, 1) := by decide +kernel
theorem dX4_move_32 : decode cX4_move 32 = .ok (.bipush 40, 2) := by decide +kernel
theorem dX4_move_34 : decode cX4_move 34 = .ok (.imul, 1) := by decide +kernel
theorem dX4_move_35 : decode cX4_move 35 = .ok (.iload 4, 2) := by decide +kernel
theorem dX4_move_37 : decode cX4_move 37 = .ok (.iadd, 1) := by decide +kernel
theorem dX4_move_38 : decode cX4_move 38 = .ok (.iload 5, 2) := by decide +kernel
theorem dX4_move_40 : decode cX4_move 40 = .ok (.invokestatic 37, 3) := by decide +kernel
theorem dX4_move_43 : decode cX4_move 43 = .ok (.iload 5, 2) := by decide +kernel
theorem dX4_move_45 : decode cX4_move 45 = .ok (.ireturn, 1) := by decide +kernel
theorem dX4_takeAway_0 : decode cX4_takeAway 0 = .ok (.aload_n 0, 1) := by decide +kernel
theorem dX4_takeAway_1 : decode cX4_takeAway 1 = .ok (.iload_n 1, 1) := by decide +kernel
theorem dX4_takeAway_2 : decode cX4_takeAway 2 = .ok (.invokevirtual 25, 3) := by decide +kernel
theorem dX4_takeAway_5 : decode cX4_takeAway 5 = .ok (.ifCond .eq 6, 3) := by decide +kernel
theorem dX4_takeAway_8 : decode cX4_takeAway 8 = .ok (.ldc 32, 2) := by decide +kernel
theorem dX4_takeAway_10 : decode cX4_takeAway 10 = .ok (.ireturn, 1) := by decide +kernel
theorem dX4_takeAway_11 : decode cX4_takeAway 11 = .ok (.aload_n 0, 1) := by decide +kernel
theorem dX4_takeAway_12 : decode cX4_takeAway 12 = .ok (.getfield 18, 3) := by decide +kernel
theorem dX4_takeAway_15 : decode cX4_takeAway 15 = .ok (.iload_n 1, 1) := by decide +kernel
theorem dX4_takeAway_16 : decode cX4_takeAway 16 = .ok (.iaload, 1) := by decide +kernel
theorem dX4_takeAway_17 : decode cX4_takeAway 17 = .ok (.istore_n 2, 1) := by decide +kernel
theorem dX4_takeAway_18 : decode cX4_takeAway 18 = .ok (.aload_n 0, 1) := by decide +kernel
theorem dX4_takeAway_19 : decode cX4_takeAway 19 = .ok (.getfield 18, 3) := by decide +kernel
theorem dX4_takeAway_22 : decode cX4_takeAway 22 = .ok (.iload_n 1, 1) := by decide +kernel
theorem dX4_takeAway_23 : decode cX4_takeAway 23 = .ok (.iconst (-1), 1) := by decide +kernel
theorem dX4_takeAway_24 : decode cX4_takeAway 24 = .ok (.iastore, 1) := by decide +kernel
theorem dX4_takeAway_25 : decode cX4_takeAway 25 = .ok (.iload_n 2, 1) := by decide +kernel
theorem dX4_takeAway_26 : decode cX4_takeAway 26 = .ok (.ireturn, 1) := by decide +kernel
theorem dX5_init_0 : decode cX5_init 0 = .ok (.aload_n 0, 1) := by decide +kernel
theorem dX5_init_1 : decode cX5_init 1 = .ok (.invokespecial 3, 3) := by decide +kernel
theorem dX5_init_4 : decode cX5_init 4 = .ok (.aload_n 0, 1) := by decide +kernel
theorem dX5_init_5 : decode cX5_init 5 = .ok (.bipush 8, 2) := by decide +kernel
theorem dX5_init_7 : decode cX5_init 7 = .ok (.newarray .int, 2) := by decide +kernel
theorem dX5_init_9 : decode cX5_init 9 = .ok (.putfield 9, 3) := by decide +kernel
theorem dX5_init_12 : decode cX5_init 12 = .ok (.aload_n 0, 1) := by decide +kernel
theorem dX5_init_13 : decode cX5_init 13 = .ok (.bipush 8, 2) := by decide +kernel
theorem dX5_init_15 : decode cX5_init 15 = .ok (.newarray .int, 2) := by decide +kernel
theorem dX5_init_17 : decode cX5_init 17 = .ok (.putfield 15, 3) := by decide +kernel
theorem dX5_init_20 : decode cX5_init 20 = .ok (.aload_n 0, 1) := by decide +kernel
theorem dX5_init_21 : decode cX5_init 21 = .ok (.bipush 8, 2) := by decide +kernel
theorem dX5_init_23 : decode cX5_init 23 = .ok (.newarray .int, 2) := by decide +kernel
theorem dX5_init_25 : decode cX5_init 25 = .ok (.putfield 18, 3) := by decide +kernel
theorem dX5_init_28 : decode cX5_init 28 = .ok (.aload_n 0, 1) := by decide +kernel
theorem dX5_init_29 : decode cX5_init 29 = .ok (.bipush 20, 2) := by decide +kernel
theorem dX5_init_31 : decode cX5_init 31 = .ok (.newarray .int, 2) := by decide +kernel
theorem dX5_init_33 : decode cX5_init 33 = .ok (.putfield 21, 3) := by decide +kernel
theorem dX5_init_36 : decode cX5_init 36 = .ok (.return_, 1) := by decide +kernel
theorem dX5_take_0 : decode cX5_take 0 = .ok (.aload_n 1, 1) := by decide +kernel
theorem dX5_take_1 : decode cX5_take 1 = .ok (.ifnonnull 4, 3) := by decide +kernel
theorem dX5_take_4 : decode cX5_take 4 = .ok (.return_, 1) := by decide +kernel
theorem dX5_take_5 : decode cX5_take 5 = .ok (.aload_n 1, 1) := by decide +kernel
theorem dX5_take_6 : decode cX5_take 6 = .ok (.getfield 9, 3) := by decide +kernel
theorem dX5_take_9 : decode cX5_take 9 = .ok (.iconst 0, 1) := by decide +kernel
theorem dX5_take_10 : decode cX5_take 10 = .ok (.aload_n 0, 1) := by decide +kernel
theorem dX5_take_11 : decode cX5_take 11 = .ok (.getfield 9, 3) := by decide +kernel
theorem dX5_take_14 : decode cX5_take 14 = .ok (.iconst 0, 1) := by decide +kernel
theorem dX5_take_15 : decode cX5_take 15 = .ok (.bipush 8, 2) := by decide +kernel
theorem dX5_take_17 : decode cX5_take 17 = .ok (.invokestatic 24, 3) := by decide +kernel
theorem dX5_take_20 : decode cX5_take 20 = .ok (.aload_n 1, 1) := by decide +kernel
theorem dX5_take_21 : decode cX5_take 21 = .ok (.getfield 15, 3) := by decide +kernel
theorem dX5_take_24 : decode cX5_take 24 = .ok (.iconst 0, 1) := by decide +kernel
theorem dX5_take_25 : decode cX5_take 25 = .ok (.aload_n 0, 1) := by decide +kernel
theorem dX5_take_26 : decode cX5_take 26 = .ok (.getfield 15, 3) := by decide +kernel
theorem dX5_take_29 : decode cX5_take 29 = .ok (.iconst 0, 1) := by decide +kernel
theorem dX5_take_30 : decode cX5_take 30 = .ok (.bipush 8, 2) := by decide +kernel
theorem dX5_take_32 : decode cX5_take 32 = .ok (.invokestatic 24, 3) := by decide +kernel
theorem dX5_take_35 : decode cX5_take 35 = .ok (.aload_n 1, 1) := by decide +kernel
theorem dX5_take_36 : decode cX5_take 36 = .ok (.getfield 18, 3) := by decide +kernel
theorem dX5_take_39 : decode cX5_take 39 = .ok (.iconst 0, 1) := by decide +kernel
theorem dX5_take_40 : decode cX5_take 40 = .ok (.aload_n 0, 1) := by decide +kernel
theorem dX5_take_41 : decode cX5_take 41 = .ok (.getfield 18, 3) := by decide +kernel
theorem dX5_take_44 : decode cX5_take 44 = .ok (.iconst 0, 1) := by decide +kernel
theorem dX5_take_45 : decode cX5_take 45 = .ok (.bipush 8, 2) := by decide +kernel
theorem dX5_take_47 : decode cX5_take 47 = .ok (.invokestatic 24, 3) := by decide +kernel
theorem dX5_take_50 : decode cX5_take 50 = .ok (.aload_n 1, 1) := by decide +kernel
theorem dX5_take_51 : decode cX5_take 51 = .ok (.getfield 21, 3) := by decide +kernel
theorem dX5_take_54 : decode cX5_take 54 = .ok (.iconst 0, 1) := by decide +kernel
theorem dX5_take_55 : decode cX5_take 55 = .ok (.aload_n 0, 1) := by decide +kernel
theorem dX5_take_56 : decode cX5_take 56 = .ok (.getfield 21, 3) := by decide +kernel
theorem dX5_take_59 : decode cX5_take 59 = .ok (.iconst 0, 1) := by decide +kernel
theorem dX5_take_60 : decode cX5_take 60 = .ok (.bipush 20, 2) := by decide +kernel
theorem dX5_take_62 : decode cX5_take 62 = .ok (.invokestatic 24, 3) := by decide +kernel
theorem dX5_take_65 : decode cX5_take 65 = .ok (.aload_n 0, 1) := by decide +kernel
theorem dX5_take_66 : decode cX5_take 66 = .ok (.aload_n 1, 1) := by decide +kernel
theorem dX5_take_67 : decode cX5_take 67 = .ok (.getfield 30, 3) := by decide +kernel
theorem dX5_take_70 : decode cX5_take 70 = .ok (.putfield 30, 3) := by decide +kernel
theorem dX5_take_73 : decode cX5_take 73 = .ok (.aload_n 0, 1) := by decide +kernel
theorem dX5_take_74 : decode cX5_take 74 = .ok (.aload_n 1, 1) := by decide +kernel
theorem dX5_take_75 : decode cX5_take 75 = .ok (.getfield 34, 3) := by decide +kernel
theorem dX5_take_78 : decode cX5_take 78 = .ok (.putfield 34, 3) := by decide +kernel
theorem dX5_take_81 : decode cX5_take 81 = .ok (.aload_n 0, 1) := by decide +kernel
theorem dX5_take_82 : decode cX5_take 82 = .ok (.aload_n 1, 1) := by decide +kernel
theorem dX5_take_83 : decode cX5_take 83 = .ok (.getfield 37, 3) := by decide +kernel
theorem dX5_take_86 : decode cX5_take 86 = .ok (.putfield 37, 3) := by decide +kernel
theorem dX5_take_89 : decode cX5_take 89 = .ok (.aload_n 0, 1) := by decide +kernel
theorem dX5_take_90 : decode cX5_take 90 = .ok (.aload_n 1, 1) := by decide +kernel
theorem dX5_take_91 : decode cX5_take 91 = .ok (.getfield 40, 3) := by decide +kernel
theorem dX5_take_94 : decode cX5_take 94 = .ok (.putfield 40, 3) := by decide +kernel
theorem dX5_take_97 : decode cX5_take 97 = .ok (.aload_n 0, 1) := by decide +kernel
theorem dX5_take_98 : decode cX5_take 98 = .ok (.aload_n 1, 1) := by decide +kernel
theorem dX5_take_99 : decode cX5_take 99 = .ok (.getfield 43, 3) := by decide +kernel
theorem dX5_take_102 : decode cX5_take 102 = .ok (.putfield 43, 3) := by decide +kernel
theorem dX5_take_105 : decode cX5_take 105 = .ok (.return_, 1) := by decide +kernel
theorem dX5_begin_0 : decode cX5_begin 0 = .ok (.aload_n 0, 1) := by decide +kernel
theorem dX5_begin_1 : decode cX5_begin 1 = .ok (.iload_n 1, 1) := by decide +kernel
theorem dX5_begin_2 : decode cX5_begin 2 = .ok (.putfield 37, 3) := by decide +kernel
theorem dX5_begin_5 : decode cX5_begin 5 = .ok (.aload_n 0, 1) := by decide +kernel
theorem dX5_begin_6 : decode cX5_begin 6 = .ok (.iload_n 2, 1) := by decide +kernel
theorem dX5_begin_7 : decode cX5_begin 7 = .ok (.putfield 40, 3) := by decide +kernel
theorem dX5_begin_10 : decode cX5_begin 10 = .ok (.aload_n 0, 1) := by decide +kernel
theorem dX5_begin_11 : decode cX5_begin 11 = .ok (.iconst 0, 1) := by decide +kernel
theorem dX5_begin_12 : decode cX5_begin 12 = .ok (.putfield 43, 3) := by decide +kernel
theorem dX5_begin_15 : decode cX5_begin 15 = .ok (.aload_n 0, 1) := by decide +kernel
theorem dX5_begin_16 : decode cX5_begin 16 = .ok (.iconst 0, 1) := by decide +kernel
theorem dX5_begin_17 : decode cX5_begin 17 = .ok (.putfield 30, 3) := by decide +kernel
theorem dX5_begin_20 : decode cX5_begin 20 = .ok (.aload_n 0, 1) := by decide +kernel
theorem dX5_begin_21 : decode cX5_begin 21 = .ok (.iconst 0, 1) := by decide +kernel
theorem dX5_begin_22 : decode cX5_begin 22 = .ok (.putfield 34, 3) := by decide +kernel
theorem dX5_begin_25 : decode cX5_begin 25 = .ok (.return_, 1) := by decide +kernel
theorem dX5_addTread_0 : decode cX5_addTread 0 = .ok (.aload_n 0, 1) := by decide +kernel
theorem dX5_addTread_1 : decode cX5_addTread 1 = .ok (.getfield 30, 3) := by decide +kernel
theorem dX5_addTread_4 : decode cX5_addTread 4 = .ok (.ifCond .lt 12, 3) := by decide +kernel
theorem dX5_addTread_7 : decode cX5_addTread 7 = .ok (.aload_n 0, 1) := by decide +kernel
theorem dX5_addTread_8 : decode cX5_addTread 8 = .ok (.getfield 30, 3) := by decide +kernel
theorem dX5_addTread_11 : decode cX5_addTread 11 = .ok (.bipush 8, 2) := by decide +kernel
theorem dX5_addTread_13 : decode cX5_addTread 13 = .ok (.if_icmp .lt 4, 3) := by decide +kernel
theorem dX5_addTread_16 : decode cX5_addTread 16 = .ok (.return_, 1) := by decide +kernel
theorem dX5_addTread_17 : decode cX5_addTread 17 = .ok (.aload_n 0, 1) := by decide +kernel
theorem dX5_addTread_18 : decode cX5_addTread 18 = .ok (.getfield 9, 3) := by decide +kernel
theorem dX5_addTread_21 : decode cX5_addTread 21 = .ok (.aload_n 0, 1) := by decide +kernel
theorem dX5_addTread_22 : decode cX5_addTread 22 = .ok (.getfield 30, 3) := by decide +kernel
theorem dX5_addTread_25 : decode cX5_addTread 25 = .ok (.iload_n 1, 1) := by decide +kernel
theorem dX5_addTread_26 : decode cX5_addTread 26 = .ok (.iastore, 1) := by decide +kernel
theorem dX5_addTread_27 : decode cX5_addTread 27 = .ok (.aload_n 0, 1) := by decide +kernel
theorem dX5_addTread_28 : decode cX5_addTread 28 = .ok (.getfield 15, 3) := by decide +kernel
theorem dX5_addTread_31 : decode cX5_addTread 31 = .ok (.aload_n 0, 1) := by decide +kernel
theorem dX5_addTread_32 : decode cX5_addTread 32 = .ok (.getfield 30, 3) := by decide +kernel
theorem dX5_addTread_35 : decode cX5_addTread 35 = .ok (.iload_n 2, 1) := by decide +kernel
theorem dX5_addTread_36 : decode cX5_addTread 36 = .ok (.iastore, 1) := by decide +kernel
theorem dX5_addTread_37 : decode cX5_addTread 37 = .ok (.aload_n 0, 1) := by decide +kernel
theorem dX5_addTread_38 : decode cX5_addTread 38 = .ok (.getfield 18, 3) := by decide +kernel
theorem dX5_addTread_41 : decode cX5_addTread 41 = .ok (.aload_n 0, 1) := by decide +kernel
theorem dX5_addTread_42 : decode cX5_addTread 42 = .ok (.getfield 30, 3) := by decide +kernel
theorem dX5_addTread_45 : decode cX5_addTread 45 = .ok (.iconst 0, 1) := by decide +kernel
theorem dX5_addTread_46 : decode cX5_addTread 46 = .ok (.iastore, 1) := by decide +kernel
theorem dX5_addTread_47 : decode cX5_addTread 47 = .ok (.aload_n 0, 1) := by decide +kernel
theorem dX5_addTread_48 : decode cX5_addTread 48 = .ok (.dup, 1) := by decide +kernel
theorem dX5_addTread_49 : decode cX5_addTread 49 = .ok (.getfield 30, 3) := by decide +kernel
theorem dX5_addTread_52 : decode cX5_addTread 52 = .ok (.iconst 1, 1) := by decide +kernel
theorem dX5_addTread_53 : decode cX5_addTread 53 = .ok (.iadd, 1) := by decide +kernel
theorem dX5_addTread_54 : decode cX5_addTread 54 = .ok (.putfield 30, 3) := by decide +kernel
theorem dX5_addTread_57 : decode cX5_addTread 57 = .ok (.return_, 1) := by decide +kernel
theorem dX5_addWalker_0 : decode cX5_addWalker 0 = .ok (.aload_n 0, 1) := by decide +kernel
theorem dX5_addWalker_1 : decode cX5_addWalker 1 = .ok (.getfield 34, 3) := by decide +kernel
theorem dX5_addWalker_4 : decode cX5_addWalker 4 = .ok (.iconst 5, 1) := by decide +kernel
theorem dX5_addWalker_5 : decode cX5_addWalker 5 = .ok (.if_icmp .ge 13, 3) := by decide +kernel
theorem dX5_addWalker_8 : decode cX5_addWalker 8 = .ok (.aload_n 0, 1) := by decide +kernel
theorem dX5_addWalker_9 : decode cX5_addWalker 9 = .ok (.dup, 1) := by decide +kernel
theorem dX5_addWalker_10 : decode cX5_addWalker 10 = .ok (.getfield 34, 3) := by decide +kernel
theorem dX5_addWalker_13 : decode cX5_addWalker 13 = .ok (.iconst 1, 1) := by decide +kernel
theorem dX5_addWalker_14 : decode cX5_addWalker 14 = .ok (.iadd, 1) := by decide +kernel
theorem dX5_addWalker_15 : decode cX5_addWalker 15 = .ok (.putfield 34, 3) := by decide +kernel
theorem dX5_addWalker_18 : decode cX5_addWalker 18 = .ok (.return_, 1) := by decide +kernel
theorem dX5_stands_0 : decode cX5_stands 0 = .ok (.aload_n 0, 1) := by decide +kernel
theorem dX5_stands_1 : decode cX5_stands 1 = .ok (.getfield 30, 3) := by decide +kernel
theorem dX5_stands_4 : decode cX5_stands 4 = .ok (.ifCond .le 7, 3) := by decide +kernel
theorem dX5_stands_7 : decode cX5_stands 7 = .ok (.iconst 1, 1) := by decide +kernel
theorem dX5_stands_8 : decode cX5_stands 8 = .ok (.goto 4, 3) := by decide +kernel
theorem dX5_stands_11 : decode cX5_stands 11 = .ok (.iconst 0, 1) := by decide +kernel
theorem dX5_stands_12 : decode cX5_stands 12 = .ok (.ireturn, 1) := by decide +kernel
theorem dX5_hasTread_0 : decode cX5_hasTread 0 = .ok (.iload_n 1, 1) := by decide +kernel
theorem dX5_hasTread_1 : decode cX5_hasTread 1 = .ok (.ifCond .lt 15, 3) := by decide +kernel
theorem dX5_hasTread_4 : decode cX5_hasTread 4 = .ok (.iload_n 1, 1) := by decide +kernel
theorem dX5_hasTread_5 : decode cX5_hasTread 5 = .ok (.aload_n 0, 1) := by decide +kernel
theorem dX5_hasTread_6 : decode cX5_hasTread 6 = .ok (.getfield 30, 3) := by decide +kernel
theorem dX5_hasTread_9 : decode cX5_hasTread 9 = .ok (.if_icmp .ge 7, 3) := by decide +kernel
theorem dX5_hasTread_12 : decode cX5_hasTread 12 = .ok (.iconst 1, 1) := by decide +kernel
theorem dX5_hasTread_13 : decode cX5_hasTread 13 = .ok (.goto 4, 3) := by decide +kernel
theorem dX5_hasTread_16 : decode cX5_hasTread 16 = .ok (.iconst 0, 1) := by decide +kernel
theorem dX5_hasTread_17 : decode cX5_hasTread 17 = .ok (.ireturn, 1) := by decide +kernel
theorem dX5_hasWalker_0 : decode cX5_hasWalker 0 = .ok (.iload_n 1, 1) := by decide +kernel
theorem dX5_hasWalker_1 : decode cX5_hasWalker 1 = .ok (.ifCond .lt 15, 3) := by decide +kernel
theorem dX5_hasWalker_4 : decode cX5_hasWalker 4 = .ok (.iload_n 1, 1) := by decide +kernel
theorem dX5_hasWalker_5 : decode cX5_hasWalker 5 = .ok (.aload_n 0, 1) := by decide +kernel
theorem dX5_hasWalker_6 : decode cX5_hasWalker 6 = .ok (.getfield 34, 3) := by decide +kernel
theorem dX5_hasWalker_9 : decode cX5_hasWalker 9 = .ok (.if_icmp .ge 7, 3) := by decide +kernel
theorem dX5_hasWalker_12 : decode cX5_hasWalker 12 = .ok (.iconst 1, 1) := by decide +kernel
theorem dX5_hasWalker_13 : decode cX5_hasWalker 13 = .ok (.goto 4, 3) := by decide +kernel
theorem dX5_hasWalker_16 : decode cX5_hasWalker 16 = .ok (.iconst 0, 1) := by decide +kernel
theorem dX5_hasWalker_17 : decode cX5_hasWalker 17 = .ok (.ireturn, 1) := by decide +kernel
theorem dX5_treadCount_0 : decode cX5_treadCount 0 = .ok (.aload_n 0, 1) := by decide +kernel
theorem dX5_treadCount_1 : decode cX5_treadCount 1 = .ok (.getfield 30, 3) := by decide +kernel
theorem dX5_treadCount_4 : decode cX5_treadCount 4 = .ok (.ireturn, 1) := by decide +kernel
theorem dX5_walkerCount_0 : decode cX5_walkerCount 0 = .ok (.aload_n 0, 1) := by decide +kernel
theorem dX5_walkerCount_1 : decode cX5_walkerCount 1 = .ok (.getfield 34, 3) := by decide +kernel
theorem dX5_walkerCount_4 : decode cX5_walkerCount 4 = .ok (.ireturn, 1) := by decide +kernel
theorem dX5_reachNow_0 : decode cX5_reachNow 0 = .ok (.aload_n 0, 1) := by decide +kernel
theorem dX5_reachNow_1 : decode cX5_reachNow 1 = .ok (.getfield 40, 3) := by decide +kernel
theorem dX5_reachNow_4 : decode cX5_reachNow 4 = .ok (.ireturn, 1) := by decide +kernel
theorem dX5_dayNumber_0 : decode cX5_dayNumber 0 = .ok (.aload_n 0, 1) := by decide +kernel
theorem dX5_dayNumber_1 : decode cX5_dayNumber 1 = .ok (.getfield 43, 3) := by decide +kernel
theorem dX5_dayNumber_4 : decode cX5_dayNumber 4 = .ok (.ireturn, 1) := by decide +kernel
theorem dX5_isWet_0 : decode cX5_isWet 0 = .ok (.aload_n 0, 1) := by decide +kernel
theorem dX5_isWet_1 : decode cX5_isWet 1 = .ok (.getfield 37, 3) := by decide +kernel
theorem dX5_isWet_4 : decode cX5_isWet 4 = .ok (.aload_n 0, 1) := by decide +kernel
theorem dX5_isWet_5 : decode cX5_isWet 5 = .ok (.getfield 43, 3) := by decide +kernel
theorem dX5_isWet_8 : decode cX5_isWet 8 = .ok (.iconst 4, 1) := by decide +kernel
theorem dX5_isWet_9 : decode cX5_isWet 9 = .ok (.irem, 1) := by decide +kernel
theorem dX5_isWet_10 : decode cX5_isWet 10 = .ok (.ishr, 1) := by decide +kernel
theorem dX5_isWet_11 : decode cX5_isWet 11 = .ok (.iconst 1, 1) := by decide +kernel
theorem dX5_isWet_12 : decode cX5_isWet 12 = .ok (.iand, 1) := by decide +kernel
theorem dX5_isWet_13 : decode cX5_isWet 13 = .ok (.iconst 1, 1) := by decide +kernel
theorem dX5_isWet_14 : decode cX5_isWet 14 = .ok (.if_icmp .ne 7, 3) := by decide +kernel
theorem dX5_isWet_17 : decode cX5_isWet 17 = .ok (.iconst 1, 1) := by decide +kernel
theorem dX5_isWet_18 : decode cX5_isWet 18 = .ok (.goto 4, 3) := by decide +kernel
theorem dX5_isWet_21 : decode cX5_isWet 21 = .ok (.iconst 0, 1) := by decide +kernel
theorem dX5_isWet_22 : decode cX5_isWet 22 = .ok (.ireturn, 1) := by decide +kernel
theorem dX5_leastOf_0 : decode cX5_leastOf 0 = .ok (.iload_n 1, 1) := by decide +kernel
theorem dX5_leastOf_1 : decode cX5_leastOf 1 = .ok (.iconst 2, 1) := by decide +kernel
theorem dX5_leastOf_2 : decode cX5_leastOf 2 = .ok (.if_icmp .ne 7, 3) := by decide +kernel
theorem dX5_leastOf_5 : decode cX5_leastOf 5 = .ok (.iconst 1, 1) := by decide +kernel
theorem dX5_leastOf_6 : decode cX5_leastOf 6 = .ok (.goto 4, 3) := by decide +kernel
theorem dX5_leastOf_9 : decode cX5_leastOf 9 = .ok (.iconst 0, 1) := by decide +kernel
theorem dX5_leastOf_10 : decode cX5_leastOf 10 = .ok (.ireturn, 1) := by decide +kernel
theorem dX5_mostOf_0 : decode cX5_mostOf 0 = .ok (.iload_n 1, 1) := by decide +kernel
theorem dX5_mostOf_1 : decode cX5_mostOf 1 = .ok (.lookupswitch 32 #[(2, 27), (3, 29)], 27) := by decide +kernel
theorem dX5_mostOf_28 : decode cX5_mostOf 28 = .ok (.iconst 3, 1) := by decide +kernel
theorem dX5_mostOf_29 : decode cX5_mostOf 29 = .ok (.ireturn, 1) := by decide +kernel
theorem dX5_mostOf_30 : decode cX5_mostOf 30 = .ok (.bipush 20, 2) := by decide +kernel
theorem dX5_mostOf_32 : decode cX5_mostOf 32 = .ok (.ireturn, 1) := by decide +kernel
theorem dX5_mostOf_33 : decode cX5_mostOf 33 = .ok (.aload_n 0, 1) := by decide +kernel
theorem dX5_mostOf_34 : decode cX5_mostOf 34 = .ok (.getfield 30, 3) := by decide +kernel
theorem dX5_mostOf_37 : decode cX5_mostOf 37 = .ok (.iconst 1, 1) := by decide +kernel
theorem dX5_mostOf_38 : decode cX5_mostOf 38 = .ok (.isub, 1) := by decide +kernel
theorem dX5_mostOf_39 : decode cX5_mostOf 39 = .ok (.ireturn, 1) := by decide +kernel
theorem dX5_canBe_0 : decode cX5_canBe 0 = .ok (.iload_n 2, 1) := by decide +kernel
theorem dX5_canBe_1 : decode cX5_canBe 1 = .ok (.aload_n 0, 1) := by decide +kernel
theorem dX5_canBe_2 : decode cX5_canBe 2 = .ok (.iload_n 1, 1) := by decide +kernel
theorem dX5_canBe_3 : decode cX5_canBe 3 = .ok (.invokevirtual 46, 3) := by decide +kernel
theorem dX5_canBe_6 : decode cX5_canBe 6 = .ok (.if_icmp .lt 16, 3) := by decide +kernel
theorem dX5_canBe_9 : decode cX5_canBe 9 = .ok (.iload_n 2, 1) := by decide +kernel
theorem dX5_canBe_10 : decode cX5_canBe 10 = .ok (.aload_n 0, 1) := by decide +kernel
theorem dX5_canBe_11 : decode cX5_canBe 11 = .ok (.iload_n 1, 1) := by decide +kernel
theorem dX5_canBe_12 : decode cX5_canBe 12 = .ok (.invokevirtual 50, 3) := by decide +kernel
theorem dX5_canBe_15 : decode cX5_canBe 15 = .ok (.if_icmp .gt 7, 3) := by decide +kernel
theorem dX5_canBe_18 : decode cX5_canBe 18 = .ok (.iconst 1, 1) := by decide +kernel
theorem dX5_canBe_19 : decode cX5_canBe 19 = .ok (.goto 4, 3) := by decide +kernel
theorem dX5_canBe_22 : decode cX5_canBe 22 = .ok (.iconst 0, 1) := by decide +kernel
theorem dX5_canBe_23 : decode cX5_canBe 23 = .ok (.ireturn, 1) := by decide +kernel
theorem dX5_partOf_0 : decode cX5_partOf 0 = .ok (.aload_n 0, 1) := by decide +kernel
theorem dX5_partOf_1 : decode cX5_partOf 1 = .ok (.iload_n 1, 1) := by decide +kernel
theorem dX5_partOf_2 : decode cX5_partOf 2 = .ok (.invokevirtual 53, 3) := by decide +kernel
theorem dX5_partOf_5 : decode cX5_partOf 5 = .ok (.ifCond .eq 25, 3) := by decide +kernel
theorem dX5_partOf_8 : decode cX5_partOf 8 = .ok (.iload_n 2, 1) := by decide +kernel
theorem dX5_partOf_9 : decode cX5_partOf 9 = .ok (.ifCond .lt 21, 3) := by decide +kernel
theorem dX5_partOf_12 : decode cX5_partOf 12 = .ok (.iload_n 2, 1) := by decide +kernel
theorem dX5_partOf_13 : decode cX5_partOf 13 = .ok (.iconst 4, 1) := by decide +kernel
theorem dX5_partOf_14 : decode cX5_partOf 14 = .ok (.if_icmp .ge 16, 3) := by decide +kernel
theorem dX5_partOf_17 : decode cX5_partOf 17 = .ok (.aload_n 0, 1) := by decide +kernel
theorem dX5_partOf_18 : decode cX5_partOf 18 = .ok (.getfield 21, 3) := by decide +kernel
theorem dX5_partOf_21 : decode cX5_partOf 21 = .ok (.iload_n 1, 1) := by decide +kernel
theorem dX5_partOf_22 : decode cX5_partOf 22 = .ok (.iconst 4, 1) := by decide +kernel
theorem dX5_partOf_23 : decode cX5_partOf 23 = .ok (.imul, 1) := by decide +kernel
theorem dX5_partOf_24 : decode cX5_partOf 24 = .ok (.iload_n 2, 1) := by decide +kernel
theorem dX5_partOf_25 : decode cX5_partOf 25 = .ok (.iadd, 1) := by decide +kernel
theorem dX5_partOf_26 : decode cX5_partOf 26 = .ok (.iaload, 1) := by decide +kernel
theorem dX5_partOf_27 : decode cX5_partOf 27 = .ok (.goto 5, 3) := by decide +kernel
theorem dX5_partOf_30 : decode cX5_partOf 30 = .ok (.ldc 57, 2) := by decide +kernel
theorem dX5_partOf_32 : decode cX5_partOf 32 = .ok (.ireturn, 1) := by decide +kernel
theorem dX5_setPart_0 : decode cX5_setPart 0 = .ok (.aload_n 0, 1) := by decide +kernel
theorem dX5_setPart_1 : decode cX5_setPart 1 = .ok (.iload_n 1, 1) := by decide +kernel
theorem dX5_setPart_2 : decode cX5_setPart 2 = .ok (.invokevirtual 53, 3) := by decide +kernel
theorem dX5_setPart_5 : decode cX5_setPart 5 = .ok (.ifCond .eq 23, 3) := by decide +kernel
theorem dX5_setPart_8 : decode cX5_setPart 8 = .ok (.iload_n 2, 1) := by decide +kernel
theorem dX5_setPart_9 : decode cX5_setPart 9 = .ok (.ifCond .lt 19, 3) := by decide +kernel
theorem dX5_setPart_12 : decode cX5_setPart 12 = .ok (.iload_n 2, 1) := by decide +kernel
theorem dX5_setPart_13 : decode cX5_setPart 13 = .ok (.iconst 4, 1) := by decide +kernel
theorem dX5_setPart_14 : decode cX5_setPart 14 = .ok (.if_icmp .ge 14, 3) := by decide +kernel
theorem dX5_setPart_17 : decode cX5_setPart 17 = .ok (.aload_n 0, 1) := by decide +kernel
theorem dX5_setPart_18 : decode cX5_setPart 18 = .ok (.getfield 21, 3) := by decide +kernel
theorem dX5_setPart_21 : decode cX5_setPart 21 = .ok (.iload_n 1, 1) := by decide +kernel
theorem dX5_setPart_22 : decode cX5_setPart 22 = .ok (.iconst 4, 1) := by decide +kernel
theorem dX5_setPart_23 : decode cX5_setPart 23 = .ok (.imul, 1) := by decide +kernel
theorem dX5_setPart_24 : decode cX5_setPart 24 = .ok (.iload_n 2, 1) := by decide +kernel
theorem dX5_setPart_25 : decode cX5_setPart 25 = .ok (.iadd, 1) := by decide +kernel
theorem dX5_setPart_26 : decode cX5_setPart 26 = .ok (.iload_n 3, 1) := by decide +kernel
theorem dX5_setPart_27 : decode cX5_setPart 27 = .ok (.iastore, 1) := by decide +kernel
theorem dX5_setPart_28 : decode cX5_setPart 28 = .ok (.return_, 1) := by decide +kernel
theorem dX5_setReach_0 : decode cX5_setReach 0 = .ok (.aload_n 0, 1) := by decide +kernel
theorem dX5_setReach_1 : decode cX5_setReach 1 = .ok (.iload_n 1, 1) := by decide +kernel
theorem dX5_setReach_2 : decode cX5_setReach 2 = .ok (.putfield 40, 3) := by decide +kernel
theorem dX5_setReach_5 : decode cX5_setReach 5 = .ok (.return_, 1) := by decide +kernel
theorem dX5_kindOf_0 : decode cX5_kindOf 0 = .ok (.aload_n 0, 1) := by decide +kernel
theorem dX5_kindOf_1 : decode cX5_kindOf 1 = .ok (.iload_n 1, 1) := by decide +kernel
theorem dX5_kindOf_2 : decode cX5_kindOf 2 = .ok (.invokevirtual 58, 3) := by decide +kernel
theorem dX5_kindOf_5 : decode cX5_kindOf 5 = .ok (.ifCond .eq 12, 3) := by decide +kernel
theorem dX5_kindOf_8 : decode cX5_kindOf 8 = .ok (.aload_n 0, 1) := by decide +kernel
theorem dX5_kindOf_9 : decode cX5_kindOf 9 = .ok (.getfield 9, 3) := by decide +kernel
theorem dX5_kindOf_12 : decode cX5_kindOf 12 = .ok (.iload_n 1, 1) := by decide +kernel
theorem dX5_kindOf_13 : decode cX5_kindOf 13 = .ok (.iaload, 1) := by decide +kernel
theorem dX5_kindOf_14 : decode cX5_kindOf 14 = .ok (.goto 4, 3) := by decide +kernel
theorem dX5_kindOf_17 : decode cX5_kindOf 17 = .ok (.iconst 0, 1) := by decide +kernel
theorem dX5_kindOf_18 : decode cX5_kindOf 18 = .ok (.ireturn, 1) := by decide +kernel
theorem dX5_setKind_0 : decode cX5_setKind 0 = .ok (.aload_n 0, 1) := by decide +kernel
theorem dX5_setKind_1 : decode cX5_setKind 1 = .ok (.iload_n 1, 1) := by decide +kernel
theorem dX5_setKind_2 : decode cX5_setKind 2 = .ok (.invokevirtual 58, 3) := by decide +kernel
theorem dX5_setKind_5 : decode cX5_setKind 5 = .ok (.ifCond .eq 10, 3) := by decide +kernel
theorem dX5_setKind_8 : decode cX5_setKind 8 = .ok (.aload_n 0, 1) := by decide +kernel
theorem dX5_setKind_9 : decode cX5_setKind 9 = .ok (.getfield 9, 3) := by decide +kernel
theorem dX5_setKind_12 : decode cX5_setKind 12 = .ok (.iload_n 1, 1) := by decide +kernel
theorem dX5_setKind_13 : decode cX5_setKind 13 = .ok (.iload_n 2, 1) := by decide +kernel
theorem dX5_setKind_14 : decode cX5_setKind 14 = .ok (.iastore, 1) := by decide +kernel
theorem dX5_setKind_15 : decode cX5_setKind 15 = .ok (.return_, 1) := by decide +kernel
theorem dX5_noteOf_0 : decode cX5_noteOf 0 = .ok (.aload_n 0, 1) := by decide +kernel
theorem dX5_noteOf_1 : decode cX5_noteOf 1 = .ok (.iload_n 1, 1) := by decide +kernel
theorem dX5_noteOf_2 : decode cX5_noteOf 2 = .ok (.invokevirtual 58, 3) := by decide +kernel
theorem dX5_noteOf_5 : decode cX5_noteOf 5 = .ok (.ifCond .eq 12, 3) := by decide +kernel
theorem dX5_noteOf_8 : decode cX5_noteOf 8 = .ok (.aload_n 0, 1) := by decide +kernel
theorem dX5_noteOf_9 : decode cX5_noteOf 9 = .ok (.getfield 15, 3) := by decide +kernel
theorem dX5_noteOf_12 : decode cX5_noteOf 12 = .ok (.iload_n 1, 1) := by decide +kernel
theorem dX5_noteOf_13 : decode cX5_noteOf 13 = .ok (.iaload, 1) := by decide +kernel
theorem dX5_noteOf_14 : decode cX5_noteOf 14 = .ok (.goto 4, 3) := by decide +kernel
theorem dX5_noteOf_17 : decode cX5_noteOf 17 = .ok (.iconst 0, 1) := by decide +kernel
theorem dX5_noteOf_18 : decode cX5_noteOf 18 = .ok (.ireturn, 1) := by decide +kernel
theorem dX5_setNote_0 : decode cX5_setNote 0 = .ok (.aload_n 0, 1) := by decide +kernel
theorem dX5_setNote_1 : decode cX5_setNote 1 = .ok (.iload_n 1, 1) := by decide +kernel
theorem dX5_setNote_2 : decode cX5_setNote 2 = .ok (.invokevirtual 58, 3) := by decide +kernel
theorem dX5_setNote_5 : decode cX5_setNote 5 = .ok (.ifCond .eq 10, 3) := by decide +kernel
theorem dX5_setNote_8 : decode cX5_setNote 8 = .ok (.aload_n 0, 1) := by decide +kernel
theorem dX5_setNote_9 : decode cX5_setNote 9 = .ok (.getfield 15, 3) := by decide +kernel
theorem dX5_setNote_12 : decode cX5_setNote 12 = .ok (.iload_n 1, 1) := by decide +kernel
theorem dX5_setNote_13 : decode cX5_setNote 13 = .ok (.iload_n 2, 1) := by decide +kernel
theorem dX5_setNote_14 : decode cX5_setNote 14 = .ok (.iastore, 1) := by decide +kernel
theorem dX5_setNote_15 : decode cX5_setNote 15 = .ok (.return_, 1) := by decide +kernel
theorem dX5_wornOf_0 : decode cX5_wornOf 0 = .ok (.aload_n 0, 1) := by decide +kernel
theorem dX5_wornOf_1 : decode cX5_wornOf 1 = .ok (.iload_n 1, 1) := by decide +kernel
theorem dX5_wornOf_2 : decode cX5_wornOf 2 = .ok (.invokevirtual 58, 3) := by decide +kernel
theorem dX5_wornOf_5 : decode cX5_wornOf 5 = .ok (.ifCond .eq 12, 3) := by decide +kernel
theorem dX5_wornOf_8 : decode cX5_wornOf 8 = .ok (.aload_n 0, 1) := by decide +kernel
theorem dX5_wornOf_9 : decode cX5_wornOf 9 = .ok (.getfield 18, 3) := by decide +kernel
theorem dX5_wornOf_12 : decode cX5_wornOf 12 = .ok (.iload_n 1, 1) := by decide +kernel
theorem dX5_wornOf_13 : decode cX5_wornOf 13 = .ok (.iaload, 1) := by decide +kernel
theorem dX5_wornOf_14 : decode cX5_wornOf 14 = .ok (.goto 4, 3) := by decide +kernel
theorem dX5_wornOf_17 : decode cX5_wornOf 17 = .ok (.iconst 0, 1) := by decide +kernel
theorem dX5_wornOf_18 : decode cX5_wornOf 18 = .ok (.ireturn, 1) := by decide +kernel
theorem dX5_setWorn_0 : decode cX5_setWorn 0 = .ok (.aload_n 0, 1) := by decide +kernel
theorem dX5_setWorn_1 : decode cX5_setWorn 1 = .ok (.iload_n 1, 1) := by decide +kernel
theorem dX5_setWorn_2 : decode cX5_setWorn 2 = .ok (.invokevirtual 58, 3) := by decide +kernel
theorem dX5_setWorn_5 : decode cX5_setWorn 5 = .ok (.ifCond .eq 10, 3) := by decide +kernel
theorem dX5_setWorn_8 : decode cX5_setWorn 8 = .ok (.aload_n 0, 1) := by decide +kernel
theorem dX5_setWorn_9 : decode cX5_setWorn 9 = .ok (.getfield 18, 3) := by decide +kernel
theorem dX5_setWorn_12 : decode cX5_setWorn 12 = .ok (.iload_n 1, 1) := by decide +kernel
theorem dX5_setWorn_13 : decode cX5_setWorn 13 = .ok (.iload_n 2, 1) := by decide +kernel
theorem dX5_setWorn_14 : decode cX5_setWorn 14 = .ok (.iastore, 1) := by decide +kernel
theorem dX5_setWorn_15 : decode cX5_setWorn 15 = .ok (.return_, 1) := by decide +kernel
theorem dX5_planeTo_0 : decode cX5_planeTo 0 = .ok (.aload_n 0, 1) := by decide +kernel
theorem dX5_planeTo_1 : decode cX5_planeTo 1 = .ok (.iload_n 1, 1) := by decide +kernel
theorem dX5_planeTo_2 : decode cX5_planeTo 2 = .ok (.iload_n 2, 1) := by decide +kernel
theorem dX5_planeTo_3 : decode cX5_planeTo 3 = .ok (.invokevirtual 61, 3) := by decide +kernel
theorem dX5_planeTo_6 : decode cX5_planeTo 6 = .ok (.aload_n 0, 1) := by decide +kernel
theorem dX5_planeTo_7 : decode cX5_planeTo 7 = .ok (.iload_n 1, 1) := by decide +kernel
theorem dX5_planeTo_8 : decode cX5_planeTo 8 = .ok (.iconst 0, 1) := by decide +kernel
theorem dX5_planeTo_9 : decode cX5_planeTo 9 = .ok (.invokevirtual 65, 3) := by decide +kernel
theorem dX5_planeTo_12 : decode cX5_planeTo 12 = .ok (.return_, 1) := by decide +kernel
theorem dX5_wornTogether_0 : decode cX5_wornTogether 0 = .ok (.iconst 0, 1) := by decide +kernel
theorem dX5_wornTogether_1 : decode cX5_wornTogether 1 = .ok (.istore_n 1, 1) := by decide +kernel
theorem dX5_wornTogether_2 : decode cX5_wornTogether 2 = .ok (.iconst 0, 1) := by decide +kernel
theorem dX5_wornTogether_3 : decode cX5_wornTogether 3 = .ok (.istore_n 2, 1) := by decide +kernel
theorem dX5_wornTogether_4 : decode cX5_wornTogether 4 = .ok (.iload_n 2, 1) := by decide +kernel
theorem dX5_wornTogether_5 : decode cX5_wornTogether 5 = .ok (.aload_n 0, 1) := by decide +kernel
theorem dX5_wornTogether_6 : decode cX5_wornTogether 6 = .ok (.getfield 30, 3) := by decide +kernel
theorem dX5_wornTogether_9 : decode cX5_wornTogether 9 = .ok (.if_icmp .ge 17, 3) := by decide +kernel
theorem dX5_wornTogether_12 : decode cX5_wornTogether 12 = .ok (.iload_n 1, 1) := by decide +kernel
theorem dX5_wornTogether_13 : decode cX5_wornTogether 13 = .ok (.aload_n 0, 1) := by decide +kernel
theorem dX5_wornTogether_14 : decode cX5_wornTogether 14 = .ok (.iload_n 2, 1) := by decide +kernel
theorem dX5_wornTogether_15 : decode cX5_wornTogether 15 = .ok (.invokevirtual 68, 3) := by decide +kernel
theorem dX5_wornTogether_18 : decode cX5_wornTogether 18 = .ok (.iadd, 1) := by decide +kernel
theorem dX5_wornTogether_19 : decode cX5_wornTogether 19 = .ok (.istore_n 1, 1) := by decide +kernel
theorem dX5_wornTogether_20 : decode cX5_wornTogether 20 = .ok (.iinc 2 1, 3) := by decide +kernel
theorem dX5_wornTogether_23 : decode cX5_wornTogether 23 = .ok (.goto (-19), 3) := by decide +kernel
theorem dX5_wornTogether_26 : decode cX5_wornTogether 26 = .ok (.iload_n 1, 1) := by decide +kernel
theorem dX5_wornTogether_27 : decode cX5_wornTogether 27 = .ok (.ireturn, 1) := by decide +kernel
theorem dX5_tonesTogether_0 : decode cX5_tonesTogether 0 = .ok (.iconst 0, 1) := by decide +kernel
theorem dX5_tonesTogether_1 : decode cX5_tonesTogether 1 = .ok (.istore_n 1, 1) := by decide +kernel
theorem dX5_tonesTogether_2 : decode cX5_tonesTogether 2 = .ok (.iconst 0, 1) := by decide +kernel
theorem dX5_tonesTogether_3 : decode cX5_tonesTogether 3 = .ok (.istore_n 2, 1) := by decide +kernel
theorem dX5_tonesTogether_4 : decode cX5_tonesTogether 4 = .ok (.iload_n 2, 1) := by decide +kernel
theorem dX5_tonesTogether_5 : decode cX5_tonesTogether 5 = .ok (.aload_n 0, 1) := by decide +kernel
theorem dX5_tonesTogether_6 : decode cX5_tonesTogether 6 = .ok (.getfield 30, 3) := by decide +kernel
theorem dX5_tonesTogether_9 : decode cX5_tonesTogether 9 = .ok (.if_icmp .ge 17, 3) := by decide +kernel
theorem dX5_tonesTogether_12 : decode cX5_tonesTogether 12 = .ok (.iload_n 1, 1) := by decide +kernel
theorem dX5_tonesTogether_13 : decode cX5_tonesTogether 13 = .ok (.aload_n 0, 1) := by decide +kernel
theorem dX5_tonesTogether_14 : decode cX5_tonesTogether 14 = .ok (.iload_n 2, 1) := by decide +kernel
theorem dX5_tonesTogether_15 : decode cX5_tonesTogether 15 = .ok (.invokevirtual 71, 3) := by decide +kernel
theorem dX5_tonesTogether_18 : decode cX5_tonesTogether 18 = .ok (.iadd, 1) := by decide +kernel
theorem dX5_tonesTogether_19 : decode cX5_tonesTogether 19 = .ok (.istore_n 1, 1) := by decide +kernel
theorem dX5_tonesTogether_20 : decode cX5_tonesTogether 20 = .ok (.iinc 2 1, 3) := by decide +kernel
theorem dX5_tonesTogether_23 : decode cX5_tonesTogether 23 = .ok (.goto (-19), 3) := by decide +kernel
theorem dX5_tonesTogether_26 : decode cX5_tonesTogether 26 = .ok (.iload_n 1, 1) := by decide +kernel
theorem dX5_tonesTogether_27 : decode cX5_tonesTogether 27 = .ok (.ireturn, 1) := by decide +kernel
theorem dX5_toneOf_0 : decode cX5_toneOf 0 = .ok (.aload_n 0, 1) := by decide +kernel
theorem dX5_toneOf_1 : decode cX5_toneOf 1 = .ok (.iload_n 1, 1) := by decide +kernel
theorem dX5_toneOf_2 : decode cX5_toneOf 2 = .ok (.invokevirtual 58, 3) := by decide +kernel
theorem dX5_toneOf_5 : decode cX5_toneOf 5 = .ok (.ifCond .eq 26, 3) := by decide +kernel
theorem dX5_toneOf_8 : decode cX5_toneOf 8 = .ok (.iconst 0, 1) := by decide +kernel
theorem dX5_toneOf_9 : decode cX5_toneOf 9 = .ok (.aload_n 0, 1) := by decide +kernel
theorem dX5_toneOf_10 : decode cX5_toneOf 10 = .ok (.getfield 15, 3) := by decide +kernel
theorem dX5_toneOf_13 : decode cX5_toneOf 13 = .ok (.iload_n 1, 1) := by decide +kernel
theorem dX5_toneOf_14 : decode cX5_toneOf 14 = .ok (.iaload, 1) := by decide +kernel
theorem dX5_toneOf_15 : decode cX5_toneOf 15 = .ok (.aload_n 0, 1) := by decide +kernel
theorem dX5_toneOf_16 : decode cX5_toneOf 16 = .ok (.getfield 18, 3) := by decide +kernel
theorem dX5_toneOf_19 : decode cX5_toneOf 19 = .ok (.iload_n 1, 1) := by decide +kernel
theorem dX5_toneOf_20 : decode cX5_toneOf 20 = .ok (.iaload, 1) := by decide +kernel
theorem dX5_toneOf_21 : decode cX5_toneOf 21 = .ok (.bipush 10, 2) := by decide +kernel
theorem dX5_toneOf_23 : decode cX5_toneOf 23 = .ok (.idiv, 1) := by decide +kernel
theorem dX5_toneOf_24 : decode cX5_toneOf 24 = .ok (.isub, 1) := by decide +kernel
theorem dX5_toneOf_25 : decode cX5_toneOf 25 = .ok (.invokestatic 74, 3) := by decide +kernel
theorem dX5_toneOf_28 : decode cX5_toneOf 28 = .ok (.goto 4, 3) := by decide +kernel
theorem dX5_toneOf_31 : decode cX5_toneOf 31 = .ok (.iconst 0, 1) := by decide +kernel
theorem dX5_toneOf_32 : decode cX5_toneOf 32 = .ok (.ireturn, 1) := by decide +kernel
theorem dX5_soundAs_0 : decode cX5_soundAs 0 = .ok (.iload_n 1, 1) := by decide +kernel
theorem dX5_soundAs_1 : decode cX5_soundAs 1 = .ok (.tableswitch 81 1 5 #[35, 37, 56, 81, 67], 35) := by decide +kernel
theorem dX5_soundAs_36 : decode cX5_soundAs 36 = .ok (.iload_n 2, 1) := by decide +kernel
theorem dX5_soundAs_37 : decode cX5_soundAs 37 = .ok (.ireturn, 1) := by decide +kernel
theorem dX5_soundAs_38 : decode cX5_soundAs 38 = .ok (.aload_n 0, 1) := by decide +kernel
theorem dX5_soundAs_39 : decode cX5_soundAs 39 = .ok (.invokevirtual 80, 3) := by decide +kernel
theorem dX5_soundAs_42 : decode cX5_soundAs 42 = .ok (.ifCond .eq 13, 3) := by decide +kernel
theorem dX5_soundAs_45 : decode cX5_soundAs 45 = .ok (.iconst 0, 1) := by decide +kernel
theorem dX5_soundAs_46 : decode cX5_soundAs 46 = .ok (.iload_n 2, 1) := by decide +kernel
theorem dX5_soundAs_47 : decode cX5_soundAs 47 = .ok (.iconst 1, 1) := by decide +kernel
theorem dX5_soundAs_48 : decode cX5_soundAs 48 = .ok (.isub, 1) := by decide +kernel
theorem dX5_soundAs_49 : decode cX5_soundAs 49 = .ok (.invokestatic 74, 3) := by decide +kernel
theorem dX5_soundAs_52 : decode cX5_soundAs 52 = .ok (.goto 4, 3) := by decide +kernel
theorem dX5_soundAs_55 : decode cX5_soundAs 55 = .ok (.iload_n 2, 1) := by decide +kernel
theorem dX5_soundAs_56 : decode cX5_soundAs 56 = .ok (.ireturn, 1) := by decide +kernel
theorem dX5_soundAs_57 : decode cX5_soundAs 57 = .ok (.bipush 9, 2) := by decide +kernel
theorem dX5_soundAs_59 : decode cX5_soundAs 59 = .ok (.iload_n 2, 1) := by decide +kernel
theorem dX5_soundAs_60 : decode cX5_soundAs 60 = .ok (.iload_n 3, 1) := by decide +kernel
theorem dX5_soundAs_61 : decode cX5_soundAs 61 = .ok (.iadd, 1) := by decide +kernel
theorem dX5_soundAs_62 : decode cX5_soundAs 62 = .ok (.iconst 1, 1) := by decide +kernel
theorem dX5_soundAs_63 : decode cX5_soundAs 63 = .ok (.isub, 1) := by decide +kernel
theorem dX5_soundAs_64 : decode cX5_soundAs 64 = .ok (.invokestatic 84, 3) := by decide +kernel
theorem dX5_soundAs_67 : decode cX5_soundAs 67 = .ok (.ireturn, 1) := by decide +kernel
theorem dX5_soundAs_68 : decode cX5_soundAs 68 = .ok (.iload_n 3, 1) := by decide +kernel
theorem dX5_soundAs_69 : decode cX5_soundAs 69 = .ok (.iconst 3, 1) := by decide +kernel
theorem dX5_soundAs_70 : decode cX5_soundAs 70 = .ok (.if_icmp .ne 9, 3) := by decide +kernel
theorem dX5_soundAs_73 : decode cX5_soundAs 73 = .ok (.iload_n 2, 1) := by decide +kernel
theorem dX5_soundAs_74 : decode cX5_soundAs 74 = .ok (.iconst 2, 1) := by decide +kernel
theorem dX5_soundAs_75 : decode cX5_soundAs 75 = .ok (.idiv, 1) := by decide +kernel
theorem dX5_soundAs_76 : decode cX5_soundAs 76 = .ok (.goto 5, 3) := by decide +kernel
theorem dX5_soundAs_79 : decode cX5_soundAs 79 = .ok (.bipush 10, 2) := by decide +kernel
theorem dX5_soundAs_81 : decode cX5_soundAs 81 = .ok (.ireturn, 1) := by decide +kernel
theorem dX5_soundAs_82 : decode cX5_soundAs 82 = .ok (.bipush 10, 2) := by decide +kernel
theorem dX5_soundAs_84 : decode cX5_soundAs 84 = .ok (.ireturn, 1) := by decide +kernel
theorem dX5_treadOf_0 : decode cX5_treadOf 0 = .ok (.aload_n 0, 1) := by decide +kernel
theorem dX5_treadOf_1 : decode cX5_treadOf 1 = .ok (.iload_n 1, 1) := by decide +kernel
theorem dX5_treadOf_2 : decode cX5_treadOf 2 = .ok (.invokevirtual 53, 3) := by decide +kernel
theorem dX5_treadOf_5 : decode cX5_treadOf 5 = .ok (.ifCond .eq 13, 3) := by decide +kernel
theorem dX5_treadOf_8 : decode cX5_treadOf 8 = .ok (.iload_n 2, 1) := by decide +kernel
theorem dX5_treadOf_9 : decode cX5_treadOf 9 = .ok (.ifCond .lt 9, 3) := by decide +kernel
theorem dX5_treadOf_12 : decode cX5_treadOf 12 = .ok (.iload_n 2, 1) := by decide +kernel
theorem dX5_treadOf_13 : decode cX5_treadOf 13 = .ok (.bipush 8, 2) := by decide +kernel
theorem dX5_treadOf_15 : decode cX5_treadOf 15 = .ok (.if_icmp .lt 6, 3) := by decide +kernel
theorem dX5_treadOf_18 : decode cX5_treadOf 18 = .ok (.ldc 57, 2) := by decide +kernel
theorem dX5_treadOf_20 : decode cX5_treadOf 20 = .ok (.ireturn, 1) := by decide +kernel
theorem dX5_treadOf_21 : decode cX5_treadOf 21 = .ok (.aload_n 0, 1) := by decide +kernel
theorem dX5_treadOf_22 : decode cX5_treadOf 22 = .ok (.getfield 21, 3) := by decide +kernel
theorem dX5_treadOf_25 : decode cX5_treadOf 25 = .ok (.iload_n 1, 1) := by decide +kernel
theorem dX5_treadOf_26 : decode cX5_treadOf 26 = .ok (.iconst 4, 1) := by decide +kernel
theorem dX5_treadOf_27 : decode cX5_treadOf 27 = .ok (.imul, 1) := by decide +kernel
theorem dX5_treadOf_28 : decode cX5_treadOf 28 = .ok (.iconst 0, 1) := by decide +kernel
theorem dX5_treadOf_29 : decode cX5_treadOf 29 = .ok (.iadd, 1) := by decide +kernel
theorem dX5_treadOf_30 : decode cX5_treadOf 30 = .ok (.iaload, 1) := by decide +kernel
theorem dX5_treadOf_31 : decode cX5_treadOf 31 = .ok (.istore_n 3, 1) := by decide +kernel
theorem dX5_treadOf_32 : decode cX5_treadOf 32 = .ok (.aload_n 0, 1) := by decide +kernel
theorem dX5_treadOf_33 : decode cX5_treadOf 33 = .ok (.getfield 21, 3) := by decide +kernel
theorem dX5_treadOf_36 : decode cX5_treadOf 36 = .ok (.iload_n 1, 1) := by decide +kernel
theorem dX5_treadOf_37 : decode cX5_treadOf 37 = .ok (.iconst 4, 1) := by decide +kernel
theorem dX5_treadOf_38 : decode cX5_treadOf 38 = .ok (.imul, 1) := by decide +kernel
theorem dX5_treadOf_39 : decode cX5_treadOf 39 = .ok (.iconst 1, 1) := by decide +kernel
theorem dX5_treadOf_40 : decode cX5_treadOf 40 = .ok (.iadd, 1) := by decide +kernel
theorem dX5_treadOf_41 : decode cX5_treadOf 41 = .ok (.iaload, 1) := by decide +kernel
theorem dX5_treadOf_42 : decode cX5_treadOf 42 = .ok (.istore 4, 2) := by decide +kernel
theorem dX5_treadOf_44 : decode cX5_treadOf 44 = .ok (.aload_n 0, 1) := by decide +kernel
theorem dX5_treadOf_45 : decode cX5_treadOf 45 = .ok (.getfield 21, 3) := by decide +kernel
theorem dX5_treadOf_48 : decode cX5_treadOf 48 = .ok (.iload_n 1, 1) := by decide +kernel
theorem dX5_treadOf_49 : decode cX5_treadOf 49 = .ok (.iconst 4, 1) := by decide +kernel
theorem dX5_treadOf_50 : decode cX5_treadOf 50 = .ok (.imul, 1) := by decide +kernel
theorem dX5_treadOf_51 : decode cX5_treadOf 51 = .ok (.iconst 2, 1) := by decide +kernel
theorem dX5_treadOf_52 : decode cX5_treadOf 52 = .ok (.iadd, 1) := by decide +kernel
theorem dX5_treadOf_53 : decode cX5_treadOf 53 = .ok (.iaload, 1) := by decide +kernel
theorem dX5_treadOf_54 : decode cX5_treadOf 54 = .ok (.istore 5, 2) := by decide +kernel
theorem dX5_treadOf_56 : decode cX5_treadOf 56 = .ok (.iload 4, 2) := by decide +kernel
theorem dX5_treadOf_58 : decode cX5_treadOf 58 = .ok (.iload_n 3, 1) := by decide +kernel
theorem dX5_treadOf_59 : decode cX5_treadOf 59 = .ok (.isub, 1) := by decide +kernel
theorem dX5_treadOf_60 : decode cX5_treadOf 60 = .ok (.invokestatic 87, 3) := by decide +kernel
theorem dX5_treadOf_63 : decode cX5_treadOf 63 = .ok (.istore 6, 2) := by decide +kernel
theorem dX5_treadOf_65 : decode cX5_treadOf 65 = .ok (.iload_n 2, 1) := by decide +kernel
theorem dX5_treadOf_66 : decode cX5_treadOf 66 = .ok (.ifCond .le 17, 3) := by decide +kernel
theorem dX5_treadOf_69 : decode cX5_treadOf 69 = .ok (.iload_n 2, 1) := by decide +kernel
theorem dX5_treadOf_70 : decode cX5_treadOf 70 = .ok (.iconst 1, 1) := by decide +kernel
theorem dX5_treadOf_71 : decode cX5_treadOf 71 = .ok (.isub, 1) := by decide +kernel
theorem dX5_treadOf_72 : decode cX5_treadOf 72 = .ok (.iload 5, 2) := by decide +kernel
theorem dX5_treadOf_74 : decode cX5_treadOf 74 = .ok (.imul, 1) := by decide +kernel
theorem dX5_treadOf_75 : decode cX5_treadOf 75 = .ok (.iload 6, 2) := by decide +kernel
theorem dX5_treadOf_77 : decode cX5_treadOf 77 = .ok (.if_icmp .lt 6, 3) := by decide +kernel
theorem dX5_treadOf_80 : decode cX5_treadOf 80 = .ok (.ldc 57, 2) := by decide +kernel
theorem dX5_treadOf_82 : decode cX5_treadOf 82 = .ok (.ireturn, 1) := by decide +kernel
theorem dX5_treadOf_83 : decode cX5_treadOf 83 = .ok (.iload_n 2, 1) := by decide +kernel
theorem dX5_treadOf_84 : decode cX5_treadOf 84 = .ok (.iload 5, 2) := by decide +kernel
theorem dX5_treadOf_86 : decode cX5_treadOf 86 = .ok (.imul, 1) := by decide +kernel
theorem dX5_treadOf_87 : decode cX5_treadOf 87 = .ok (.iload 6, 2) := by decide +kernel
theorem dX5_treadOf_89 : decode cX5_treadOf 89 = .ok (.invokestatic 84, 3) := by decide +kernel
theorem dX5_treadOf_92 : decode cX5_treadOf 92 = .ok (.istore 7, 2) := by decide +kernel
theorem dX5_treadOf_94 : decode cX5_treadOf 94 = .ok (.iload 4, 2) := by decide +kernel
theorem dX5_treadOf_96 : decode cX5_treadOf 96 = .ok (.iload_n 3, 1) := by decide +kernel
theorem dX5_treadOf_97 : decode cX5_treadOf 97 = .ok (.if_icmp .le 10, 3) := by decide +kernel
theorem dX5_treadOf_100 : decode cX5_treadOf 100 = .ok (.iload_n 3, 1) := by decide +kernel
theorem dX5_treadOf_101 : decode cX5_treadOf 101 = .ok (.iload 7, 2) := by decide +kernel
theorem dX5_treadOf_103 : decode cX5_treadOf 103 = .ok (.iadd, 1) := by decide +kernel
theorem dX5_treadOf_104 : decode cX5_treadOf 104 = .ok (.goto 7, 3) := by decide +kernel
theorem dX5_treadOf_107 : decode cX5_treadOf 107 = .ok (.iload_n 3, 1) := by decide +kernel
theorem dX5_treadOf_108 : decode cX5_treadOf 108 = .ok (.iload 7, 2) := by decide +kernel
theorem dX5_treadOf_110 : decode cX5_treadOf 110 = .ok (.isub, 1) := by decide +kernel
theorem dX5_treadOf_111 : decode cX5_treadOf 111 = .ok (.ireturn, 1) := by decide +kernel
theorem dX5_soundOf_0 : decode cX5_soundOf 0 = .ok (.aload_n 0, 1) := by decide +kernel
theorem dX5_soundOf_1 : decode cX5_soundOf 1 = .ok (.iload_n 1, 1) := by decide +kernel
theorem dX5_soundOf_2 : decode cX5_soundOf 2 = .ok (.iload_n 2, 1) := by decide +kernel
theorem dX5_soundOf_3 : decode cX5_soundOf 3 = .ok (.invokevirtual 90, 3) := by decide +kernel
theorem dX5_soundOf_6 : decode cX5_soundOf 6 = .ok (.istore_n 3, 1) := by decide +kernel
theorem dX5_soundOf_7 : decode cX5_soundOf 7 = .ok (.aload_n 0, 1) := by decide +kernel
theorem dX5_soundOf_8 : decode cX5_soundOf 8 = .ok (.iload_n 3, 1) := by decide +kernel
theorem dX5_soundOf_9 : decode cX5_soundOf 9 = .ok (.invokevirtual 58, 3) := by decide +kernel
theorem dX5_soundOf_12 : decode cX5_soundOf 12 = .ok (.ifCond .eq 27, 3) := by decide +kernel
theorem dX5_soundOf_15 : decode cX5_soundOf 15 = .ok (.aload_n 0, 1) := by decide +kernel
theorem dX5_soundOf_16 : decode cX5_soundOf 16 = .ok (.aload_n 0, 1) := by decide +kernel
theorem dX5_soundOf_17 : decode cX5_soundOf 17 = .ok (.getfield 9, 3) := by decide +kernel
theorem dX5_soundOf_20 : decode cX5_soundOf 20 = .ok (.iload_n 3, 1) := by decide +kernel
theorem dX5_soundOf_21 : decode cX5_soundOf 21 = .ok (.iaload, 1) := by decide +kernel
theorem dX5_soundOf_22 : decode cX5_soundOf 22 = .ok (.aload_n 0, 1) := by decide +kernel
theorem dX5_soundOf_23 : decode cX5_soundOf 23 = .ok (.iload_n 3, 1) := by decide +kernel
theorem dX5_soundOf_24 : decode cX5_soundOf 24 = .ok (.invokevirtual 71, 3) := by decide +kernel
theorem dX5_soundOf_27 : decode cX5_soundOf 27 = .ok (.aload_n 0, 1) := by decide +kernel
theorem dX5_soundOf_28 : decode cX5_soundOf 28 = .ok (.iload_n 1, 1) := by decide +kernel
theorem dX5_soundOf_29 : decode cX5_soundOf 29 = .ok (.iconst 2, 1) := by decide +kernel
theorem dX5_soundOf_30 : decode cX5_soundOf 30 = .ok (.invokevirtual 93, 3) := by decide +kernel
theorem dX5_soundOf_33 : decode cX5_soundOf 33 = .ok (.invokevirtual 96, 3) := by decide +kernel
theorem dX5_soundOf_36 : decode cX5_soundOf 36 = .ok (.goto 5, 3) := by decide +kernel
theorem dX5_soundOf_39 : decode cX5_soundOf 39 = .ok (.ldc 57, 2) := by decide +kernel
theorem dX5_soundOf_41 : decode cX5_soundOf 41 = .ok (.ireturn, 1) := by decide +kernel
theorem dX5_longOf_0 : decode cX5_longOf 0 = .ok (.iconst 0, 1) := by decide +kernel
theorem dX5_longOf_1 : decode cX5_longOf 1 = .ok (.istore_n 2, 1) := by decide +kernel
theorem dX5_longOf_2 : decode cX5_longOf 2 = .ok (.iload_n 2, 1) := by decide +kernel
theorem dX5_longOf_3 : decode cX5_longOf 3 = .ok (.bipush 8, 2) := by decide +kernel
theorem dX5_longOf_5 : decode cX5_longOf 5 = .ok (.if_icmp .ge 22, 3) := by decide +kernel
theorem dX5_longOf_8 : decode cX5_longOf 8 = .ok (.aload_n 0, 1) := by decide +kernel
theorem dX5_longOf_9 : decode cX5_longOf 9 = .ok (.iload_n 1, 1) := by decide +kernel
theorem dX5_longOf_10 : decode cX5_longOf 10 = .ok (.iload_n 2, 1) := by decide +kernel
theorem dX5_longOf_11 : decode cX5_longOf 11 = .ok (.invokevirtual 90, 3) := by decide +kernel
theorem dX5_longOf_14 : decode cX5_longOf 14 = .ok (.ldc 57, 2) := by decide +kernel
theorem dX5_longOf_16 : decode cX5_longOf 16 = .ok (.if_icmp .ne 5, 3) := by decide +kernel
theorem dX5_longOf_19 : decode cX5_longOf 19 = .ok (.iload_n 2, 1) := by decide +kernel
theorem dX5_longOf_20 : decode cX5_longOf 20 = .ok (.ireturn, 1) := by decide +kernel
theorem dX5_longOf_21 : decode cX5_longOf 21 = .ok (.iinc 2 1, 3) := by decide +kernel
theorem dX5_longOf_24 : decode cX5_longOf 24 = .ok (.goto (-22), 3) := by decide +kernel
theorem dX5_longOf_27 : decode cX5_longOf 27 = .ok (.bipush 8, 2) := by decide +kernel
theorem dX5_longOf_29 : decode cX5_longOf 29 = .ok (.ireturn, 1) := by decide +kernel
theorem dX5_placeIn_0 : decode cX5_placeIn 0 = .ok (.aload_n 0, 1) := by decide +kernel
theorem dX5_placeIn_1 : decode cX5_placeIn 1 = .ok (.iload_n 1, 1) := by decide +kernel
theorem dX5_placeIn_2 : decode cX5_placeIn 2 = .ok (.invokevirtual 53, 3) := by decide +kernel
theorem dX5_placeIn_5 : decode cX5_placeIn 5 = .ok (.ifCond .eq 19, 3) := by decide +kernel
theorem dX5_placeIn_8 : decode cX5_placeIn 8 = .ok (.aload_n 0, 1) := by decide +kernel
theorem dX5_placeIn_9 : decode cX5_placeIn 9 = .ok (.iload_n 1, 1) := by decide +kernel
theorem dX5_placeIn_10 : decode cX5_placeIn 10 = .ok (.iload_n 2, 1) := by decide +kernel
theorem dX5_placeIn_11 : decode cX5_placeIn 11 = .ok (.aload_n 0, 1) := by decide +kernel
theorem dX5_placeIn_12 : decode cX5_placeIn 12 = .ok (.iload_n 1, 1) := by decide +kernel
theorem dX5_placeIn_13 : decode cX5_placeIn 13 = .ok (.iconst 3, 1) := by decide +kernel
theorem dX5_placeIn_14 : decode cX5_placeIn 14 = .ok (.invokevirtual 93, 3) := by decide +kernel
theorem dX5_placeIn_17 : decode cX5_placeIn 17 = .ok (.isub, 1) := by decide +kernel
theorem dX5_placeIn_18 : decode cX5_placeIn 18 = .ok (.invokevirtual 90, 3) := by decide +kernel
theorem dX5_placeIn_21 : decode cX5_placeIn 21 = .ok (.goto 5, 3) := by decide +kernel
theorem dX5_placeIn_24 : decode cX5_placeIn 24 = .ok (.ldc 57, 2) := by decide +kernel
theorem dX5_placeIn_26 : decode cX5_placeIn 26 = .ok (.ireturn, 1) := by decide +kernel
theorem dX5_isNear_0 : decode cX5_isNear 0 = .ok (.aload_n 0, 1) := by decide +kernel
theorem dX5_isNear_1 : decode cX5_isNear 1 = .ok (.iload_n 1, 1) := by decide +kernel
theorem dX5_isNear_2 : decode cX5_isNear 2 = .ok (.invokevirtual 58, 3) := by decide +kernel
theorem dX5_isNear_5 : decode cX5_isNear 5 = .ok (.ifCond .eq 28, 3) := by decide +kernel
theorem dX5_isNear_8 : decode cX5_isNear 8 = .ok (.aload_n 0, 1) := by decide +kernel
theorem dX5_isNear_9 : decode cX5_isNear 9 = .ok (.iload_n 2, 1) := by decide +kernel
theorem dX5_isNear_10 : decode cX5_isNear 10 = .ok (.invokevirtual 58, 3) := by decide +kernel
theorem dX5_isNear_13 : decode cX5_isNear 13 = .ok (.ifCond .eq 20, 3) := by decide +kernel
theorem dX5_isNear_16 : decode cX5_isNear 16 = .ok (.iload_n 1, 1) := by decide +kernel
theorem dX5_isNear_17 : decode cX5_isNear 17 = .ok (.iload_n 2, 1) := by decide +kernel
theorem dX5_isNear_18 : decode cX5_isNear 18 = .ok (.isub, 1) := by decide +kernel
theorem dX5_isNear_19 : decode cX5_isNear 19 = .ok (.invokestatic 87, 3) := by decide +kernel
theorem dX5_isNear_22 : decode cX5_isNear 22 = .ok (.aload_n 0, 1) := by decide +kernel
theorem dX5_isNear_23 : decode cX5_isNear 23 = .ok (.getfield 40, 3) := by decide +kernel
theorem dX5_isNear_26 : decode cX5_isNear 26 = .ok (.if_icmp .gt 7, 3) := by decide +kernel
theorem dX5_isNear_29 : decode cX5_isNear 29 = .ok (.iconst 1, 1) := by decide +kernel
theorem dX5_isNear_30 : decode cX5_isNear 30 = .ok (.goto 4, 3) := by decide +kernel
theorem dX5_isNear_33 : decode cX5_isNear 33 = .ok (.iconst 0, 1) := by decide +kernel
theorem dX5_isNear_34 : decode cX5_isNear 34 = .ok (.ireturn, 1) := by decide +kernel
theorem dX5_heardAt_0 : decode cX5_heardAt 0 = .ok (.aload_n 0, 1) := by decide +kernel
theorem dX5_heardAt_1 : decode cX5_heardAt 1 = .ok (.iload_n 2, 1) := by decide +kernel
theorem dX5_heardAt_2 : decode cX5_heardAt 2 = .ok (.iload_n 1, 1) := by decide +kernel
theorem dX5_heardAt_3 : decode cX5_heardAt 3 = .ok (.aload_n 0, 1) := by decide +kernel
theorem dX5_heardAt_4 : decode cX5_heardAt 4 = .ok (.getfield 40, 3) := by decide +kernel
theorem dX5_heardAt_7 : decode cX5_heardAt 7 = .ok (.isub, 1) := by decide +kernel
theorem dX5_heardAt_8 : decode cX5_heardAt 8 = .ok (.iload_n 1, 1) := by decide +kernel
theorem dX5_heardAt_9 : decode cX5_heardAt 9 = .ok (.aload_n 0, 1) := by decide +kernel
theorem dX5_heardAt_10 : decode cX5_heardAt 10 = .ok (.getfield 40, 3) := by decide +kernel
theorem dX5_heardAt_13 : decode cX5_heardAt 13 = .ok (.iadd, 1) := by decide +kernel
theorem dX5_heardAt_14 : decode cX5_heardAt 14 = .ok (.invokevirtual 100, 3) := by decide +kernel
theorem dX5_heardAt_17 : decode cX5_heardAt 17 = .ok (.ireturn, 1) := by decide +kernel
theorem dX5_soundsIn_0 : decode cX5_soundsIn 0 = .ok (.iconst 0, 1) := by decide +kernel
theorem dX5_soundsIn_1 : decode cX5_soundsIn 1 = .ok (.istore 4, 2) := by decide +kernel
theorem dX5_soundsIn_3 : decode cX5_soundsIn 3 = .ok (.iconst 0, 1) := by decide +kernel
theorem dX5_soundsIn_4 : decode cX5_soundsIn 4 = .ok (.istore 5, 2) := by decide +kernel
theorem dX5_soundsIn_6 : decode cX5_soundsIn 6 = .ok (.iload 5, 2) := by decide +kernel
theorem dX5_soundsIn_8 : decode cX5_soundsIn 8 = .ok (.aload_n 0, 1) := by decide +kernel
theorem dX5_soundsIn_9 : decode cX5_soundsIn 9 = .ok (.getfield 34, 3) := by decide +kernel
theorem dX5_soundsIn_12 : decode cX5_soundsIn 12 = .ok (.if_icmp .ge 92, 3) := by decide +kernel
theorem dX5_soundsIn_15 : decode cX5_soundsIn 15 = .ok (.aload_n 0, 1) := by decide +kernel
theorem dX5_soundsIn_16 : decode cX5_soundsIn 16 = .ok (.iload 5, 2) := by decide +kernel
theorem dX5_soundsIn_18 : decode cX5_soundsIn 18 = .ok (.iload_n 1, 1) := by decide +kernel
theorem dX5_soundsIn_19 : decode cX5_soundsIn 19 = .ok (.aload_n 0, 1) := by decide +kernel
theorem dX5_soundsIn_20 : decode cX5_soundsIn 20 = .ok (.iload 5, 2) := by decide +kernel
theorem dX5_soundsIn_22 : decode cX5_soundsIn 22 = .ok (.iconst 3, 1) := by decide +kernel
theorem dX5_soundsIn_23 : decode cX5_soundsIn 23 = .ok (.invokevirtual 93, 3) := by decide +kernel
theorem dX5_soundsIn_26 : decode cX5_soundsIn 26 = .ok (.isub, 1) := by decide +kernel
theorem dX5_soundsIn_27 : decode cX5_soundsIn 27 = .ok (.invokevirtual 90, 3) := by decide +kernel
theorem dX5_soundsIn_30 : decode cX5_soundsIn 30 = .ok (.istore 6, 2) := by decide +kernel
theorem dX5_soundsIn_32 : decode cX5_soundsIn 32 = .ok (.aload_n 0, 1) := by decide +kernel
theorem dX5_soundsIn_33 : decode cX5_soundsIn 33 = .ok (.iload 6, 2) := by decide +kernel
theorem dX5_soundsIn_35 : decode cX5_soundsIn 35 = .ok (.invokevirtual 58, 3) := by decide +kernel
theorem dX5_soundsIn_38 : decode cX5_soundsIn 38 = .ok (.ifCond .eq 60, 3) := by decide +kernel
theorem dX5_soundsIn_41 : decode cX5_soundsIn 41 = .ok (.iload 6, 2) := by decide +kernel
theorem dX5_soundsIn_43 : decode cX5_soundsIn 43 = .ok (.iload_n 2, 1) := by decide +kernel
theorem dX5_soundsIn_44 : decode cX5_soundsIn 44 = .ok (.if_icmp .lt 54, 3) := by decide +kernel
theorem dX5_soundsIn_47 : decode cX5_soundsIn 47 = .ok (.iload 6, 2) := by decide +kernel
theorem dX5_soundsIn_49 : decode cX5_soundsIn 49 = .ok (.iload_n 3, 1) := by decide +kernel
theorem dX5_soundsIn_50 : decode cX5_soundsIn 50 = .ok (.if_icmp .le 6, 3) := by decide +kernel
theorem dX5_soundsIn_53 : decode cX5_soundsIn 53 = .ok (.goto 45, 3) := by decide +kernel
theorem dX5_soundsIn_56 : decode cX5_soundsIn 56 = .ok (.aload_n 0, 1) := by decide +kernel
theorem dX5_soundsIn_57 : decode cX5_soundsIn 57 = .ok (.aload_n 0, 1) := by decide +kernel
theorem dX5_soundsIn_58 : decode cX5_soundsIn 58 = .ok (.getfield 9, 3) := by decide +kernel
theorem dX5_soundsIn_61 : decode cX5_soundsIn 61 = .ok (.iload 6, 2) := by decide +kernel
theorem dX5_soundsIn_63 : decode cX5_soundsIn 63 = .ok (.iaload, 1) := by decide +kernel
theorem dX5_soundsIn_64 : decode cX5_soundsIn 64 = .ok (.aload_n 0, 1) := by decide +kernel
theorem dX5_soundsIn_65 : decode cX5_soundsIn 65 = .ok (.iload 6, 2) := by decide +kernel
theorem dX5_soundsIn_67 : decode cX5_soundsIn 67 = .ok (.invokevirtual 71, 3) := by decide +kernel
theorem dX5_soundsIn_70 : decode cX5_soundsIn 70 = .ok (.aload_n 0, 1) := by decide +kernel
theorem dX5_soundsIn_71 : decode cX5_soundsIn 71 = .ok (.iload 5, 2) := by decide +kernel
theorem dX5_soundsIn_73 : decode cX5_soundsIn 73 = .ok (.iconst 2, 1) := by decide +kernel
theorem dX5_soundsIn_74 : decode cX5_soundsIn 74 = .ok (.invokevirtual 93, 3) := by decide +kernel
theorem dX5_soundsIn_77 : decode cX5_soundsIn 77 = .ok (.invokevirtual 96, 3) := by decide +kernel
theorem dX5_soundsIn_80 : decode cX5_soundsIn 80 = .ok (.istore 7, 2) := by decide +kernel
theorem dX5_soundsIn_82 : decode cX5_soundsIn 82 = .ok (.iload 7, 2) := by decide +kernel
theorem dX5_soundsIn_84 : decode cX5_soundsIn 84 = .ok (.bipush 10, 2) := by decide +kernel
theorem dX5_soundsIn_86 : decode cX5_soundsIn 86 = .ok (.if_icmp .eq 12, 3) := by decide +kernel
theorem dX5_soundsIn_89 : decode cX5_soundsIn 89 = .ok (.iload 4, 2) := by decide +kernel
theorem dX5_soundsIn_91 : decode cX5_soundsIn 91 = .ok (.iconst 1, 1) := by decide +kernel
theorem dX5_soundsIn_92 : decode cX5_soundsIn 92 = .ok (.iload 7, 2) := by decide +kernel
theorem dX5_soundsIn_94 : decode cX5_soundsIn 94 = .ok (.ishl, 1) := by decide +kernel
theorem dX5_soundsIn_95 : decode cX5_soundsIn 95 = .ok (.ior, 1) := by decide +kernel
theorem dX5_soundsIn_96 : decode cX5_soundsIn 96 = .ok (.istore 4, 2) := by decide +kernel
theorem dX5_soundsIn_98 : decode cX5_soundsIn 98 = .ok (.iinc 5 1, 3) := by decide +kernel
theorem dX5_soundsIn_101 : decode cX5_soundsIn 101 = .ok (.goto (-95), 3) := by decide +kernel
theorem dX5_soundsIn_104 : decode cX5_soundsIn 104 = .ok (.iload 4, 2) := by decide +kernel
theorem dX5_soundsIn_106 : decode cX5_soundsIn 106 = .ok (.ireturn, 1) := by decide +kernel
theorem dX5_tuneNumber_0 : decode cX5_tuneNumber 0 = .ok (.lconst 1, 1) := by decide +kernel
theorem dX5_tuneNumber_1 : decode cX5_tuneNumber 1 = .ok (.lstore_n 2, 1) := by decide +kernel
theorem dX5_tuneNumber_2 : decode cX5_tuneNumber 2 = .ok (.aload_n 0, 1) := by decide +kernel
theorem dX5_tuneNumber_3 : decode cX5_tuneNumber 3 = .ok (.iload_n 1, 1) := by decide +kernel
theorem dX5_tuneNumber_4 : decode cX5_tuneNumber 4 = .ok (.iconst 2, 1) := by decide +kernel
theorem dX5_tuneNumber_5 : decode cX5_tuneNumber 5 = .ok (.invokevirtual 93, 3) := by decide +kernel
theorem dX5_tuneNumber_8 : decode cX5_tuneNumber 8 = .ok (.istore 4, 2) := by decide +kernel
theorem dX5_tuneNumber_10 : decode cX5_tuneNumber 10 = .ok (.iconst 0, 1) := by decide +kernel
theorem dX5_tuneNumber_11 : decode cX5_tuneNumber 11 = .ok (.istore 5, 2) := by decide +kernel
theorem dX5_tuneNumber_13 : decode cX5_tuneNumber 13 = .ok (.iload 5, 2) := by decide +kernel
theorem dX5_tuneNumber_15 : decode cX5_tuneNumber 15 = .ok (.bipush 8, 2) := by decide +kernel
theorem dX5_tuneNumber_17 : decode cX5_tuneNumber 17 = .ok (.if_icmp .ge 57, 3) := by decide +kernel
theorem dX5_tuneNumber_20 : decode cX5_tuneNumber 20 = .ok (.aload_n 0, 1) := by decide +kernel
theorem dX5_tuneNumber_21 : decode cX5_tuneNumber 21 = .ok (.iload_n 1, 1) := by decide +kernel
theorem dX5_tuneNumber_22 : decode cX5_tuneNumber 22 = .ok (.iload 5, 2) := by decide +kernel
theorem dX5_tuneNumber_24 : decode cX5_tuneNumber 24 = .ok (.invokevirtual 90, 3) := by decide +kernel
theorem dX5_tuneNumber_27 : decode cX5_tuneNumber 27 = .ok (.istore 6, 2) := by decide +kernel
theorem dX5_tuneNumber_29 : decode cX5_tuneNumber 29 = .ok (.aload_n 0, 1) := by decide +kernel
theorem dX5_tuneNumber_30 : decode cX5_tuneNumber 30 = .ok (.iload 6, 2) := by decide +kernel
theorem dX5_tuneNumber_32 : decode cX5_tuneNumber 32 = .ok (.invokevirtual 58, 3) := by decide +kernel
theorem dX5_tuneNumber_35 : decode cX5_tuneNumber 35 = .ok (.ifCond .ne 6, 3) := by decide +kernel
theorem dX5_tuneNumber_38 : decode cX5_tuneNumber 38 = .ok (.goto 36, 3) := by decide +kernel
theorem dX5_tuneNumber_41 : decode cX5_tuneNumber 41 = .ok (.lload_n 2, 1) := by decide +kernel
theorem dX5_tuneNumber_42 : decode cX5_tuneNumber 42 = .ok (.ldc2_w 103, 3) := by decide +kernel
theorem dX5_tuneNumber_45 : decode cX5_tuneNumber 45 = .ok (.lmul, 1) := by decide +kernel
theorem dX5_tuneNumber_46 : decode cX5_tuneNumber 46 = .ok (.aload_n 0, 1) := by decide +kernel
theorem dX5_tuneNumber_47 : decode cX5_tuneNumber 47 = .ok (.aload_n 0, 1) := by decide +kernel
theorem dX5_tuneNumber_48 : decode cX5_tuneNumber 48 = .ok (.getfield 9, 3) := by decide +kernel
theorem dX5_tuneNumber_51 : decode cX5_tuneNumber 51 = .ok (.iload 6, 2) := by decide +kernel
theorem dX5_tuneNumber_53 : decode cX5_tuneNumber 53 = .ok (.iaload, 1) := by decide +kernel
theorem dX5_tuneNumber_54 : decode cX5_tuneNumber 54 = .ok (.aload_n 0, 1) := by decide +kernel
theorem dX5_tuneNumber_55 : decode cX5_tuneNumber 55 = .ok (.iload 6, 2) := by decide +kernel
theorem dX5_tuneNumber_57 : decode cX5_tuneNumber 57 = .ok (.invokevirtual 71, 3) := by decide +kernel
theorem dX5_tuneNumber_60 : decode cX5_tuneNumber 60 = .ok (.iload 4, 2) := by decide +kernel
theorem dX5_tuneNumber_62 : decode cX5_tuneNumber 62 = .ok (.invokevirtual 96, 3) := by decide +kernel
theorem dX5_tuneNumber_65 : decode cX5_tuneNumber 65 = .ok (.i2l, 1) := by decide +kernel
theorem dX5_tuneNumber_66 : decode cX5_tuneNumber 66 = .ok (.ladd, 1) := by decide +kernel
theorem dX5_tuneNumber_67 : decode cX5_tuneNumber 67 = .ok (.lstore_n 2, 1) := by decide +kernel
theorem dX5_tuneNumber_68 : decode cX5_tuneNumber 68 = .ok (.iinc 5 1, 3) := by decide +kernel
theorem dX5_tuneNumber_71 : decode cX5_tuneNumber 71 = .ok (.goto (-58), 3) := by decide +kernel
theorem dX5_tuneNumber_74 : decode cX5_tuneNumber 74 = .ok (.lload_n 2, 1) := by decide +kernel
theorem dX5_tuneNumber_75 : decode cX5_tuneNumber 75 = .ok (.lreturn, 1) := by decide +kernel
theorem dX5_walkersOn_0 : decode cX5_walkersOn 0 = .ok (.iconst 0, 1) := by decide +kernel
theorem dX5_walkersOn_1 : decode cX5_walkersOn 1 = .ok (.istore_n 2, 1) := by decide +kernel
theorem dX5_walkersOn_2 : decode cX5_walkersOn 2 = .ok (.iconst 0, 1) := by decide +kernel
theorem dX5_walkersOn_3 : decode cX5_walkersOn 3 = .ok (.istore_n 3, 1) := by decide +kernel
theorem dX5_walkersOn_4 : decode cX5_walkersOn 4 = .ok (.iload_n 3, 1) := by decide +kernel
theorem dX5_walkersOn_5 : decode cX5_walkersOn 5 = .ok (.aload_n 0, 1) := by decide +kernel
theorem dX5_walkersOn_6 : decode cX5_walkersOn 6 = .ok (.getfield 34, 3) := by decide +kernel
theorem dX5_walkersOn_9 : decode cX5_walkersOn 9 = .ok (.if_icmp .ge 42, 3) := by decide +kernel
theorem dX5_walkersOn_12 : decode cX5_walkersOn 12 = .ok (.iconst 0, 1) := by decide +kernel
theorem dX5_walkersOn_13 : decode cX5_walkersOn 13 = .ok (.istore 4, 2) := by decide +kernel
theorem dX5_walkersOn_15 : decode cX5_walkersOn 15 = .ok (.iload 4, 2) := by decide +kernel
theorem dX5_walkersOn_17 : decode cX5_walkersOn 17 = .ok (.bipush 8, 2) := by decide +kernel
theorem dX5_walkersOn_19 : decode cX5_walkersOn 19 = .ok (.if_icmp .ge 26, 3) := by decide +kernel
theorem dX5_walkersOn_22 : decode cX5_walkersOn 22 = .ok (.aload_n 0, 1) := by decide +kernel
theorem dX5_walkersOn_23 : decode cX5_walkersOn 23 = .ok (.iload_n 3, 1) := by decide +kernel
theorem dX5_walkersOn_24 : decode cX5_walkersOn 24 = .ok (.iload 4, 2) := by decide +kernel
theorem dX5_walkersOn_26 : decode cX5_walkersOn 26 = .ok (.invokevirtual 90, 3) := by decide +kernel
theorem dX5_walkersOn_29 : decode cX5_walkersOn 29 = .ok (.iload_n 1, 1) := by decide +kernel
theorem dX5_walkersOn_30 : decode cX5_walkersOn 30 = .ok (.if_icmp .ne 9, 3) := by decide +kernel
theorem dX5_walkersOn_33 : decode cX5_walkersOn 33 = .ok (.iload_n 2, 1) := by decide +kernel
theorem dX5_walkersOn_34 : decode cX5_walkersOn 34 = .ok (.iconst 1, 1) := by decide +kernel
theorem dX5_walkersOn_35 : decode cX5_walkersOn 35 = .ok (.iload_n 3, 1) := by decide +kernel
theorem dX5_walkersOn_36 : decode cX5_walkersOn 36 = .ok (.ishl, 1) := by decide +kernel
theorem dX5_walkersOn_37 : decode cX5_walkersOn 37 = .ok (.ior, 1) := by decide +kernel
theorem dX5_walkersOn_38 : decode cX5_walkersOn 38 = .ok (.istore_n 2, 1) := by decide +kernel
theorem dX5_walkersOn_39 : decode cX5_walkersOn 39 = .ok (.iinc 4 1, 3) := by decide +kernel
theorem dX5_walkersOn_42 : decode cX5_walkersOn 42 = .ok (.goto (-27), 3) := by decide +kernel
theorem dX5_walkersOn_45 : decode cX5_walkersOn 45 = .ok (.iinc 3 1, 3) := by decide +kernel
theorem dX5_walkersOn_48 : decode cX5_walkersOn 48 = .ok (.goto (-44), 3) := by decide +kernel
theorem dX5_walkersOn_51 : decode cX5_walkersOn 51 = .ok (.iload_n 2, 1) := by decide +kernel
theorem dX5_walkersOn_52 : decode cX5_walkersOn 52 = .ok (.ireturn, 1) := by decide +kernel
theorem dX5_passDay_0 : decode cX5_passDay 0 = .ok (.iconst 0, 1) := by decide +kernel
theorem dX5_passDay_1 : decode cX5_passDay 1 = .ok (.istore_n 1, 1) := by decide +kernel
theorem dX5_passDay_2 : decode cX5_passDay 2 = .ok (.iload_n 1, 1) := by decide +kernel
theorem dX5_passDay_3 : decode cX5_passDay 3 = .ok (.aload_n 0, 1) := by decide +kernel
theorem dX5_passDay_4 : decode cX5_passDay 4 = .ok (.getfield 34, 3) := by decide +kernel
theorem dX5_passDay_7 : decode cX5_passDay 7 = .ok (.if_icmp .ge 55, 3) := by decide +kernel
theorem dX5_passDay_10 : decode cX5_passDay 10 = .ok (.aload_n 0, 1) := by decide +kernel
theorem dX5_passDay_11 : decode cX5_passDay 11 = .ok (.iload_n 1, 1) := by decide +kernel
theorem dX5_passDay_12 : decode cX5_passDay 12 = .ok (.invokevirtual 105, 3) := by decide +kernel
theorem dX5_passDay_15 : decode cX5_passDay 15 = .ok (.istore_n 2, 1) := by decide +kernel
theorem dX5_passDay_16 : decode cX5_passDay 16 = .ok (.iconst 0, 1) := by decide +kernel
theorem dX5_passDay_17 : decode cX5_passDay 17 = .ok (.istore_n 3, 1) := by decide +kernel
theorem dX5_passDay_18 : decode cX5_passDay 18 = .ok (.iload_n 3, 1) := by decide +kernel
theorem dX5_passDay_19 : decode cX5_passDay 19 = .ok (.iload_n 2, 1) := by decide +kernel
theorem dX5_passDay_20 : decode cX5_passDay 20 = .ok (.if_icmp .ge 36, 3) := by decide +kernel
theorem dX5_passDay_23 : decode cX5_passDay 23 = .ok (.aload_n 0, 1) := by decide +kernel
theorem dX5_passDay_24 : decode cX5_passDay 24 = .ok (.iload_n 1, 1) := by decide +kernel
theorem dX5_passDay_25 : decode cX5_passDay 25 = .ok (.iload_n 3, 1) := by decide +kernel
theorem dX5_passDay_26 : decode cX5_passDay 26 = .ok (.invokevirtual 90, 3) := by decide +kernel
theorem dX5_passDay_29 : decode cX5_passDay 29 = .ok (.istore 4, 2) := by decide +kernel
theorem dX5_passDay_31 : decode cX5_passDay 31 = .ok (.aload_n 0, 1) := by decide +kernel
theorem dX5_passDay_32 : decode cX5_passDay 32 = .ok (.iload 4, 2) := by decide +kernel
theorem dX5_passDay_34 : decode cX5_passDay 34 = .ok (.bipush 99, 2) := by decide +kernel
theorem dX5_passDay_36 : decode cX5_passDay 36 = .ok (.aload_n 0, 1) := by decide +kernel
theorem dX5_passDay_37 : decode cX5_passDay 37 = .ok (.iload 4, 2) := by decide +kernel
theorem dX5_passDay_39 : decode cX5_passDay 39 = .ok (.invokevirtual 68, 3) := by decide +kernel
theorem dX5_passDay_42 : decode cX5_passDay 42 = .ok (.iconst 1, 1) := by decide +kernel
theorem dX5_passDay_43 : decode cX5_passDay 43 = .ok (.iadd, 1) := by decide +kernel
theorem dX5_passDay_44 : decode cX5_passDay 44 = .ok (.invokestatic 84, 3) := by decide +kernel
theorem dX5_passDay_47 : decode cX5_passDay 47 = .ok (.invokevirtual 65, 3) := by decide +kernel
theorem dX5_passDay_50 : decode cX5_passDay 50 = .ok (.iinc 3 1, 3) := by decide +kernel
theorem dX5_passDay_53 : decode cX5_passDay 53 = .ok (.goto (-35), 3) := by decide +kernel
theorem dX5_passDay_56 : decode cX5_passDay 56 = .ok (.iinc 1 1, 3) := by decide +kernel
theorem dX5_passDay_59 : decode cX5_passDay 59 = .ok (.goto (-57), 3) := by decide +kernel
theorem dX5_passDay_62 : decode cX5_passDay 62 = .ok (.iconst 0, 1) := by decide +kernel
theorem dX5_passDay_63 : decode cX5_passDay 63 = .ok (.istore_n 1, 1) := by decide +kernel
theorem dX5_passDay_64 : decode cX5_passDay 64 = .ok (.iload_n 1, 1) := by decide +kernel
theorem dX5_passDay_65 : decode cX5_passDay 65 = .ok (.aload_n 0, 1) := by decide +kernel
theorem dX5_passDay_66 : decode cX5_passDay 66 = .ok (.getfield 34, 3) := by decide +kernel
theorem dX5_passDay_69 : decode cX5_passDay 69 = .ok (.if_icmp .ge 35, 3) := by decide +kernel
theorem dX5_passDay_72 : decode cX5_passDay 72 = .ok (.aload_n 0, 1) := by decide +kernel
theorem dX5_passDay_73 : decode cX5_passDay 73 = .ok (.iload_n 1, 1) := by decide +kernel
theorem dX5_passDay_74 : decode cX5_passDay 74 = .ok (.iconst 0, 1) := by decide +kernel
theorem dX5_passDay_75 : decode cX5_passDay 75 = .ok (.invokevirtual 93, 3) := by decide +kernel
theorem dX5_passDay_78 : decode cX5_passDay 78 = .ok (.istore_n 2, 1) := by decide +kernel
theorem dX5_passDay_79 : decode cX5_passDay 79 = .ok (.aload_n 0, 1) := by decide +kernel
theorem dX5_passDay_80 : decode cX5_passDay 80 = .ok (.iload_n 1, 1) := by decide +kernel
theorem dX5_passDay_81 : decode cX5_passDay 81 = .ok (.iconst 0, 1) := by decide +kernel
theorem dX5_passDay_82 : decode cX5_passDay 82 = .ok (.aload_n 0, 1) := by decide +kernel
theorem dX5_passDay_83 : decode cX5_passDay 83 = .ok (.iload_n 1, 1) := by decide +kernel
theorem dX5_passDay_84 : decode cX5_passDay 84 = .ok (.iconst 1, 1) := by decide +kernel
theorem dX5_passDay_85 : decode cX5_passDay 85 = .ok (.invokevirtual 93, 3) := by decide +kernel
theorem dX5_passDay_88 : decode cX5_passDay 88 = .ok (.invokevirtual 108, 3) := by decide +kernel
theorem dX5_passDay_91 : decode cX5_passDay 91 = .ok (.aload_n 0, 1) := by decide +kernel
theorem dX5_passDay_92 : decode cX5_passDay 92 = .ok (.iload_n 1, 1) := by decide +kernel
theorem dX5_passDay_93 : decode cX5_passDay 93 = .ok (.iconst 1, 1) := by decide +kernel
theorem dX5_passDay_94 : decode cX5_passDay 94 = .ok (.iload_n 2, 1) := by decide +kernel
theorem dX5_passDay_95 : decode cX5_passDay 95 = .ok (.invokevirtual 108, 3) := by decide +kernel
theorem dX5_passDay_98 : decode cX5_passDay 98 = .ok (.iinc 1 1, 3) := by decide +kernel
theorem dX5_passDay_101 : decode cX5_passDay 101 = .ok (.goto (-37), 3) := by decide +kernel
theorem dX5_passDay_104 : decode cX5_passDay 104 = .ok (.aload_n 0, 1) := by decide +kernel
theorem dX5_passDay_105 : decode cX5_passDay 105 = .ok (.dup, 1) := by decide +kernel
theorem dX5_passDay_106 : decode cX5_passDay 106 = .ok (.getfield 43, 3) := by decide +kernel
theorem dX5_passDay_109 : decode cX5_passDay 109 = .ok (.iconst 1, 1) := by decide +kernel
theorem dX5_passDay_110 : decode cX5_passDay 110 = .ok (.iadd, 1) := by decide +kernel
theorem dX5_passDay_111 : decode cX5_passDay 111 = .ok (.putfield 43, 3) := by decide +kernel
theorem dX5_passDay_114 : decode cX5_passDay 114 = .ok (.return_, 1) := by decide +kernel
theorem dX6_init_0 : decode cX6_init 0 = .ok (.aload_n 0, 1) := by decide +kernel
theorem dX6_init_1 : decode cX6_init 1 = .ok (.invokespecial 1, 3) := by decide +kernel
theorem dX6_init_4 : decode cX6_init 4 = .ok (.aload_n 0, 1) := by decide +kernel
theorem dX6_init_5 : decode cX6_init 5 = .ok (.new 7, 3) := by decide +kernel
theorem dX6_init_8 : decode cX6_init 8 = .ok (.dup, 1) := by decide +kernel
theorem dX6_init_9 : decode cX6_init 9 = .ok (.invokespecial 9, 3) := by decide +kernel
theorem dX6_init_12 : decode cX6_init 12 = .ok (.putfield 10, 3) := by decide +kernel
theorem dX6_init_15 : decode cX6_init 15 = .ok (.aload_n 0, 1) := by decide +kernel
theorem dX6_init_16 : decode cX6_init 16 = .ok (.new 16, 3) := by decide +kernel
theorem dX6_init_19 : decode cX6_init 19 = .ok (.dup, 1) := by decide +kernel
theorem dX6_init_20 : decode cX6_init 20 = .ok (.invokespecial 18, 3) := by decide +kernel
theorem dX6_init_23 : decode cX6_init 23 = .ok (.putfield 19, 3) := by decide +kernel
theorem dX6_init_26 : decode cX6_init 26 = .ok (.aload_n 0, 1) := by decide +kernel
theorem dX6_init_27 : decode cX6_init 27 = .ok (.new 23, 3) := by decide +kernel
theorem dX6_init_30 : decode cX6_init 30 = .ok (.dup, 1) := by decide +kernel
theorem dX6_init_31 : decode cX6_init 31 = .ok (.invokespecial 25, 3) := by decide +kernel
theorem dX6_init_34 : decode cX6_init 34 = .ok (.putfield 26, 3) := by decide +kernel
theorem dX6_init_37 : decode cX6_init 37 = .ok (.aload_n 0, 1) := by decide +kernel
theorem dX6_init_38 : decode cX6_init 38 = .ok (.new 30, 3) := by decide +kernel
theorem dX6_init_41 : decode cX6_init 41 = .ok (.dup, 1) := by decide +kernel
theorem dX6_init_42 : decode cX6_init 42 = .ok (.invokespecial 32, 3) := by decide +kernel
theorem dX6_init_45 : decode cX6_init 45 = .ok (.putfield 33, 3) := by decide +kernel
theorem dX6_init_48 : decode cX6_init 48 = .ok (.aload_n 0, 1) := by decide +kernel
theorem dX6_init_49 : decode cX6_init 49 = .ok (.iconst 2, 1) := by decide +kernel
theorem dX6_init_50 : decode cX6_init 50 = .ok (.anewarray 23, 3) := by decide +kernel
theorem dX6_init_53 : decode cX6_init 53 = .ok (.putfield 37, 3) := by decide +kernel
theorem dX6_init_56 : decode cX6_init 56 = .ok (.iconst 0, 1) := by decide +kernel
theorem dX6_init_57 : decode cX6_init 57 = .ok (.istore_n 1, 1) := by decide +kernel
theorem dX6_init_58 : decode cX6_init 58 = .ok (.iload_n 1, 1) := by decide +kernel
theorem dX6_init_59 : decode cX6_init 59 = .ok (.iconst 2, 1) := by decide +kernel
theorem dX6_init_60 : decode cX6_init 60 = .ok (.if_icmp .ge 22, 3) := by decide +kernel
theorem dX6_init_63 : decode cX6_init 63 = .ok (.aload_n 0, 1) := by decide +kernel
theorem dX6_init_64 : decode cX6_init 64 = .ok (.getfield 37, 3) := by decide +kernel
theorem dX6_init_67 : decode cX6_init 67 = .ok (.iload_n 1, 1) := by decide +kernel
theorem dX6_init_68 : decode cX6_init 68 = .ok (.new 23, 3) := by decide +kernel
theorem dX6_init_71 : decode cX6_init 71 = .ok (.dup, 1) := by decide +kernel
theorem dX6_init_72 : decode cX6_init 72 = .ok (.invokespecial 25, 3) := by decide +kernel
theorem dX6_init_75 : decode cX6_init 75 = .ok (.aastore, 1) := by decide +kernel
theorem dX6_init_76 : decode cX6_init 76 = .ok (.iinc 1 1, 3) := by decide +kernel
theorem dX6_init_79 : decode cX6_init 79 = .ok (.goto (-21), 3) := by decide +kernel
theorem dX6_init_82 : decode cX6_init 82 = .ok (.aload_n 0, 1) := by decide +kernel
theorem dX6_init_83 : decode cX6_init 83 = .ok (.new 41, 3) := by decide +kernel
theorem dX6_init_86 : decode cX6_init 86 = .ok (.dup, 1) := by decide +kernel
theorem dX6_init_87 : decode cX6_init 87 = .ok (.invokespecial 43, 3) := by decide +kernel
theorem dX6_init_90 : decode cX6_init 90 = .ok (.putfield 44, 3) := by decide +kernel
theorem dX6_init_93 : decode cX6_init 93 = .ok (.aload_n 0, 1) := by decide +kernel
theorem dX6_init_94 : decode cX6_init 94 = .ok (.new 48, 3) := by decide +kernel
theorem dX6_init_97 : decode cX6_init 97 = .ok (.dup, 1) := by decide +kernel
theorem dX6_init_98 : decode cX6_init 98 = .ok (.invokespecial 50, 3) := by decide +kernel
theorem dX6_init_101 : decode cX6_init 101 = .ok (.putfield 51, 3) := by decide +kernel
theorem dX6_init_104 : decode cX6_init 104 = .ok (.aload_n 0, 1) := by decide +kernel
theorem dX6_init_105 : decode cX6_init 105 = .ok (.iconst 0, 1) := by decide +kernel
theorem dX6_init_106 : decode cX6_init 106 = .ok (.putfield 55, 3) := by decide +kernel
theorem dX6_init_109 : decode cX6_init 109 = .ok (.return_, 1) := by decide +kernel
theorem dX6_row_0 : decode cX6_row 0 = .ok (.aload_n 0, 1) := by decide +kernel
theorem dX6_row_1 : decode cX6_row 1 = .ok (.getfield 10, 3) := by decide +kernel
theorem dX6_row_4 : decode cX6_row 4 = .ok (.iload_n 1, 1) := by decide +kernel
theorem dX6_row_5 : decode cX6_row 5 = .ok (.invokevirtual 59, 3) := by decide +kernel
theorem dX6_row_8 : decode cX6_row 8 = .ok (.ifCond .eq 20, 3) := by decide +kernel
theorem dX6_row_11 : decode cX6_row 11 = .ok (.aload_n 0, 1) := by decide +kernel
theorem dX6_row_12 : decode cX6_row 12 = .ok (.getfield 10, 3) := by decide +kernel
theorem dX6_row_15 : decode cX6_row 15 = .ok (.iload_n 2, 1) := by decide +kernel
theorem dX6_row_16 : decode cX6_row 16 = .ok (.invokevirtual 63, 3) := by decide +kernel
theorem dX6_row_19 : decode cX6_row 19 = .ok (.ifCond .eq 9, 3) := by decide +kernel
theorem dX6_row_22 : decode cX6_row 22 = .ok (.iload_n 3, 1) := by decide +kernel
theorem dX6_row_23 : decode cX6_row 23 = .ok (.bipush 40, 2) := by decide +kernel
theorem dX6_row_25 : decode cX6_row 25 = .ok (.if_icmp .le 6, 3) := by decide +kernel
theorem dX6_row_28 : decode cX6_row 28 = .ok (.ldc 66, 2) := by decide +kernel
theorem dX6_row_30 : decode cX6_row 30 = .ok (.ireturn, 1) := by decide +kernel
theorem dX6_row_31 : decode cX6_row 31 = .ok (.aload_n 0, 1) := by decide +kernel
theorem dX6_row_32 : decode cX6_row 32 = .ok (.iload_n 3, 1) := by decide +kernel
theorem dX6_row_33 : decode cX6_row 33 = .ok (.ifCond .ge 7, 3) := by decide +kernel
theorem dX6_row_36 : decode cX6_row 36 = .ok (.iconst 4, 1) := by decide +kernel
theorem dX6_row_37 : decode cX6_row 37 = .ok (.goto 4, 3) := by decide +kernel
theorem dX6_row_40 : decode cX6_row 40 = .ok (.iconst 0, 1) := by decide +kernel
theorem dX6_row_41 : decode cX6_row 41 = .ok (.putfield 55, 3) := by decide +kernel
theorem dX6_row_44 : decode cX6_row 44 = .ok (.aload_n 0, 1) := by decide +kernel
theorem dX6_row_45 : decode cX6_row 45 = .ok (.getfield 55, 3) := by decide +kernel
theorem dX6_row_48 : decode cX6_row 48 = .ok (.ifCond .eq 13, 3) := by decide +kernel
theorem dX6_row_51 : decode cX6_row 51 = .ok (.ldc 67, 2) := by decide +kernel
theorem dX6_row_53 : decode cX6_row 53 = .ok (.aload_n 0, 1) := by decide +kernel
theorem dX6_row_54 : decode cX6_row 54 = .ok (.getfield 55, 3) := by decide +kernel
theorem dX6_row_57 : decode cX6_row 57 = .ok (.isub, 1) := by decide +kernel
theorem dX6_row_58 : decode cX6_row 58 = .ok (.goto 13, 3) := by decide +kernel
theorem dX6_row_61 : decode cX6_row 61 = .ok (.aload_n 0, 1) := by decide +kernel
theorem dX6_row_62 : decode cX6_row 62 = .ok (.getfield 10, 3) := by decide +kernel
theorem dX6_row_65 : decode cX6_row 65 = .ok (.iload_n 1, 1) := by decide +kernel
theorem dX6_row_66 : decode cX6_row 66 = .ok (.iload_n 2, 1) := by decide +kernel
theorem dX6_row_67 : decode cX6_row 67 = .ok (.iload_n 3, 1) := by decide +kernel
theorem dX6_row_68 : decode cX6_row 68 = .ok (.invokevirtual 68, 3) := by decide +kernel
theorem dX6_row_71 : decode cX6_row 71 = .ok (.ireturn, 1) := by decide +kernel
theorem dX6_set_0 : decode cX6_set 0 = .ok (.aload_n 0, 1) := by decide +kernel
theorem dX6_set_1 : decode cX6_set 1 = .ok (.getfield 10, 3) := by decide +kernel
theorem dX6_set_4 : decode cX6_set 4 = .ok (.iload_n 1, 1) := by decide +kernel
theorem dX6_set_5 : decode cX6_set 5 = .ok (.invokevirtual 59, 3) := by decide +kernel
theorem dX6_set_8 : decode cX6_set 8 = .ok (.ifCond .ne 6, 3) := by decide +kernel
theorem dX6_set_11 : decode cX6_set 11 = .ok (.ldc 66, 2) := by decide +kernel
theorem dX6_set_13 : decode cX6_set 13 = .ok (.ireturn, 1) := by decide +kernel
theorem dX6_set_14 : decode cX6_set 14 = .ok (.aload_n 0, 1) := by decide +kernel
theorem dX6_set_15 : decode cX6_set 15 = .ok (.aload_n 0, 1) := by decide +kernel
theorem dX6_set_16 : decode cX6_set 16 = .ok (.getfield 10, 3) := by decide +kernel
theorem dX6_set_19 : decode cX6_set 19 = .ok (.iload_n 1, 1) := by decide +kernel
theorem dX6_set_20 : decode cX6_set 20 = .ok (.iload_n 2, 1) := by decide +kernel
theorem dX6_set_21 : decode cX6_set 21 = .ok (.iconst 1, 1) := by decide +kernel
theorem dX6_set_22 : decode cX6_set 22 = .ok (.invokevirtual 72, 3) := by decide +kernel
theorem dX6_set_25 : decode cX6_set 25 = .ok (.putfield 55, 3) := by decide +kernel
theorem dX6_set_28 : decode cX6_set 28 = .ok (.aload_n 0, 1) := by decide +kernel
theorem dX6_set_29 : decode cX6_set 29 = .ok (.getfield 55, 3) := by decide +kernel
theorem dX6_set_32 : decode cX6_set 32 = .ok (.ifCond .eq 13, 3) := by decide +kernel
theorem dX6_set_35 : decode cX6_set 35 = .ok (.ldc 67, 2) := by decide +kernel
theorem dX6_set_37 : decode cX6_set 37 = .ok (.aload_n 0, 1) := by decide +kernel
theorem dX6_set_38 : decode cX6_set 38 = .ok (.getfield 55, 3) := by decide +kernel
theorem dX6_set_41 : decode cX6_set 41 = .ok (.isub, 1) := by decide +kernel
theorem dX6_set_42 : decode cX6_set 42 = .ok (.goto 13, 3) := by decide +kernel
theorem dX6_set_45 : decode cX6_set 45 = .ok (.aload_n 0, 1) := by decide +kernel
theorem dX6_set_46 : decode cX6_set 46 = .ok (.getfield 10, 3) := by decide +kernel
theorem dX6_set_49 : decode cX6_set 49 = .ok (.iload_n 1, 1) := by decide +kernel
theorem dX6_set_50 : decode cX6_set 50 = .ok (.iload_n 2, 1) := by decide +kernel
theorem dX6_set_51 : decode cX6_set 51 = .ok (.iload_n 3, 1) := by decide +kernel
theorem dX6_set_52 : decode cX6_set 52 = .ok (.invokevirtual 75, 3) := by decide +kernel
theorem dX6_set_55 : decode cX6_set 55 = .ok (.ireturn, 1) := by decide +kernel
theorem dX6_copy_0 : decode cX6_copy 0 = .ok (.aload_n 0, 1) := by decide +kernel
theorem dX6_copy_1 : decode cX6_copy 1 = .ok (.getfield 10, 3) := by decide +kernel
theorem dX6_copy_4 : decode cX6_copy 4 = .ok (.iload_n 1, 1) := by decide +kernel
theorem dX6_copy_5 : decode cX6_copy 5 = .ok (.invokevirtual 59, 3) := by decide +kernel
theorem dX6_copy_8 : decode cX6_copy 8 = .ok (.ifCond .eq 14, 3) := by decide +kernel
theorem dX6_copy_11 : decode cX6_copy 11 = .ok (.aload_n 0, 1) := by decide +kernel
theorem dX6_copy_12 : decode cX6_copy 12 = .ok (.getfield 10, 3) := by decide +kernel
theorem dX6_copy_15 : decode cX6_copy 15 = .ok (.iload_n 3, 1) := by decide +kernel
theorem dX6_copy_16 : decode cX6_copy 16 = .ok (.invokevirtual 59, 3) := by decide +kernel
theorem dX6_copy_19 : decode cX6_copy 19 = .ok (.ifCond .ne 6, 3) := by decide +kernel
theorem dX6_copy_22 : decode cX6_copy 22 = .ok (.ldc 66, 2) := by decide +kernel
theorem dX6_copy_24 : decode cX6_copy 24 = .ok (.ireturn, 1) := by decide +kernel
theorem dX6_copy_25 : decode cX6_copy 25 = .ok (.aload_n 0, 1) := by decide +kernel
theorem dX6_copy_26 : decode cX6_copy 26 = .ok (.aload_n 0, 1) := by decide +kernel
theorem dX6_copy_27 : decode cX6_copy 27 = .ok (.getfield 10, 3) := by decide +kernel
theorem dX6_copy_30 : decode cX6_copy 30 = .ok (.iload_n 1, 1) := by decide +kernel
theorem dX6_copy_31 : decode cX6_copy 31 = .ok (.iload_n 2, 1) := by decide +kernel
theorem dX6_copy_32 : decode cX6_copy 32 = .ok (.iload_n 3, 1) := by decide +kernel
theorem dX6_copy_33 : decode cX6_copy 33 = .ok (.iload 4, 2) := by decide +kernel
theorem dX6_copy_35 : decode cX6_copy 35 = .ok (.iload 5, 2) := by decide +kernel
theorem dX6_copy_37 : decode cX6_copy 37 = .ok (.invokevirtual 78, 3) := by decide +kernel
theorem dX6_copy_40 : decode cX6_copy 40 = .ok (.putfield 55, 3) := by decide +kernel
theorem dX6_copy_43 : decode cX6_copy 43 = .ok (.aload_n 0, 1) := by decide +kernel
theorem dX6_copy_44 : decode cX6_copy 44 = .ok (.getfield 55, 3) := by decide +kernel
theorem dX6_copy_47 : decode cX6_copy 47 = .ok (.ifCond .eq 13, 3) := by decide +kernel
theorem dX6_copy_50 : decode cX6_copy 50 = .ok (.ldc 67, 2) := by decide +kernel
theorem dX6_copy_52 : decode cX6_copy 52 = .ok (.aload_n 0, 1) := by decide +kernel
theorem dX6_copy_53 : decode cX6_copy 53 = .ok (.getfield 55, 3) := by decide +kernel
theorem dX6_copy_56 : decode cX6_copy 56 = .ok (.isub, 1) := by decide +kernel
theorem dX6_copy_57 : decode cX6_copy 57 = .ok (.goto 17, 3) := by decide +kernel
theorem dX6_copy_60 : decode cX6_copy 60 = .ok (.aload_n 0, 1) := by decide +kernel
theorem dX6_copy_61 : decode cX6_copy 61 = .ok (.getfield 10, 3) := by decide +kernel
theorem dX6_copy_64 : decode cX6_copy 64 = .ok (.iload_n 1, 1) := by decide +kernel
theorem dX6_copy_65 : decode cX6_copy 65 = .ok (.iload_n 2, 1) := by decide +kernel
theorem dX6_copy_66 : decode cX6_copy 66 = .ok (.iload_n 3, 1) := by decide +kernel
theorem dX6_copy_67 : decode cX6_copy 67 = .ok (.iload 4, 2) := by decide +kernel
theorem dX6_copy_69 : decode cX6_copy 69 = .ok (.iload 5, 2) := by decide +kernel
theorem dX6_copy_71 : decode cX6_copy 71 = .ok (.invokevirtual 82, 3) := by decide +kernel
theorem dX6_copy_74 : decode cX6_copy 74 = .ok (.ireturn, 1) := by decide +kernel
theorem dX6_drop_0 : decode cX6_drop 0 = .ok (.aload_n 0, 1) := by decide +kernel
theorem dX6_drop_1 : decode cX6_drop 1 = .ok (.getfield 10, 3) := by decide +kernel
theorem dX6_drop_4 : decode cX6_drop 4 = .ok (.iload_n 1, 1) := by decide +kernel
theorem dX6_drop_5 : decode cX6_drop 5 = .ok (.invokevirtual 59, 3) := by decide +kernel
theorem dX6_drop_8 : decode cX6_drop 8 = .ok (.ifCond .ne 6, 3) := by decide +kernel
theorem dX6_drop_11 : decode cX6_drop 11 = .ok (.ldc 66, 2) := by decide +kernel
theorem dX6_drop_13 : decode cX6_drop 13 = .ok (.ireturn, 1) := by decide +kernel
theorem dX6_drop_14 : decode cX6_drop 14 = .ok (.aload_n 0, 1) := by decide +kernel
theorem dX6_drop_15 : decode cX6_drop 15 = .ok (.aload_n 0, 1) := by decide +kernel
theorem dX6_drop_16 : decode cX6_drop 16 = .ok (.getfield 10, 3) := by decide +kernel
theorem dX6_drop_19 : decode cX6_drop 19 = .ok (.iload_n 1, 1) := by decide +kernel
theorem dX6_drop_20 : decode cX6_drop 20 = .ok (.invokevirtual 85, 3) := by decide +kernel
theorem dX6_drop_23 : decode cX6_drop 23 = .ok (.ifCond .eq 7, 3) := by decide +kernel
theorem dX6_drop_26 : decode cX6_drop 26 = .ok (.iconst 1, 1) := by decide +kernel
theorem dX6_drop_27 : decode cX6_drop 27 = .ok (.goto 4, 3) := by decide +kernel
theorem dX6_drop_30 : decode cX6_drop 30 = .ok (.iconst 0, 1) := by decide +kernel
theorem dX6_drop_31 : decode cX6_drop 31 = .ok (.putfield 55, 3) := by decide +kernel
theorem dX6_drop_34 : decode cX6_drop 34 = .ok (.aload_n 0, 1) := by decide +kernel
theorem dX6_drop_35 : decode cX6_drop 35 = .ok (.getfield 55, 3) := by decide +kernel
theorem dX6_drop_38 : decode cX6_drop 38 = .ok (.ifCond .eq 13, 3) := by decide +kernel
theorem dX6_drop_41 : decode cX6_drop 41 = .ok (.ldc 67, 2) := by decide +kernel
theorem dX6_drop_43 : decode cX6_drop 43 = .ok (.aload_n 0, 1) := by decide +kernel
theorem dX6_drop_44 : decode cX6_drop 44 = .ok (.getfield 55, 3) := by decide +kernel
theorem dX6_drop_47 : decode cX6_drop 47 = .ok (.isub, 1) := by decide +kernel
theorem dX6_drop_48 : decode cX6_drop 48 = .ok (.goto 11, 3) := by decide +kernel
theorem dX6_drop_51 : decode cX6_drop 51 = .ok (.aload_n 0, 1) := by decide +kernel
theorem dX6_drop_52 : decode cX6_drop 52 = .ok (.getfield 10, 3) := by decide +kernel
theorem dX6_drop_55 : decode cX6_drop 55 = .ok (.iload_n 1, 1) := by decide +kernel
theorem dX6_drop_56 : decode cX6_drop 56 = .ok (.invokevirtual 88, 3) := by decide +kernel
theorem dX6_drop_59 : decode cX6_drop 59 = .ok (.ireturn, 1) := by decide +kernel
theorem dX6_feed_0 : decode cX6_feed 0 = .ok (.iload_n 1, 1) := by decide +kernel
theorem dX6_feed_1 : decode cX6_feed 1 = .ok (.iconst 0, 1) := by decide +kernel
theorem dX6_feed_2 : decode cX6_feed 2 = .ok (.sipush 255, 3) := by decide +kernel
theorem dX6_feed_5 : decode cX6_feed 5 = .ok (.invokestatic 92, 3) := by decide +kernel
theorem dX6_feed_8 : decode cX6_feed 8 = .ok (.ifCond .ne 6, 3) := by decide +kernel
theorem dX6_feed_11 : decode cX6_feed 11 = .ok (.ldc 66, 2) := by decide +kernel
theorem dX6_feed_13 : decode cX6_feed 13 = .ok (.ireturn, 1) := by decide +kernel
theorem dX6_feed_14 : decode cX6_feed 14 = .ok (.aload_n 0, 1) := by decide +kernel
theorem dX6_feed_15 : decode cX6_feed 15 = .ok (.getfield 19, 3) := by decide +kernel
theorem dX6_feed_18 : decode cX6_feed 18 = .ok (.iload_n 1, 1) := by decide +kernel
theorem dX6_feed_19 : decode cX6_feed 19 = .ok (.invokevirtual 96, 3) := by decide +kernel
theorem dX6_feed_22 : decode cX6_feed 22 = .ok (.ireturn, 1) := by decide +kernel
theorem dX6_town_0 : decode cX6_town 0 = .ok (.aload_n 0, 1) := by decide +kernel
theorem dX6_town_1 : decode cX6_town 1 = .ok (.getfield 19, 3) := by decide +kernel
theorem dX6_town_4 : decode cX6_town 4 = .ok (.invokevirtual 99, 3) := by decide +kernel
theorem dX6_town_7 : decode cX6_town 7 = .ok (.astore_n 1, 1) := by decide +kernel
theorem dX6_town_8 : decode cX6_town 8 = .ok (.aload_n 1, 1) := by decide +kernel
theorem dX6_town_9 : decode cX6_town 9 = .ok (.ifnonnull 14, 3) := by decide +kernel
theorem dX6_town_12 : decode cX6_town 12 = .ok (.ldc 103, 2) := by decide +kernel
theorem dX6_town_14 : decode cX6_town 14 = .ok (.aload_n 0, 1) := by decide +kernel
theorem dX6_town_15 : decode cX6_town 15 = .ok (.getfield 19, 3) := by decide +kernel
theorem dX6_town_18 : decode cX6_town 18 = .ok (.invokevirtual 104, 3) := by decide +kernel
theorem dX6_town_21 : decode cX6_town 21 = .ok (.isub, 1) := by decide +kernel
theorem dX6_town_22 : decode cX6_town 22 = .ok (.ireturn, 1) := by decide +kernel
theorem dX6_town_23 : decode cX6_town 23 = .ok (.aload_n 0, 1) := by decide +kernel
theorem dX6_town_24 : decode cX6_town 24 = .ok (.getfield 26, 3) := by decide +kernel
theorem dX6_town_27 : decode cX6_town 27 = .ok (.aload_n 1, 1) := by decide +kernel
theorem dX6_town_28 : decode cX6_town 28 = .ok (.invokevirtual 108, 3) := by decide +kernel
theorem dX6_town_31 : decode cX6_town 31 = .ok (.aload_n 0, 1) := by decide +kernel
theorem dX6_town_32 : decode cX6_town 32 = .ok (.getfield 33, 3) := by decide +kernel
theorem dX6_town_35 : decode cX6_town 35 = .ok (.invokevirtual 112, 3) := by decide +kernel
theorem dX6_town_38 : decode cX6_town 38 = .ok (.aload_n 0, 1) := by decide +kernel
theorem dX6_town_39 : decode cX6_town 39 = .ok (.getfield 26, 3) := by decide +kernel
theorem dX6_town_42 : decode cX6_town 42 = .ok (.invokevirtual 115, 3) := by decide +kernel
theorem dX6_town_45 : decode cX6_town 45 = .ok (.ireturn, 1) := by decide +kernel
theorem dX6_fault_0 : decode cX6_fault 0 = .ok (.aload_n 0, 1) := by decide +kernel
theorem dX6_fault_1 : decode cX6_fault 1 = .ok (.getfield 19, 3) := by decide +kernel
theorem dX6_fault_4 : decode cX6_fault 4 = .ok (.invokevirtual 118, 3) := by decide +kernel
theorem dX6_fault_7 : decode cX6_fault 7 = .ok (.ireturn, 1) := by decide +kernel
theorem dX6_undo_0 : decode cX6_undo 0 = .ok (.aload_n 0, 1) := by decide +kernel
theorem dX6_undo_1 : decode cX6_undo 1 = .ok (.getfield 33, 3) := by decide +kernel
theorem dX6_undo_4 : decode cX6_undo 4 = .ok (.aload_n 0, 1) := by decide +kernel
theorem dX6_undo_5 : decode cX6_undo 5 = .ok (.getfield 26, 3) := by decide +kernel
theorem dX6_undo_8 : decode cX6_undo 8 = .ok (.invokevirtual 121, 3) := by decide +kernel
theorem dX6_undo_11 : decode cX6_undo 11 = .ok (.ireturn, 1) := by decide +kernel
theorem dX6_days_0 : decode cX6_days 0 = .ok (.aload_n 0, 1) := by decide +kernel
theorem dX6_days_1 : decode cX6_days 1 = .ok (.getfield 26, 3) := by decide +kernel
theorem dX6_days_4 : decode cX6_days 4 = .ok (.invokevirtual 125, 3) := by decide +kernel
theorem dX6_days_7 : decode cX6_days 7 = .ok (.ifCond .ne 6, 3) := by decide +kernel
theorem dX6_days_10 : decode cX6_days 10 = .ok (.ldc 129, 2) := by decide +kernel
theorem dX6_days_12 : decode cX6_days 12 = .ok (.ireturn, 1) := by decide +kernel
theorem dX6_days_13 : decode cX6_days 13 = .ok (.iload_n 1, 1) := by decide +kernel
theorem dX6_days_14 : decode cX6_days 14 = .ok (.iconst 1, 1) := by decide +kernel
theorem dX6_days_15 : decode cX6_days 15 = .ok (.bipush 24, 2) := by decide +kernel
theorem dX6_days_17 : decode cX6_days 17 = .ok (.invokestatic 92, 3) := by decide +kernel
theorem dX6_days_20 : decode cX6_days 20 = .ok (.ifCond .ne 6, 3) := by decide +kernel
theorem dX6_days_23 : decode cX6_days 23 = .ok (.ldc 66, 2) := by decide +kernel
theorem dX6_days_25 : decode cX6_days 25 = .ok (.ireturn, 1) := by decide +kernel
theorem dX6_days_26 : decode cX6_days 26 = .ok (.aload_n 0, 1) := by decide +kernel
theorem dX6_days_27 : decode cX6_days 27 = .ok (.getfield 26, 3) := by decide +kernel
theorem dX6_days_30 : decode cX6_days 30 = .ok (.invokevirtual 130, 3) := by decide +kernel
