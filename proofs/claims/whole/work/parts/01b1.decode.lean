theorem dX0_init_0 : decode cX0_init 0 = .ok (.aload_n 0, 1) := by decide +kernel
theorem dX0_init_1 : decode cX0_init 1 = .ok (.invokespecial 3, 3) := by decide +kernel
theorem dX0_init_4 : decode cX0_init 4 = .ok (.aload_n 0, 1) := by decide +kernel
theorem dX0_init_5 : decode cX0_init 5 = .ok (.bipush 16, 2) := by decide +kernel
theorem dX0_init_7 : decode cX0_init 7 = .ok (.newarray .int, 2) := by decide +kernel
theorem dX0_init_9 : decode cX0_init 9 = .ok (.putfield 11, 3) := by decide +kernel
theorem dX0_init_12 : decode cX0_init 12 = .ok (.return_, 1) := by decide +kernel
theorem dX0_isA_0 : decode cX0_isA 0 = .ok (.iload_n 1, 1) := by decide +kernel
theorem dX0_isA_1 : decode cX0_isA 1 = .ok (.istore_n 3, 1) := by decide +kernel
theorem dX0_isA_2 : decode cX0_isA 2 = .ok (.iconst 0, 1) := by decide +kernel
theorem dX0_isA_3 : decode cX0_isA 3 = .ok (.istore 4, 2) := by decide +kernel
theorem dX0_isA_5 : decode cX0_isA 5 = .ok (.iload 4, 2) := by decide +kernel
theorem dX0_isA_7 : decode cX0_isA 7 = .ok (.bipush 6, 2) := by decide +kernel
theorem dX0_isA_9 : decode cX0_isA 9 = .ok (.if_icmp .ge 32, 3) := by decide +kernel
theorem dX0_isA_12 : decode cX0_isA 12 = .ok (.iload_n 3, 1) := by decide +kernel
theorem dX0_isA_13 : decode cX0_isA 13 = .ok (.ifCond .lt 28, 3) := by decide +kernel
theorem dX0_isA_16 : decode cX0_isA 16 = .ok (.iload_n 3, 1) := by decide +kernel
theorem dX0_isA_17 : decode cX0_isA 17 = .ok (.bipush 6, 2) := by decide +kernel
theorem dX0_isA_19 : decode cX0_isA 19 = .ok (.if_icmp .ge 22, 3) := by decide +kernel
theorem dX0_isA_22 : decode cX0_isA 22 = .ok (.iload_n 3, 1) := by decide +kernel
theorem dX0_isA_23 : decode cX0_isA 23 = .ok (.iload_n 2, 1) := by decide +kernel
theorem dX0_isA_24 : decode cX0_isA 24 = .ok (.if_icmp .ne 5, 3) := by decide +kernel
theorem dX0_isA_27 : decode cX0_isA 27 = .ok (.iconst 1, 1) := by decide +kernel
theorem dX0_isA_28 : decode cX0_isA 28 = .ok (.ireturn, 1) := by decide +kernel
theorem dX0_isA_29 : decode cX0_isA 29 = .ok (.getstatic 15, 3) := by decide +kernel
theorem dX0_isA_32 : decode cX0_isA 32 = .ok (.iload_n 3, 1) := by decide +kernel
theorem dX0_isA_33 : decode cX0_isA 33 = .ok (.iaload, 1) := by decide +kernel
theorem dX0_isA_34 : decode cX0_isA 34 = .ok (.istore_n 3, 1) := by decide +kernel
theorem dX0_isA_35 : decode cX0_isA 35 = .ok (.iinc 4 1, 3) := by decide +kernel
theorem dX0_isA_38 : decode cX0_isA 38 = .ok (.goto (-33), 3) := by decide +kernel
theorem dX0_isA_41 : decode cX0_isA 41 = .ok (.iconst 0, 1) := by decide +kernel
theorem dX0_isA_42 : decode cX0_isA 42 = .ok (.ireturn, 1) := by decide +kernel
theorem dX0_answerOf_0 : decode cX0_answerOf 0 = .ok (.aload_n 1, 1) := by decide +kernel
theorem dX0_answerOf_1 : decode cX0_answerOf 1 = .ok (.ifnonnull 6, 3) := by decide +kernel
theorem dX0_answerOf_4 : decode cX0_answerOf 4 = .ok (.ldc 18, 2) := by decide +kernel
theorem dX0_answerOf_6 : decode cX0_answerOf 6 = .ok (.ireturn, 1) := by decide +kernel
theorem dX0_answerOf_7 : decode cX0_answerOf 7 = .ok (.aload_n 0, 1) := by decide +kernel
theorem dX0_answerOf_8 : decode cX0_answerOf 8 = .ok (.iload_n 2, 1) := by decide +kernel
theorem dX0_answerOf_9 : decode cX0_answerOf 9 = .ok (.putfield 19, 3) := by decide +kernel
theorem dX0_answerOf_12 : decode cX0_answerOf 12 = .ok (.aload_n 0, 1) := by decide +kernel
theorem dX0_answerOf_13 : decode cX0_answerOf 13 = .ok (.aload_n 1, 1) := by decide +kernel
theorem dX0_answerOf_14 : decode cX0_answerOf 14 = .ok (.iload_n 2, 1) := by decide +kernel
theorem dX0_answerOf_15 : decode cX0_answerOf 15 = .ok (.invokevirtual 23, 3) := by decide +kernel
theorem dX0_answerOf_18 : decode cX0_answerOf 18 = .ok (.putfield 29, 3) := by decide +kernel
theorem dX0_answerOf_21 : decode cX0_answerOf 21 = .ok (.aload_n 0, 1) := by decide +kernel
theorem dX0_answerOf_22 : decode cX0_answerOf 22 = .ok (.aload_n 1, 1) := by decide +kernel
theorem dX0_answerOf_23 : decode cX0_answerOf 23 = .ok (.iload_n 2, 1) := by decide +kernel
theorem dX0_answerOf_24 : decode cX0_answerOf 24 = .ok (.invokevirtual 32, 3) := by decide +kernel
theorem dX0_answerOf_27 : decode cX0_answerOf 27 = .ok (.putfield 35, 3) := by decide +kernel
theorem dX0_answerOf_30 : decode cX0_answerOf 30 = .ok (.aload_n 0, 1) := by decide +kernel
theorem dX0_answerOf_31 : decode cX0_answerOf 31 = .ok (.aload_n 1, 1) := by decide +kernel
theorem dX0_answerOf_32 : decode cX0_answerOf 32 = .ok (.iload_n 2, 1) := by decide +kernel
theorem dX0_answerOf_33 : decode cX0_answerOf 33 = .ok (.invokevirtual 38, 3) := by decide +kernel
theorem dX0_answerOf_36 : decode cX0_answerOf 36 = .ok (.putfield 41, 3) := by decide +kernel
theorem dX0_answerOf_39 : decode cX0_answerOf 39 = .ok (.aload_n 0, 1) := by decide +kernel
theorem dX0_answerOf_40 : decode cX0_answerOf 40 = .ok (.iconst 0, 1) := by decide +kernel
theorem dX0_answerOf_41 : decode cX0_answerOf 41 = .ok (.putfield 44, 3) := by decide +kernel
theorem dX0_answerOf_44 : decode cX0_answerOf 44 = .ok (.iload_n 3, 1) := by decide +kernel
theorem dX0_answerOf_45 : decode cX0_answerOf 45 = .ok (.ifCond .ne 11, 3) := by decide +kernel
theorem dX0_answerOf_48 : decode cX0_answerOf 48 = .ok (.aload_n 0, 1) := by decide +kernel
theorem dX0_answerOf_49 : decode cX0_answerOf 49 = .ok (.iconst 0, 1) := by decide +kernel
theorem dX0_answerOf_50 : decode cX0_answerOf 50 = .ok (.invokevirtual 47, 3) := by decide +kernel
theorem dX0_answerOf_53 : decode cX0_answerOf 53 = .ok (.goto 8, 3) := by decide +kernel
theorem dX0_answerOf_56 : decode cX0_answerOf 56 = .ok (.aload_n 0, 1) := by decide +kernel
theorem dX0_answerOf_57 : decode cX0_answerOf 57 = .ok (.iconst 0, 1) := by decide +kernel
theorem dX0_answerOf_58 : decode cX0_answerOf 58 = .ok (.invokevirtual 50, 3) := by decide +kernel
theorem dX0_answerOf_61 : decode cX0_answerOf 61 = .ok (.ireturn, 1) := by decide +kernel
theorem dX0_traceAt_0 : decode cX0_traceAt 0 = .ok (.iload_n 1, 1) := by decide +kernel
theorem dX0_traceAt_1 : decode cX0_traceAt 1 = .ok (.ifCond .lt 26, 3) := by decide +kernel
theorem dX0_traceAt_4 : decode cX0_traceAt 4 = .ok (.iload_n 1, 1) := by decide +kernel
theorem dX0_traceAt_5 : decode cX0_traceAt 5 = .ok (.aload_n 0, 1) := by decide +kernel
theorem dX0_traceAt_6 : decode cX0_traceAt 6 = .ok (.getfield 44, 3) := by decide +kernel
theorem dX0_traceAt_9 : decode cX0_traceAt 9 = .ok (.if_icmp .ge 18, 3) := by decide +kernel
theorem dX0_traceAt_12 : decode cX0_traceAt 12 = .ok (.iload_n 1, 1) := by decide +kernel
theorem dX0_traceAt_13 : decode cX0_traceAt 13 = .ok (.bipush 16, 2) := by decide +kernel
theorem dX0_traceAt_15 : decode cX0_traceAt 15 = .ok (.if_icmp .ge 12, 3) := by decide +kernel
theorem dX0_traceAt_18 : decode cX0_traceAt 18 = .ok (.aload_n 0, 1) := by decide +kernel
theorem dX0_traceAt_19 : decode cX0_traceAt 19 = .ok (.getfield 11, 3) := by decide +kernel
theorem dX0_traceAt_22 : decode cX0_traceAt 22 = .ok (.iload_n 1, 1) := by decide +kernel
theorem dX0_traceAt_23 : decode cX0_traceAt 23 = .ok (.iaload, 1) := by decide +kernel
theorem dX0_traceAt_24 : decode cX0_traceAt 24 = .ok (.goto 5, 3) := by decide +kernel
theorem dX0_traceAt_27 : decode cX0_traceAt 27 = .ok (.ldc 53, 2) := by decide +kernel
theorem dX0_traceAt_29 : decode cX0_traceAt 29 = .ok (.ireturn, 1) := by decide +kernel
theorem dX0_sizeAsked_0 : decode cX0_sizeAsked 0 = .ok (.aload_n 0, 1) := by decide +kernel
theorem dX0_sizeAsked_1 : decode cX0_sizeAsked 1 = .ok (.aload_n 0, 1) := by decide +kernel
theorem dX0_sizeAsked_2 : decode cX0_sizeAsked 2 = .ok (.getstatic 54, 3) := by decide +kernel
theorem dX0_sizeAsked_5 : decode cX0_sizeAsked 5 = .ok (.invokevirtual 57, 3) := by decide +kernel
theorem dX0_sizeAsked_8 : decode cX0_sizeAsked 8 = .ok (.iload_n 1, 1) := by decide +kernel
theorem dX0_sizeAsked_9 : decode cX0_sizeAsked 9 = .ok (.invokevirtual 61, 3) := by decide +kernel
theorem dX0_sizeAsked_12 : decode cX0_sizeAsked 12 = .ok (.ireturn, 1) := by decide +kernel
theorem dX0_markAsked_0 : decode cX0_markAsked 0 = .ok (.aload_n 0, 1) := by decide +kernel
theorem dX0_markAsked_1 : decode cX0_markAsked 1 = .ok (.aload_n 0, 1) := by decide +kernel
theorem dX0_markAsked_2 : decode cX0_markAsked 2 = .ok (.getstatic 65, 3) := by decide +kernel
theorem dX0_markAsked_5 : decode cX0_markAsked 5 = .ok (.invokevirtual 57, 3) := by decide +kernel
theorem dX0_markAsked_8 : decode cX0_markAsked 8 = .ok (.iload_n 1, 1) := by decide +kernel
theorem dX0_markAsked_9 : decode cX0_markAsked 9 = .ok (.invokevirtual 61, 3) := by decide +kernel
theorem dX0_markAsked_12 : decode cX0_markAsked 12 = .ok (.ireturn, 1) := by decide +kernel
theorem dX0_nearest_0 : decode cX0_nearest 0 = .ok (.aload_n 0, 1) := by decide +kernel
theorem dX0_nearest_1 : decode cX0_nearest 1 = .ok (.getfield 29, 3) := by decide +kernel
theorem dX0_nearest_4 : decode cX0_nearest 4 = .ok (.istore_n 2, 1) := by decide +kernel
theorem dX0_nearest_5 : decode cX0_nearest 5 = .ok (.iconst 0, 1) := by decide +kernel
theorem dX0_nearest_6 : decode cX0_nearest 6 = .ok (.istore_n 3, 1) := by decide +kernel
theorem dX0_nearest_7 : decode cX0_nearest 7 = .ok (.iload_n 3, 1) := by decide +kernel
theorem dX0_nearest_8 : decode cX0_nearest 8 = .ok (.bipush 6, 2) := by decide +kernel
theorem dX0_nearest_10 : decode cX0_nearest 10 = .ok (.if_icmp .ge 47, 3) := by decide +kernel
theorem dX0_nearest_13 : decode cX0_nearest 13 = .ok (.aload_n 1, 1) := by decide +kernel
theorem dX0_nearest_14 : decode cX0_nearest 14 = .ok (.ifnull 43, 3) := by decide +kernel
theorem dX0_nearest_17 : decode cX0_nearest 17 = .ok (.iload_n 2, 1) := by decide +kernel
theorem dX0_nearest_18 : decode cX0_nearest 18 = .ok (.ifCond .lt 15, 3) := by decide +kernel
theorem dX0_nearest_21 : decode cX0_nearest 21 = .ok (.iload_n 2, 1) := by decide +kernel
theorem dX0_nearest_22 : decode cX0_nearest 22 = .ok (.bipush 6, 2) := by decide +kernel
theorem dX0_nearest_24 : decode cX0_nearest 24 = .ok (.if_icmp .ge 9, 3) := by decide +kernel
theorem dX0_nearest_27 : decode cX0_nearest 27 = .ok (.iload_n 2, 1) := by decide +kernel
theorem dX0_nearest_28 : decode cX0_nearest 28 = .ok (.aload_n 1, 1) := by decide +kernel
theorem dX0_nearest_29 : decode cX0_nearest 29 = .ok (.arraylength, 1) := by decide +kernel
theorem dX0_nearest_30 : decode cX0_nearest 30 = .ok (.if_icmp .lt 5, 3) := by decide +kernel
theorem dX0_nearest_33 : decode cX0_nearest 33 = .ok (.iconst 0, 1) := by decide +kernel
theorem dX0_nearest_34 : decode cX0_nearest 34 = .ok (.ireturn, 1) := by decide +kernel
theorem dX0_nearest_35 : decode cX0_nearest 35 = .ok (.aload_n 1, 1) := by decide +kernel
theorem dX0_nearest_36 : decode cX0_nearest 36 = .ok (.iload_n 2, 1) := by decide +kernel
theorem dX0_nearest_37 : decode cX0_nearest 37 = .ok (.iaload, 1) := by decide +kernel
theorem dX0_nearest_38 : decode cX0_nearest 38 = .ok (.ifCond .eq 7, 3) := by decide +kernel
theorem dX0_nearest_41 : decode cX0_nearest 41 = .ok (.aload_n 1, 1) := by decide +kernel
theorem dX0_nearest_42 : decode cX0_nearest 42 = .ok (.iload_n 2, 1) := by decide +kernel
theorem dX0_nearest_43 : decode cX0_nearest 43 = .ok (.iaload, 1) := by decide +kernel
theorem dX0_nearest_44 : decode cX0_nearest 44 = .ok (.ireturn, 1) := by decide +kernel
theorem dX0_nearest_45 : decode cX0_nearest 45 = .ok (.getstatic 15, 3) := by decide +kernel
theorem dX0_nearest_48 : decode cX0_nearest 48 = .ok (.iload_n 2, 1) := by decide +kernel
theorem dX0_nearest_49 : decode cX0_nearest 49 = .ok (.iaload, 1) := by decide +kernel
theorem dX0_nearest_50 : decode cX0_nearest 50 = .ok (.istore_n 2, 1) := by decide +kernel
theorem dX0_nearest_51 : decode cX0_nearest 51 = .ok (.iinc 3 1, 3) := by decide +kernel
theorem dX0_nearest_54 : decode cX0_nearest 54 = .ok (.goto (-47), 3) := by decide +kernel
theorem dX0_nearest_57 : decode cX0_nearest 57 = .ok (.iconst 0, 1) := by decide +kernel
theorem dX0_nearest_58 : decode cX0_nearest 58 = .ok (.ireturn, 1) := by decide +kernel
theorem dX0_body_0 : decode cX0_body 0 = .ok (.iload_n 2, 1) := by decide +kernel
theorem dX0_body_1 : decode cX0_body 1 = .ok (.bipush 8, 2) := by decide +kernel
theorem dX0_body_3 : decode cX0_body 3 = .ok (.if_icmp .le 5, 3) := by decide +kernel
theorem dX0_body_6 : decode cX0_body 6 = .ok (.iconst 0, 1) := by decide +kernel
theorem dX0_body_7 : decode cX0_body 7 = .ok (.ireturn, 1) := by decide +kernel
theorem dX0_body_8 : decode cX0_body 8 = .ok (.aload_n 0, 1) := by decide +kernel
theorem dX0_body_9 : decode cX0_body 9 = .ok (.iload_n 1, 1) := by decide +kernel
theorem dX0_body_10 : decode cX0_body 10 = .ok (.invokevirtual 68, 3) := by decide +kernel
theorem dX0_body_13 : decode cX0_body 13 = .ok (.iload_n 2, 1) := by decide +kernel
theorem dX0_body_14 : decode cX0_body 14 = .ok (.iconst 1, 1) := by decide +kernel
theorem dX0_body_15 : decode cX0_body 15 = .ok (.iadd, 1) := by decide +kernel
theorem dX0_body_16 : decode cX0_body 16 = .ok (.istore_n 3, 1) := by decide +kernel
theorem dX0_body_17 : decode cX0_body 17 = .ok (.iload_n 1, 1) := by decide +kernel
theorem dX0_body_18 : decode cX0_body 18 = .ok (.tableswitch 177 10 24 #[74, 79, 93, 102, 113, 177, 177, 177, 177, 177, 123, 128, 141, 153, 167], 74) := by decide +kernel
theorem dX0_body_92 : decode cX0_body 92 = .ok (.aload_n 0, 1) := by decide +kernel
theorem dX0_body_93 : decode cX0_body 93 = .ok (.getfield 35, 3) := by decide +kernel
theorem dX0_body_96 : decode cX0_body 96 = .ok (.ireturn, 1) := by decide +kernel
theorem dX0_body_97 : decode cX0_body 97 = .ok (.aload_n 0, 1) := by decide +kernel
theorem dX0_body_98 : decode cX0_body 98 = .ok (.bipush 10, 2) := by decide +kernel
theorem dX0_body_100 : decode cX0_body 100 = .ok (.iload_n 3, 1) := by decide +kernel
theorem dX0_body_101 : decode cX0_body 101 = .ok (.invokevirtual 61, 3) := by decide +kernel
theorem dX0_body_104 : decode cX0_body 104 = .ok (.aload_n 0, 1) := by decide +kernel
theorem dX0_body_105 : decode cX0_body 105 = .ok (.iload_n 3, 1) := by decide +kernel
theorem dX0_body_106 : decode cX0_body 106 = .ok (.invokevirtual 50, 3) := by decide +kernel
theorem dX0_body_109 : decode cX0_body 109 = .ok (.iadd, 1) := by decide +kernel
theorem dX0_body_110 : decode cX0_body 110 = .ok (.ireturn, 1) := by decide +kernel
theorem dX0_body_111 : decode cX0_body 111 = .ok (.aload_n 0, 1) := by decide +kernel
theorem dX0_body_112 : decode cX0_body 112 = .ok (.bipush 11, 2) := by decide +kernel
theorem dX0_body_114 : decode cX0_body 114 = .ok (.iload_n 3, 1) := by decide +kernel
theorem dX0_body_115 : decode cX0_body 115 = .ok (.invokevirtual 61, 3) := by decide +kernel
theorem dX0_body_118 : decode cX0_body 118 = .ok (.ineg, 1) := by decide +kernel
theorem dX0_body_119 : decode cX0_body 119 = .ok (.ireturn, 1) := by decide +kernel
theorem dX0_body_120 : decode cX0_body 120 = .ok (.aload_n 0, 1) := by decide +kernel
theorem dX0_body_121 : decode cX0_body 121 = .ok (.bipush 10, 2) := by decide +kernel
theorem dX0_body_123 : decode cX0_body 123 = .ok (.iload_n 3, 1) := by decide +kernel
theorem dX0_body_124 : decode cX0_body 124 = .ok (.invokevirtual 61, 3) := by decide +kernel
theorem dX0_body_127 : decode cX0_body 127 = .ok (.bipush 100, 2) := by decide +kernel
theorem dX0_body_129 : decode cX0_body 129 = .ok (.isub, 1) := by decide +kernel
theorem dX0_body_130 : decode cX0_body 130 = .ok (.ireturn, 1) := by decide +kernel
theorem dX0_body_131 : decode cX0_body 131 = .ok (.iconst 2, 1) := by decide +kernel
theorem dX0_body_132 : decode cX0_body 132 = .ok (.aload_n 0, 1) := by decide +kernel
theorem dX0_body_133 : decode cX0_body 133 = .ok (.bipush 13, 2) := by decide +kernel
theorem dX0_body_135 : decode cX0_body 135 = .ok (.iload_n 3, 1) := by decide +kernel
theorem dX0_body_136 : decode cX0_body 136 = .ok (.invokevirtual 61, 3) := by decide +kernel
theorem dX0_body_139 : decode cX0_body 139 = .ok (.imul, 1) := by decide +kernel
theorem dX0_body_140 : decode cX0_body 140 = .ok (.ireturn, 1) := by decide +kernel
theorem dX0_body_141 : decode cX0_body 141 = .ok (.aload_n 0, 1) := by decide +kernel
theorem dX0_body_142 : decode cX0_body 142 = .ok (.getfield 19, 3) := by decide +kernel
theorem dX0_body_145 : decode cX0_body 145 = .ok (.ireturn, 1) := by decide +kernel
theorem dX0_body_146 : decode cX0_body 146 = .ok (.aload_n 0, 1) := by decide +kernel
theorem dX0_body_147 : decode cX0_body 147 = .ok (.bipush 20, 2) := by decide +kernel
theorem dX0_body_149 : decode cX0_body 149 = .ok (.iload_n 3, 1) := by decide +kernel
theorem dX0_body_150 : decode cX0_body 150 = .ok (.invokevirtual 61, 3) := by decide +kernel
theorem dX0_body_153 : decode cX0_body 153 = .ok (.aload_n 0, 1) := by decide +kernel
theorem dX0_body_154 : decode cX0_body 154 = .ok (.getfield 41, 3) := by decide +kernel
theorem dX0_body_157 : decode cX0_body 157 = .ok (.iadd, 1) := by decide +kernel
theorem dX0_body_158 : decode cX0_body 158 = .ok (.ireturn, 1) := by decide +kernel
theorem dX0_body_159 : decode cX0_body 159 = .ok (.aload_n 0, 1) := by decide +kernel
theorem dX0_body_160 : decode cX0_body 160 = .ok (.bipush 21, 2) := by decide +kernel
theorem dX0_body_162 : decode cX0_body 162 = .ok (.iload_n 3, 1) := by decide +kernel
theorem dX0_body_163 : decode cX0_body 163 = .ok (.invokevirtual 61, 3) := by decide +kernel
theorem dX0_body_166 : decode cX0_body 166 = .ok (.sipush 1000, 3) := by decide +kernel
theorem dX0_body_169 : decode cX0_body 169 = .ok (.isub, 1) := by decide +kernel
theorem dX0_body_170 : decode cX0_body 170 = .ok (.ireturn, 1) := by decide +kernel
theorem dX0_body_171 : decode cX0_body 171 = .ok (.aload_n 0, 1) := by decide +kernel
theorem dX0_body_172 : decode cX0_body 172 = .ok (.bipush 20, 2) := by decide +kernel
theorem dX0_body_174 : decode cX0_body 174 = .ok (.iload_n 3, 1) := by decide +kernel
theorem dX0_body_175 : decode cX0_body 175 = .ok (.invokevirtual 61, 3) := by decide +kernel
theorem dX0_body_178 : decode cX0_body 178 = .ok (.aload_n 0, 1) := by decide +kernel
theorem dX0_body_179 : decode cX0_body 179 = .ok (.iload_n 3, 1) := by decide +kernel
theorem dX0_body_180 : decode cX0_body 180 = .ok (.invokevirtual 47, 3) := by decide +kernel
theorem dX0_body_183 : decode cX0_body 183 = .ok (.isub, 1) := by decide +kernel
theorem dX0_body_184 : decode cX0_body 184 = .ok (.ireturn, 1) := by decide +kernel
theorem dX0_body_185 : decode cX0_body 185 = .ok (.iconst 2, 1) := by decide +kernel
theorem dX0_body_186 : decode cX0_body 186 = .ok (.aload_n 0, 1) := by decide +kernel
theorem dX0_body_187 : decode cX0_body 187 = .ok (.bipush 21, 2) := by decide +kernel
theorem dX0_body_189 : decode cX0_body 189 = .ok (.iload_n 3, 1) := by decide +kernel
theorem dX0_body_190 : decode cX0_body 190 = .ok (.invokevirtual 61, 3) := by decide +kernel
theorem dX0_body_193 : decode cX0_body 193 = .ok (.imul, 1) := by decide +kernel
theorem dX0_body_194 : decode cX0_body 194 = .ok (.ireturn, 1) := by decide +kernel
theorem dX0_body_195 : decode cX0_body 195 = .ok (.iconst 0, 1) := by decide +kernel
theorem dX0_body_196 : decode cX0_body 196 = .ok (.ireturn, 1) := by decide +kernel
theorem dX0_begin_0 : decode cX0_begin 0 = .ok (.aload_n 0, 1) := by decide +kernel
theorem dX0_begin_1 : decode cX0_begin 1 = .ok (.getfield 44, 3) := by decide +kernel
theorem dX0_begin_4 : decode cX0_begin 4 = .ok (.ifCond .lt 32, 3) := by decide +kernel
theorem dX0_begin_7 : decode cX0_begin 7 = .ok (.aload_n 0, 1) := by decide +kernel
theorem dX0_begin_8 : decode cX0_begin 8 = .ok (.getfield 44, 3) := by decide +kernel
theorem dX0_begin_11 : decode cX0_begin 11 = .ok (.bipush 16, 2) := by decide +kernel
theorem dX0_begin_13 : decode cX0_begin 13 = .ok (.if_icmp .ge 23, 3) := by decide +kernel
theorem dX0_begin_16 : decode cX0_begin 16 = .ok (.aload_n 0, 1) := by decide +kernel
theorem dX0_begin_17 : decode cX0_begin 17 = .ok (.getfield 11, 3) := by decide +kernel
theorem dX0_begin_20 : decode cX0_begin 20 = .ok (.aload_n 0, 1) := by decide +kernel
theorem dX0_begin_21 : decode cX0_begin 21 = .ok (.getfield 44, 3) := by decide +kernel
theorem dX0_begin_24 : decode cX0_begin 24 = .ok (.iload_n 1, 1) := by decide +kernel
theorem dX0_begin_25 : decode cX0_begin 25 = .ok (.iastore, 1) := by decide +kernel
theorem dX0_begin_26 : decode cX0_begin 26 = .ok (.aload_n 0, 1) := by decide +kernel
theorem dX0_begin_27 : decode cX0_begin 27 = .ok (.dup, 1) := by decide +kernel
theorem dX0_begin_28 : decode cX0_begin 28 = .ok (.getfield 44, 3) := by decide +kernel
theorem dX0_begin_31 : decode cX0_begin 31 = .ok (.iconst 1, 1) := by decide +kernel
theorem dX0_begin_32 : decode cX0_begin 32 = .ok (.iadd, 1) := by decide +kernel
theorem dX0_begin_33 : decode cX0_begin 33 = .ok (.putfield 44, 3) := by decide +kernel
theorem dX0_begin_36 : decode cX0_begin 36 = .ok (.return_, 1) := by decide +kernel
theorem dX1_init_0 : decode cX1_init 0 = .ok (.aload_n 0, 1) := by decide +kernel
theorem dX1_init_1 : decode cX1_init 1 = .ok (.invokespecial 3, 3) := by decide +kernel
theorem dX1_init_4 : decode cX1_init 4 = .ok (.aload_n 0, 1) := by decide +kernel
theorem dX1_init_5 : decode cX1_init 5 = .ok (.bipush 24, 2) := by decide +kernel
theorem dX1_init_7 : decode cX1_init 7 = .ok (.anewarray 9, 3) := by decide +kernel
theorem dX1_init_10 : decode cX1_init 10 = .ok (.putfield 11, 3) := by decide +kernel
theorem dX1_init_13 : decode cX1_init 13 = .ok (.iconst 0, 1) := by decide +kernel
theorem dX1_init_14 : decode cX1_init 14 = .ok (.istore_n 1, 1) := by decide +kernel
theorem dX1_init_15 : decode cX1_init 15 = .ok (.iload_n 1, 1) := by decide +kernel
theorem dX1_init_16 : decode cX1_init 16 = .ok (.bipush 24, 2) := by decide +kernel
theorem dX1_init_18 : decode cX1_init 18 = .ok (.if_icmp .ge 22, 3) := by decide +kernel
theorem dX1_init_21 : decode cX1_init 21 = .ok (.aload_n 0, 1) := by decide +kernel
theorem dX1_init_22 : decode cX1_init 22 = .ok (.getfield 11, 3) := by decide +kernel
theorem dX1_init_25 : decode cX1_init 25 = .ok (.iload_n 1, 1) := by decide +kernel
theorem dX1_init_26 : decode cX1_init 26 = .ok (.new 9, 3) := by decide +kernel
theorem dX1_init_29 : decode cX1_init 29 = .ok (.dup, 1) := by decide +kernel
theorem dX1_init_30 : decode cX1_init 30 = .ok (.invokespecial 17, 3) := by decide +kernel
theorem dX1_init_33 : decode cX1_init 33 = .ok (.aastore, 1) := by decide +kernel
theorem dX1_init_34 : decode cX1_init 34 = .ok (.iinc 1 1, 3) := by decide +kernel
theorem dX1_init_37 : decode cX1_init 37 = .ok (.goto (-22), 3) := by decide +kernel
theorem dX1_init_40 : decode cX1_init 40 = .ok (.return_, 1) := by decide +kernel
theorem dX1_forget_0 : decode cX1_forget 0 = .ok (.aload_n 0, 1) := by decide +kernel
theorem dX1_forget_1 : decode cX1_forget 1 = .ok (.iconst 0, 1) := by decide +kernel
theorem dX1_forget_2 : decode cX1_forget 2 = .ok (.putfield 18, 3) := by decide +kernel
theorem dX1_forget_5 : decode cX1_forget 5 = .ok (.return_, 1) := by decide +kernel
theorem dX1_keptCount_0 : decode cX1_keptCount 0 = .ok (.aload_n 0, 1) := by decide +kernel
theorem dX1_keptCount_1 : decode cX1_keptCount 1 = .ok (.getfield 18, 3) := by decide +kernel
theorem dX1_keptCount_4 : decode cX1_keptCount 4 = .ok (.ireturn, 1) := by decide +kernel
theorem dX1_keep_0 : decode cX1_keep 0 = .ok (.aload_n 0, 1) := by decide +kernel
theorem dX1_keep_1 : decode cX1_keep 1 = .ok (.aload_n 0, 1) := by decide +kernel
theorem dX1_keep_2 : decode cX1_keep 2 = .ok (.getfield 22, 3) := by decide +kernel
theorem dX1_keep_5 : decode cX1_keep 5 = .ok (.invokevirtual 25, 3) := by decide +kernel
theorem dX1_keep_8 : decode cX1_keep 8 = .ok (.astore_n 2, 1) := by decide +kernel
theorem dX1_keep_9 : decode cX1_keep 9 = .ok (.aload_n 2, 1) := by decide +kernel
theorem dX1_keep_10 : decode cX1_keep 10 = .ok (.ifnonnull 4, 3) := by decide +kernel
theorem dX1_keep_13 : decode cX1_keep 13 = .ok (.return_, 1) := by decide +kernel
theorem dX1_keep_14 : decode cX1_keep 14 = .ok (.aload_n 2, 1) := by decide +kernel
theorem dX1_keep_15 : decode cX1_keep 15 = .ok (.aload_n 1, 1) := by decide +kernel
theorem dX1_keep_16 : decode cX1_keep 16 = .ok (.invokevirtual 29, 3) := by decide +kernel
theorem dX1_keep_19 : decode cX1_keep 19 = .ok (.aload_n 0, 1) := by decide +kernel
theorem dX1_keep_20 : decode cX1_keep 20 = .ok (.aload_n 0, 1) := by decide +kernel
theorem dX1_keep_21 : decode cX1_keep 21 = .ok (.getfield 22, 3) := by decide +kernel
theorem dX1_keep_24 : decode cX1_keep 24 = .ok (.iconst 1, 1) := by decide +kernel
theorem dX1_keep_25 : decode cX1_keep 25 = .ok (.iadd, 1) := by decide +kernel
theorem dX1_keep_26 : decode cX1_keep 26 = .ok (.bipush 24, 2) := by decide +kernel
theorem dX1_keep_28 : decode cX1_keep 28 = .ok (.if_icmp .ge 12, 3) := by decide +kernel
theorem dX1_keep_31 : decode cX1_keep 31 = .ok (.aload_n 0, 1) := by decide +kernel
theorem dX1_keep_32 : decode cX1_keep 32 = .ok (.getfield 22, 3) := by decide +kernel
theorem dX1_keep_35 : decode cX1_keep 35 = .ok (.iconst 1, 1) := by decide +kernel
theorem dX1_keep_36 : decode cX1_keep 36 = .ok (.iadd, 1) := by decide +kernel
theorem dX1_keep_37 : decode cX1_keep 37 = .ok (.goto 4, 3) := by decide +kernel
theorem dX1_keep_40 : decode cX1_keep 40 = .ok (.iconst 0, 1) := by decide +kernel
theorem dX1_keep_41 : decode cX1_keep 41 = .ok (.putfield 22, 3) := by decide +kernel
theorem dX1_keep_44 : decode cX1_keep 44 = .ok (.aload_n 0, 1) := by decide +kernel
theorem dX1_keep_45 : decode cX1_keep 45 = .ok (.bipush 24, 2) := by decide +kernel
theorem dX1_keep_47 : decode cX1_keep 47 = .ok (.aload_n 0, 1) := by decide +kernel
theorem dX1_keep_48 : decode cX1_keep 48 = .ok (.getfield 18, 3) := by decide +kernel
theorem dX1_keep_51 : decode cX1_keep 51 = .ok (.iconst 1, 1) := by decide +kernel
theorem dX1_keep_52 : decode cX1_keep 52 = .ok (.iadd, 1) := by decide +kernel
theorem dX1_keep_53 : decode cX1_keep 53 = .ok (.invokestatic 33, 3) := by decide +kernel
theorem dX1_keep_56 : decode cX1_keep 56 = .ok (.putfield 18, 3) := by decide +kernel
theorem dX1_keep_59 : decode cX1_keep 59 = .ok (.return_, 1) := by decide +kernel
theorem dX1_takeBack_0 : decode cX1_takeBack 0 = .ok (.aload_n 1, 1) := by decide +kernel
theorem dX1_takeBack_1 : decode cX1_takeBack 1 = .ok (.ifnull 11, 3) := by decide +kernel
theorem dX1_takeBack_4 : decode cX1_takeBack 4 = .ok (.aload_n 0, 1) := by decide +kernel
theorem dX1_takeBack_5 : decode cX1_takeBack 5 = .ok (.getfield 18, 3) := by decide +kernel
theorem dX1_takeBack_8 : decode cX1_takeBack 8 = .ok (.iconst 1, 1) := by decide +kernel
theorem dX1_takeBack_9 : decode cX1_takeBack 9 = .ok (.if_icmp .ge 6, 3) := by decide +kernel
theorem dX1_takeBack_12 : decode cX1_takeBack 12 = .ok (.ldc 39, 2) := by decide +kernel
theorem dX1_takeBack_14 : decode cX1_takeBack 14 = .ok (.ireturn, 1) := by decide +kernel
theorem dX1_takeBack_15 : decode cX1_takeBack 15 = .ok (.aload_n 0, 1) := by decide +kernel
theorem dX1_takeBack_16 : decode cX1_takeBack 16 = .ok (.aload_n 0, 1) := by decide +kernel
theorem dX1_takeBack_17 : decode cX1_takeBack 17 = .ok (.getfield 22, 3) := by decide +kernel
theorem dX1_takeBack_20 : decode cX1_takeBack 20 = .ok (.ifCond .le 12, 3) := by decide +kernel
theorem dX1_takeBack_23 : decode cX1_takeBack 23 = .ok (.aload_n 0, 1) := by decide +kernel
theorem dX1_takeBack_24 : decode cX1_takeBack 24 = .ok (.getfield 22, 3) := by decide +kernel
theorem dX1_takeBack_27 : decode cX1_takeBack 27 = .ok (.iconst 1, 1) := by decide +kernel
theorem dX1_takeBack_28 : decode cX1_takeBack 28 = .ok (.isub, 1) := by decide +kernel
theorem dX1_takeBack_29 : decode cX1_takeBack 29 = .ok (.goto 5, 3) := by decide +kernel
theorem dX1_takeBack_32 : decode cX1_takeBack 32 = .ok (.bipush 23, 2) := by decide +kernel
theorem dX1_takeBack_34 : decode cX1_takeBack 34 = .ok (.putfield 22, 3) := by decide +kernel
theorem dX1_takeBack_37 : decode cX1_takeBack 37 = .ok (.aload_n 1, 1) := by decide +kernel
theorem dX1_takeBack_38 : decode cX1_takeBack 38 = .ok (.aload_n 0, 1) := by decide +kernel
theorem dX1_takeBack_39 : decode cX1_takeBack 39 = .ok (.aload_n 0, 1) := by decide +kernel
theorem dX1_takeBack_40 : decode cX1_takeBack 40 = .ok (.getfield 22, 3) := by decide +kernel
theorem dX1_takeBack_43 : decode cX1_takeBack 43 = .ok (.invokevirtual 25, 3) := by decide +kernel
theorem dX1_takeBack_46 : decode cX1_takeBack 46 = .ok (.invokevirtual 29, 3) := by decide +kernel
theorem dX1_takeBack_49 : decode cX1_takeBack 49 = .ok (.aload_n 0, 1) := by decide +kernel
theorem dX1_takeBack_50 : decode cX1_takeBack 50 = .ok (.dup, 1) := by decide +kernel
theorem dX1_takeBack_51 : decode cX1_takeBack 51 = .ok (.getfield 18, 3) := by decide +kernel
theorem dX1_takeBack_54 : decode cX1_takeBack 54 = .ok (.iconst 1, 1) := by decide +kernel
theorem dX1_takeBack_55 : decode cX1_takeBack 55 = .ok (.isub, 1) := by decide +kernel
theorem dX1_takeBack_56 : decode cX1_takeBack 56 = .ok (.putfield 18, 3) := by decide +kernel
theorem dX1_takeBack_59 : decode cX1_takeBack 59 = .ok (.aload_n 0, 1) := by decide +kernel
theorem dX1_takeBack_60 : decode cX1_takeBack 60 = .ok (.getfield 18, 3) := by decide +kernel
theorem dX1_takeBack_63 : decode cX1_takeBack 63 = .ok (.ireturn, 1) := by decide +kernel
theorem dX1_townAt_0 : decode cX1_townAt 0 = .ok (.iload_n 1, 1) := by decide +kernel
theorem dX1_townAt_1 : decode cX1_townAt 1 = .ok (.ifCond .lt 18, 3) := by decide +kernel
theorem dX1_townAt_4 : decode cX1_townAt 4 = .ok (.iload_n 1, 1) := by decide +kernel
theorem dX1_townAt_5 : decode cX1_townAt 5 = .ok (.bipush 24, 2) := by decide +kernel
theorem dX1_townAt_7 : decode cX1_townAt 7 = .ok (.if_icmp .ge 12, 3) := by decide +kernel
theorem dX1_townAt_10 : decode cX1_townAt 10 = .ok (.aload_n 0, 1) := by decide +kernel
theorem dX1_townAt_11 : decode cX1_townAt 11 = .ok (.getfield 11, 3) := by decide +kernel
theorem dX1_townAt_14 : decode cX1_townAt 14 = .ok (.iload_n 1, 1) := by decide +kernel
theorem dX1_townAt_15 : decode cX1_townAt 15 = .ok (.aaload, 1) := by decide +kernel
theorem dX1_townAt_16 : decode cX1_townAt 16 = .ok (.goto 4, 3) := by decide +kernel
theorem dX1_townAt_19 : decode cX1_townAt 19 = .ok (.aconst_null, 1) := by decide +kernel
theorem dX1_townAt_20 : decode cX1_townAt 20 = .ok (.areturn, 1) := by decide +kernel
theorem dX2_init_0 : decode cX2_init 0 = .ok (.aload_n 0, 1) := by decide +kernel
theorem dX2_init_1 : decode cX2_init 1 = .ok (.invokespecial 3, 3) := by decide +kernel
theorem dX2_init_4 : decode cX2_init 4 = .ok (.aload_n 0, 1) := by decide +kernel
theorem dX2_init_5 : decode cX2_init 5 = .ok (.bipush 100, 2) := by decide +kernel
theorem dX2_init_7 : decode cX2_init 7 = .ok (.newarray .int, 2) := by decide +kernel
theorem dX2_init_9 : decode cX2_init 9 = .ok (.putfield 11, 3) := by decide +kernel
theorem dX2_init_12 : decode cX2_init 12 = .ok (.aload_n 0, 1) := by decide +kernel
theorem dX2_init_13 : decode cX2_init 13 = .ok (.new 15, 3) := by decide +kernel
theorem dX2_init_16 : decode cX2_init 16 = .ok (.dup, 1) := by decide +kernel
theorem dX2_init_17 : decode cX2_init 17 = .ok (.invokespecial 17, 3) := by decide +kernel
theorem dX2_init_20 : decode cX2_init 20 = .ok (.putfield 18, 3) := by decide +kernel
theorem dX2_init_23 : decode cX2_init 23 = .ok (.return_, 1) := by decide +kernel
theorem dX2_add_0 : decode cX2_add 0 = .ok (.aload_n 0, 1) := by decide +kernel
theorem dX2_add_1 : decode cX2_add 1 = .ok (.getfield 22, 3) := by decide +kernel
theorem dX2_add_4 : decode cX2_add 4 = .ok (.bipush 100, 2) := by decide +kernel
theorem dX2_add_6 : decode cX2_add 6 = .ok (.if_icmp .lt 6, 3) := by decide +kernel
theorem dX2_add_9 : decode cX2_add 9 = .ok (.ldc 26, 2) := by decide +kernel
theorem dX2_add_11 : decode cX2_add 11 = .ok (.ireturn, 1) := by decide +kernel
theorem dX2_add_12 : decode cX2_add 12 = .ok (.aload_n 0, 1) := by decide +kernel
theorem dX2_add_13 : decode cX2_add 13 = .ok (.getfield 11, 3) := by decide +kernel
theorem dX2_add_16 : decode cX2_add 16 = .ok (.aload_n 0, 1) := by decide +kernel
theorem dX2_add_17 : decode cX2_add 17 = .ok (.getfield 22, 3) := by decide +kernel
theorem dX2_add_20 : decode cX2_add 20 = .ok (.iload_n 1, 1) := by decide +kernel
theorem dX2_add_21 : decode cX2_add 21 = .ok (.iastore, 1) := by decide +kernel
theorem dX2_add_22 : decode cX2_add 22 = .ok (.aload_n 0, 1) := by decide +kernel
theorem dX2_add_23 : decode cX2_add 23 = .ok (.dup, 1) := by decide +kernel
theorem dX2_add_24 : decode cX2_add 24 = .ok (.getfield 22, 3) := by decide +kernel
theorem dX2_add_27 : decode cX2_add 27 = .ok (.iconst 1, 1) := by decide +kernel
theorem dX2_add_28 : decode cX2_add 28 = .ok (.iadd, 1) := by decide +kernel
theorem dX2_add_29 : decode cX2_add 29 = .ok (.putfield 22, 3) := by decide +kernel
theorem dX2_add_32 : decode cX2_add 32 = .ok (.aload_n 0, 1) := by decide +kernel
theorem dX2_add_33 : decode cX2_add 33 = .ok (.getfield 22, 3) := by decide +kernel
theorem dX2_add_36 : decode cX2_add 36 = .ok (.ireturn, 1) := by decide +kernel
theorem dX2_byteCount_0 : decode cX2_byteCount 0 = .ok (.aload_n 0, 1) := by decide +kernel
theorem dX2_byteCount_1 : decode cX2_byteCount 1 = .ok (.getfield 22, 3) := by decide +kernel
theorem dX2_byteCount_4 : decode cX2_byteCount 4 = .ok (.ireturn, 1) := by decide +kernel
theorem dX2_faultNumber_0 : decode cX2_faultNumber 0 = .ok (.aload_n 0, 1) := by decide +kernel
theorem dX2_faultNumber_1 : decode cX2_faultNumber 1 = .ok (.getfield 27, 3) := by decide +kernel
theorem dX2_faultNumber_4 : decode cX2_faultNumber 4 = .ok (.ireturn, 1) := by decide +kernel
theorem dX2_faultPlace_0 : decode cX2_faultPlace 0 = .ok (.aload_n 0, 1) := by decide +kernel
theorem dX2_faultPlace_1 : decode cX2_faultPlace 1 = .ok (.getfield 30, 3) := by decide +kernel
theorem dX2_faultPlace_4 : decode cX2_faultPlace 4 = .ok (.ireturn, 1) := by decide +kernel
theorem dX2_readTape_0 : decode cX2_readTape 0 = .ok (.aload_n 0, 1) := by decide +kernel
theorem dX2_readTape_1 : decode cX2_readTape 1 = .ok (.iconst 0, 1) := by decide +kernel
theorem dX2_readTape_2 : decode cX2_readTape 2 = .ok (.putfield 33, 3) := by decide +kernel
theorem dX2_readTape_5 : decode cX2_readTape 5 = .ok (.aload_n 0, 1) := by decide +kernel
theorem dX2_readTape_6 : decode cX2_readTape 6 = .ok (.invokevirtual 36, 3) := by decide +kernel
theorem dX2_readTape_9 : decode cX2_readTape 9 = .ok (.ifCond .eq 21, 3) := by decide +kernel
theorem dX2_readTape_12 : decode cX2_readTape 12 = .ok (.aload_n 0, 1) := by decide +kernel
theorem dX2_readTape_13 : decode cX2_readTape 13 = .ok (.invokevirtual 40, 3) := by decide +kernel
theorem dX2_readTape_16 : decode cX2_readTape 16 = .ok (.ifCond .eq 14, 3) := by decide +kernel
theorem dX2_readTape_19 : decode cX2_readTape 19 = .ok (.aload_n 0, 1) := by decide +kernel
theorem dX2_readTape_20 : decode cX2_readTape 20 = .ok (.invokevirtual 43, 3) := by decide +kernel
theorem dX2_readTape_23 : decode cX2_readTape 23 = .ok (.ifCond .eq 7, 3) := by decide +kernel
theorem dX2_readTape_26 : decode cX2_readTape 26 = .ok (.iconst 1, 1) := by decide +kernel
theorem dX2_readTape_27 : decode cX2_readTape 27 = .ok (.goto 4, 3) := by decide +kernel
theorem dX2_readTape_30 : decode cX2_readTape 30 = .ok (.iconst 0, 1) := by decide +kernel
theorem dX2_readTape_31 : decode cX2_readTape 31 = .ok (.istore_n 1, 1) := by decide +kernel
theorem dX2_readTape_32 : decode cX2_readTape 32 = .ok (.aload_n 0, 1) := by decide +kernel
theorem dX2_readTape_33 : decode cX2_readTape 33 = .ok (.iconst 0, 1) := by decide +kernel
theorem dX2_readTape_34 : decode cX2_readTape 34 = .ok (.putfield 22, 3) := by decide +kernel
theorem dX2_readTape_37 : decode cX2_readTape 37 = .ok (.iload_n 1, 1) := by decide +kernel
theorem dX2_readTape_38 : decode cX2_readTape 38 = .ok (.ifCond .eq 10, 3) := by decide +kernel
theorem dX2_readTape_41 : decode cX2_readTape 41 = .ok (.aload_n 0, 1) := by decide +kernel
theorem dX2_readTape_42 : decode cX2_readTape 42 = .ok (.getfield 18, 3) := by decide +kernel
theorem dX2_readTape_45 : decode cX2_readTape 45 = .ok (.goto 4, 3) := by decide +kernel
theorem dX2_readTape_48 : decode cX2_readTape 48 = .ok (.aconst_null, 1) := by decide +kernel
theorem dX2_readTape_49 : decode cX2_readTape 49 = .ok (.areturn, 1) := by decide +kernel
theorem dX2_readLaw_0 : decode cX2_readLaw 0 = .ok (.aload_n 0, 1) := by decide +kernel
theorem dX2_readLaw_1 : decode cX2_readLaw 1 = .ok (.bipush 116, 2) := by decide +kernel
theorem dX2_readLaw_3 : decode cX2_readLaw 3 = .ok (.invokevirtual 46, 3) := by decide +kernel
theorem dX2_readLaw_6 : decode cX2_readLaw 6 = .ok (.ifCond .ne 5, 3) := by decide +kernel
theorem dX2_readLaw_9 : decode cX2_readLaw 9 = .ok (.iconst 0, 1) := by decide +kernel
theorem dX2_readLaw_10 : decode cX2_readLaw 10 = .ok (.ireturn, 1) := by decide +kernel
theorem dX2_readLaw_11 : decode cX2_readLaw 11 = .ok (.aload_n 0, 1) := by decide +kernel
theorem dX2_readLaw_12 : decode cX2_readLaw 12 = .ok (.iconst 0, 1) := by decide +kernel
theorem dX2_readLaw_13 : decode cX2_readLaw 13 = .ok (.bipush 15, 2) := by decide +kernel
theorem dX2_readLaw_15 : decode cX2_readLaw 15 = .ok (.invokevirtual 50, 3) := by decide +kernel
theorem dX2_readLaw_18 : decode cX2_readLaw 18 = .ok (.istore_n 1, 1) := by decide +kernel
theorem dX2_readLaw_19 : decode cX2_readLaw 19 = .ok (.iload_n 1, 1) := by decide +kernel
theorem dX2_readLaw_20 : decode cX2_readLaw 20 = .ok (.iconst (-1), 1) := by decide +kernel
theorem dX2_readLaw_21 : decode cX2_readLaw 21 = .ok (.if_icmp .eq 12, 3) := by decide +kernel
theorem dX2_readLaw_24 : decode cX2_readLaw 24 = .ok (.aload_n 0, 1) := by decide +kernel
theorem dX2_readLaw_25 : decode cX2_readLaw 25 = .ok (.bipush 44, 2) := by decide +kernel
theorem dX2_readLaw_27 : decode cX2_readLaw 27 = .ok (.invokevirtual 46, 3) := by decide +kernel
theorem dX2_readLaw_30 : decode cX2_readLaw 30 = .ok (.ifCond .ne 5, 3) := by decide +kernel
theorem dX2_readLaw_33 : decode cX2_readLaw 33 = .ok (.iconst 0, 1) := by decide +kernel
theorem dX2_readLaw_34 : decode cX2_readLaw 34 = .ok (.ireturn, 1) := by decide +kernel
theorem dX2_readLaw_35 : decode cX2_readLaw 35 = .ok (.aload_n 0, 1) := by decide +kernel
theorem dX2_readLaw_36 : decode cX2_readLaw 36 = .ok (.iconst 0, 1) := by decide +kernel
theorem dX2_readLaw_37 : decode cX2_readLaw 37 = .ok (.bipush 9, 2) := by decide +kernel
theorem dX2_readLaw_39 : decode cX2_readLaw 39 = .ok (.invokevirtual 50, 3) := by decide +kernel
theorem dX2_readLaw_42 : decode cX2_readLaw 42 = .ok (.istore_n 2, 1) := by decide +kernel
theorem dX2_readLaw_43 : decode cX2_readLaw 43 = .ok (.iload_n 2, 1) := by decide +kernel
theorem dX2_readLaw_44 : decode cX2_readLaw 44 = .ok (.iconst (-1), 1) := by decide +kernel
theorem dX2_readLaw_45 : decode cX2_readLaw 45 = .ok (.if_icmp .eq 12, 3) := by decide +kernel
theorem dX2_readLaw_48 : decode cX2_readLaw 48 = .ok (.aload_n 0, 1) := by decide +kernel
theorem dX2_readLaw_49 : decode cX2_readLaw 49 = .ok (.bipush 59, 2) := by decide +kernel
theorem dX2_readLaw_51 : decode cX2_readLaw 51 = .ok (.invokevirtual 46, 3) := by decide +kernel
theorem dX2_readLaw_54 : decode cX2_readLaw 54 = .ok (.ifCond .ne 5, 3) := by decide +kernel
theorem dX2_readLaw_57 : decode cX2_readLaw 57 = .ok (.iconst 0, 1) := by decide +kernel
theorem dX2_readLaw_58 : decode cX2_readLaw 58 = .ok (.ireturn, 1) := by decide +kernel
theorem dX2_readLaw_59 : decode cX2_readLaw 59 = .ok (.aload_n 0, 1) := by decide +kernel
theorem dX2_readLaw_60 : decode cX2_readLaw 60 = .ok (.getfield 18, 3) := by decide +kernel
theorem dX2_readLaw_63 : decode cX2_readLaw 63 = .ok (.iload_n 1, 1) := by decide +kernel
theorem dX2_readLaw_64 : decode cX2_readLaw 64 = .ok (.iload_n 2, 1) := by decide +kernel
theorem dX2_readLaw_65 : decode cX2_readLaw 65 = .ok (.invokevirtual 54, 3) := by decide +kernel
theorem dX2_readLaw_68 : decode cX2_readLaw 68 = .ok (.iconst 1, 1) := by decide +kernel
theorem dX2_readLaw_69 : decode cX2_readLaw 69 = .ok (.ireturn, 1) := by decide +kernel
theorem dX2_readTreads_0 : decode cX2_readTreads 0 = .ok (.iconst 0, 1) := by decide +kernel
theorem dX2_readTreads_1 : decode cX2_readTreads 1 = .ok (.istore_n 1, 1) := by decide +kernel
theorem dX2_readTreads_2 : decode cX2_readTreads 2 = .ok (.iload_n 1, 1) := by decide +kernel
theorem dX2_readTreads_3 : decode cX2_readTreads 3 = .ok (.bipush 8, 2) := by decide +kernel
theorem dX2_readTreads_5 : decode cX2_readTreads 5 = .ok (.if_icmp .gt 94, 3) := by decide +kernel
theorem dX2_readTreads_8 : decode cX2_readTreads 8 = .ok (.aload_n 0, 1) := by decide +kernel
theorem dX2_readTreads_9 : decode cX2_readTreads 9 = .ok (.invokevirtual 58, 3) := by decide +kernel
theorem dX2_readTreads_12 : decode cX2_readTreads 12 = .ok (.invokestatic 62, 3) := by decide +kernel
theorem dX2_readTreads_15 : decode cX2_readTreads 15 = .ok (.istore_n 2, 1) := by decide +kernel
theorem dX2_readTreads_16 : decode cX2_readTreads 16 = .ok (.iload_n 2, 1) := by decide +kernel
theorem dX2_readTreads_17 : decode cX2_readTreads 17 = .ok (.ifCond .ne 21, 3) := by decide +kernel
theorem dX2_readTreads_20 : decode cX2_readTreads 20 = .ok (.iload_n 1, 1) := by decide +kernel
theorem dX2_readTreads_21 : decode cX2_readTreads 21 = .ok (.ifCond .gt 11, 3) := by decide +kernel
theorem dX2_readTreads_24 : decode cX2_readTreads 24 = .ok (.aload_n 0, 1) := by decide +kernel
theorem dX2_readTreads_25 : decode cX2_readTreads 25 = .ok (.iconst 1, 1) := by decide +kernel
theorem dX2_readTreads_26 : decode cX2_readTreads 26 = .ok (.invokevirtual 66, 3) := by decide +kernel
theorem dX2_readTreads_29 : decode cX2_readTreads 29 = .ok (.ifCond .eq 7, 3) := by decide +kernel
theorem dX2_readTreads_32 : decode cX2_readTreads 32 = .ok (.iconst 1, 1) := by decide +kernel
theorem dX2_readTreads_33 : decode cX2_readTreads 33 = .ok (.goto 4, 3) := by decide +kernel
theorem dX2_readTreads_36 : decode cX2_readTreads 36 = .ok (.iconst 0, 1) := by decide +kernel
theorem dX2_readTreads_37 : decode cX2_readTreads 37 = .ok (.ireturn, 1) := by decide +kernel
theorem dX2_readTreads_38 : decode cX2_readTreads 38 = .ok (.iload_n 1, 1) := by decide +kernel
theorem dX2_readTreads_39 : decode cX2_readTreads 39 = .ok (.bipush 8, 2) := by decide +kernel
theorem dX2_readTreads_41 : decode cX2_readTreads 41 = .ok (.if_icmp .ne 9, 3) := by decide +kernel
theorem dX2_readTreads_44 : decode cX2_readTreads 44 = .ok (.aload_n 0, 1) := by decide +kernel
theorem dX2_readTreads_45 : decode cX2_readTreads 45 = .ok (.iconst 3, 1) := by decide +kernel
theorem dX2_readTreads_46 : decode cX2_readTreads 46 = .ok (.invokevirtual 66, 3) := by decide +kernel
theorem dX2_readTreads_49 : decode cX2_readTreads 49 = .ok (.ireturn, 1) := by decide +kernel
theorem dX2_readTreads_50 : decode cX2_readTreads 50 = .ok (.aload_n 0, 1) := by decide +kernel
theorem dX2_readTreads_51 : decode cX2_readTreads 51 = .ok (.dup, 1) := by decide +kernel
theorem dX2_readTreads_52 : decode cX2_readTreads 52 = .ok (.getfield 33, 3) := by decide +kernel
theorem dX2_readTreads_55 : decode cX2_readTreads 55 = .ok (.iconst 1, 1) := by decide +kernel
theorem dX2_readTreads_56 : decode cX2_readTreads 56 = .ok (.iadd, 1) := by decide +kernel
theorem dX2_readTreads_57 : decode cX2_readTreads 57 = .ok (.putfield 33, 3) := by decide +kernel
theorem dX2_readTreads_60 : decode cX2_readTreads 60 = .ok (.aload_n 0, 1) := by decide +kernel
theorem dX2_readTreads_61 : decode cX2_readTreads 61 = .ok (.iconst 0, 1) := by decide +kernel
theorem dX2_readTreads_62 : decode cX2_readTreads 62 = .ok (.bipush 9, 2) := by decide +kernel
theorem dX2_readTreads_64 : decode cX2_readTreads 64 = .ok (.invokevirtual 50, 3) := by decide +kernel
theorem dX2_readTreads_67 : decode cX2_readTreads 67 = .ok (.istore_n 3, 1) := by decide +kernel
theorem dX2_readTreads_68 : decode cX2_readTreads 68 = .ok (.iload_n 3, 1) := by decide +kernel
theorem dX2_readTreads_69 : decode cX2_readTreads 69 = .ok (.iconst (-1), 1) := by decide +kernel
theorem dX2_readTreads_70 : decode cX2_readTreads 70 = .ok (.if_icmp .eq 12, 3) := by decide +kernel
theorem dX2_readTreads_73 : decode cX2_readTreads 73 = .ok (.aload_n 0, 1) := by decide +kernel
theorem dX2_readTreads_74 : decode cX2_readTreads 74 = .ok (.bipush 59, 2) := by decide +kernel
theorem dX2_readTreads_76 : decode cX2_readTreads 76 = .ok (.invokevirtual 46, 3) := by decide +kernel
theorem dX2_readTreads_79 : decode cX2_readTreads 79 = .ok (.ifCond .ne 5, 3) := by decide +kernel
theorem dX2_readTreads_82 : decode cX2_readTreads 82 = .ok (.iconst 0, 1) := by decide +kernel
theorem dX2_readTreads_83 : decode cX2_readTreads 83 = .ok (.ireturn, 1) := by decide +kernel
theorem dX2_readTreads_84 : decode cX2_readTreads 84 = .ok (.aload_n 0, 1) := by decide +kernel
theorem dX2_readTreads_85 : decode cX2_readTreads 85 = .ok (.getfield 18, 3) := by decide +kernel
theorem dX2_readTreads_88 : decode cX2_readTreads 88 = .ok (.iload_n 2, 1) := by decide +kernel
theorem dX2_readTreads_89 : decode cX2_readTreads 89 = .ok (.iload_n 3, 1) := by decide +kernel
theorem dX2_readTreads_90 : decode cX2_readTreads 90 = .ok (.invokevirtual 69, 3) := by decide +kernel
theorem dX2_readTreads_93 : decode cX2_readTreads 93 = .ok (.iinc 1 1, 3) := by decide +kernel
theorem dX2_readTreads_96 : decode cX2_readTreads 96 = .ok (.goto (-94), 3) := by decide +kernel
theorem dX2_readTreads_99 : decode cX2_readTreads 99 = .ok (.iconst 0, 1) := by decide +kernel
theorem dX2_readTreads_100 : decode cX2_readTreads 100 = .ok (.ireturn, 1) := by decide +kernel
theorem dX2_readWalkers_0 : decode cX2_readWalkers 0 = .ok (.iconst 0, 1) := by decide +kernel
theorem dX2_readWalkers_1 : decode cX2_readWalkers 1 = .ok (.istore_n 1, 1) := by decide +kernel
theorem dX2_readWalkers_2 : decode cX2_readWalkers 2 = .ok (.iload_n 1, 1) := by decide +kernel
theorem dX2_readWalkers_3 : decode cX2_readWalkers 3 = .ok (.iconst 5, 1) := by decide +kernel
theorem dX2_readWalkers_4 : decode cX2_readWalkers 4 = .ok (.if_icmp .gt 72, 3) := by decide +kernel
theorem dX2_readWalkers_7 : decode cX2_readWalkers 7 = .ok (.iload_n 1, 1) := by decide +kernel
theorem dX2_readWalkers_8 : decode cX2_readWalkers 8 = .ok (.ifCond .le 16, 3) := by decide +kernel
theorem dX2_readWalkers_11 : decode cX2_readWalkers 11 = .ok (.aload_n 0, 1) := by decide +kernel
theorem dX2_readWalkers_12 : decode cX2_readWalkers 12 = .ok (.getfield 33, 3) := by decide +kernel
theorem dX2_readWalkers_15 : decode cX2_readWalkers 15 = .ok (.aload_n 0, 1) := by decide +kernel
theorem dX2_readWalkers_16 : decode cX2_readWalkers 16 = .ok (.getfield 22, 3) := by decide +kernel
theorem dX2_readWalkers_19 : decode cX2_readWalkers 19 = .ok (.if_icmp .lt 5, 3) := by decide +kernel
theorem dX2_readWalkers_22 : decode cX2_readWalkers 22 = .ok (.iconst 1, 1) := by decide +kernel
theorem dX2_readWalkers_23 : decode cX2_readWalkers 23 = .ok (.ireturn, 1) := by decide +kernel
theorem dX2_readWalkers_24 : decode cX2_readWalkers 24 = .ok (.aload_n 0, 1) := by decide +kernel
theorem dX2_readWalkers_25 : decode cX2_readWalkers 25 = .ok (.invokevirtual 58, 3) := by decide +kernel
theorem dX2_readWalkers_28 : decode cX2_readWalkers 28 = .ok (.bipush 122, 2) := by decide +kernel
theorem dX2_readWalkers_30 : decode cX2_readWalkers 30 = .ok (.if_icmp .eq 9, 3) := by decide +kernel
theorem dX2_readWalkers_33 : decode cX2_readWalkers 33 = .ok (.aload_n 0, 1) := by decide +kernel
theorem dX2_readWalkers_34 : decode cX2_readWalkers 34 = .ok (.iconst 1, 1) := by decide +kernel
theorem dX2_readWalkers_35 : decode cX2_readWalkers 35 = .ok (.invokevirtual 66, 3) := by decide +kernel
theorem dX2_readWalkers_38 : decode cX2_readWalkers 38 = .ok (.ireturn, 1) := by decide +kernel
theorem dX2_readWalkers_39 : decode cX2_readWalkers 39 = .ok (.iload_n 1, 1) := by decide +kernel
theorem dX2_readWalkers_40 : decode cX2_readWalkers 40 = .ok (.iconst 5, 1) := by decide +kernel
theorem dX2_readWalkers_41 : decode cX2_readWalkers 41 = .ok (.if_icmp .ne 9, 3) := by decide +kernel
theorem dX2_readWalkers_44 : decode cX2_readWalkers 44 = .ok (.aload_n 0, 1) := by decide +kernel
theorem dX2_readWalkers_45 : decode cX2_readWalkers 45 = .ok (.iconst 3, 1) := by decide +kernel
theorem dX2_readWalkers_46 : decode cX2_readWalkers 46 = .ok (.invokevirtual 66, 3) := by decide +kernel
theorem dX2_readWalkers_49 : decode cX2_readWalkers 49 = .ok (.ireturn, 1) := by decide +kernel
theorem dX2_readWalkers_50 : decode cX2_readWalkers 50 = .ok (.aload_n 0, 1) := by decide +kernel
theorem dX2_readWalkers_51 : decode cX2_readWalkers 51 = .ok (.dup, 1) := by decide +kernel
theorem dX2_readWalkers_52 : decode cX2_readWalkers 52 = .ok (.getfield 33, 3) := by decide +kernel
theorem dX2_readWalkers_55 : decode cX2_readWalkers 55 = .ok (.iconst 1, 1) := by decide +kernel
theorem dX2_readWalkers_56 : decode cX2_readWalkers 56 = .ok (.iadd, 1) := by decide +kernel
theorem dX2_readWalkers_57 : decode cX2_readWalkers 57 = .ok (.putfield 33, 3) := by decide +kernel
theorem dX2_readWalkers_60 : decode cX2_readWalkers 60 = .ok (.aload_n 0, 1) := by decide +kernel
theorem dX2_readWalkers_61 : decode cX2_readWalkers 61 = .ok (.iload_n 1, 1) := by decide +kernel
theorem dX2_readWalkers_62 : decode cX2_readWalkers 62 = .ok (.invokevirtual 72, 3) := by decide +kernel
theorem dX2_readWalkers_65 : decode cX2_readWalkers 65 = .ok (.ifCond .ne 5, 3) := by decide +kernel
theorem dX2_readWalkers_68 : decode cX2_readWalkers 68 = .ok (.iconst 0, 1) := by decide +kernel
theorem dX2_readWalkers_69 : decode cX2_readWalkers 69 = .ok (.ireturn, 1) := by decide +kernel
theorem dX2_readWalkers_70 : decode cX2_readWalkers 70 = .ok (.iinc 1 1, 3) := by decide +kernel
theorem dX2_readWalkers_73 : decode cX2_readWalkers 73 = .ok (.goto (-71), 3) := by decide +kernel
theorem dX2_readWalkers_76 : decode cX2_readWalkers 76 = .ok (.iconst 0, 1) := by decide +kernel
theorem dX2_readWalkers_77 : decode cX2_readWalkers 77 = .ok (.ireturn, 1) := by decide +kernel
theorem dX2_readWalker_0 : decode cX2_readWalker 0 = .ok (.aload_n 0, 1) := by decide +kernel
theorem dX2_readWalker_1 : decode cX2_readWalker 1 = .ok (.getfield 18, 3) := by decide +kernel
theorem dX2_readWalker_4 : decode cX2_readWalker 4 = .ok (.invokevirtual 75, 3) := by decide +kernel
theorem dX2_readWalker_7 : decode cX2_readWalker 7 = .ok (.iconst 0, 1) := by decide +kernel
theorem dX2_readWalker_8 : decode cX2_readWalker 8 = .ok (.istore_n 2, 1) := by decide +kernel
theorem dX2_readWalker_9 : decode cX2_readWalker 9 = .ok (.iload_n 2, 1) := by decide +kernel
theorem dX2_readWalker_10 : decode cX2_readWalker 10 = .ok (.iconst 4, 1) := by decide +kernel
theorem dX2_readWalker_11 : decode cX2_readWalker 11 = .ok (.if_icmp .ge 66, 3) := by decide +kernel
theorem dX2_readWalker_14 : decode cX2_readWalker 14 = .ok (.aload_n 0, 1) := by decide +kernel
theorem dX2_readWalker_15 : decode cX2_readWalker 15 = .ok (.aload_n 0, 1) := by decide +kernel
theorem dX2_readWalker_16 : decode cX2_readWalker 16 = .ok (.getfield 18, 3) := by decide +kernel
theorem dX2_readWalker_19 : decode cX2_readWalker 19 = .ok (.iload_n 2, 1) := by decide +kernel
theorem dX2_readWalker_20 : decode cX2_readWalker 20 = .ok (.invokevirtual 78, 3) := by decide +kernel
theorem dX2_readWalker_23 : decode cX2_readWalker 23 = .ok (.aload_n 0, 1) := by decide +kernel
theorem dX2_readWalker_24 : decode cX2_readWalker 24 = .ok (.getfield 18, 3) := by decide +kernel
theorem dX2_readWalker_27 : decode cX2_readWalker 27 = .ok (.iload_n 2, 1) := by decide +kernel
theorem dX2_readWalker_28 : decode cX2_readWalker 28 = .ok (.invokevirtual 81, 3) := by decide +kernel
theorem dX2_readWalker_31 : decode cX2_readWalker 31 = .ok (.invokevirtual 50, 3) := by decide +kernel
theorem dX2_readWalker_34 : decode cX2_readWalker 34 = .ok (.istore_n 3, 1) := by decide +kernel
theorem dX2_readWalker_35 : decode cX2_readWalker 35 = .ok (.iload_n 3, 1) := by decide +kernel
theorem dX2_readWalker_36 : decode cX2_readWalker 36 = .ok (.iconst (-1), 1) := by decide +kernel
theorem dX2_readWalker_37 : decode cX2_readWalker 37 = .ok (.if_icmp .eq 22, 3) := by decide +kernel
theorem dX2_readWalker_40 : decode cX2_readWalker 40 = .ok (.aload_n 0, 1) := by decide +kernel
theorem dX2_readWalker_41 : decode cX2_readWalker 41 = .ok (.iload_n 2, 1) := by decide +kernel
theorem dX2_readWalker_42 : decode cX2_readWalker 42 = .ok (.iconst 3, 1) := by decide +kernel
theorem dX2_readWalker_43 : decode cX2_readWalker 43 = .ok (.if_icmp .ge 8, 3) := by decide +kernel
theorem dX2_readWalker_46 : decode cX2_readWalker 46 = .ok (.bipush 44, 2) := by decide +kernel
theorem dX2_readWalker_48 : decode cX2_readWalker 48 = .ok (.goto 5, 3) := by decide +kernel
theorem dX2_readWalker_51 : decode cX2_readWalker 51 = .ok (.bipush 59, 2) := by decide +kernel
theorem dX2_readWalker_53 : decode cX2_readWalker 53 = .ok (.invokevirtual 46, 3) := by decide +kernel
theorem dX2_readWalker_56 : decode cX2_readWalker 56 = .ok (.ifCond .ne 5, 3) := by decide +kernel
theorem dX2_readWalker_59 : decode cX2_readWalker 59 = .ok (.iconst 0, 1) := by decide +kernel
theorem dX2_readWalker_60 : decode cX2_readWalker 60 = .ok (.ireturn, 1) := by decide +kernel
theorem dX2_readWalker_61 : decode cX2_readWalker 61 = .ok (.aload_n 0, 1) := by decide +kernel
theorem dX2_readWalker_62 : decode cX2_readWalker 62 = .ok (.getfield 18, 3) := by decide +kernel
theorem dX2_readWalker_65 : decode cX2_readWalker 65 = .ok (.iload_n 1, 1) := by decide +kernel
theorem dX2_readWalker_66 : decode cX2_readWalker 66 = .ok (.iload_n 2, 1) := by decide +kernel
theorem dX2_readWalker_67 : decode cX2_readWalker 67 = .ok (.iload_n 3, 1) := by decide +kernel
theorem dX2_readWalker_68 : decode cX2_readWalker 68 = .ok (.invokevirtual 84, 3) := by decide +kernel
theorem dX2_readWalker_71 : decode cX2_readWalker 71 = .ok (.iinc 2 1, 3) := by decide +kernel
theorem dX2_readWalker_74 : decode cX2_readWalker 74 = .ok (.goto (-65), 3) := by decide +kernel
theorem dX2_readWalker_77 : decode cX2_readWalker 77 = .ok (.iconst 1, 1) := by decide +kernel
theorem dX2_readWalker_78 : decode cX2_readWalker 78 = .ok (.ireturn, 1) := by decide +kernel
theorem dX2_kindOfSort_0 : decode cX2_kindOfSort 0 = .ok (.iload_n 0, 1) := by decide +kernel
theorem dX2_kindOfSort_1 : decode cX2_kindOfSort 1 = .ok (.tableswitch 81 102 115 #[79, 81, 81, 81, 81, 81, 75, 81, 81, 81, 71, 81, 77, 73], 71) := by decide +kernel
theorem dX2_kindOfSort_72 : decode cX2_kindOfSort 72 = .ok (.iconst 1, 1) := by decide +kernel
theorem dX2_kindOfSort_73 : decode cX2_kindOfSort 73 = .ok (.ireturn, 1) := by decide +kernel
theorem dX2_kindOfSort_74 : decode cX2_kindOfSort 74 = .ok (.iconst 2, 1) := by decide +kernel
theorem dX2_kindOfSort_75 : decode cX2_kindOfSort 75 = .ok (.ireturn, 1) := by decide +kernel
theorem dX2_kindOfSort_76 : decode cX2_kindOfSort 76 = .ok (.iconst 3, 1) := by decide +kernel
theorem dX2_kindOfSort_77 : decode cX2_kindOfSort 77 = .ok (.ireturn, 1) := by decide +kernel
theorem dX2_kindOfSort_78 : decode cX2_kindOfSort 78 = .ok (.iconst 4, 1) := by decide +kernel
theorem dX2_kindOfSort_79 : decode cX2_kindOfSort 79 = .ok (.ireturn, 1) := by decide +kernel
theorem dX2_kindOfSort_80 : decode cX2_kindOfSort 80 = .ok (.iconst 5, 1) := by decide +kernel
theorem dX2_kindOfSort_81 : decode cX2_kindOfSort 81 = .ok (.ireturn, 1) := by decide +kernel
theorem dX2_kindOfSort_82 : decode cX2_kindOfSort 82 = .ok (.iconst 0, 1) := by decide +kernel
theorem dX2_kindOfSort_83 : decode cX2_kindOfSort 83 = .ok (.ireturn, 1) := by decide +kernel
theorem dX2_readSign_0 : decode cX2_readSign 0 = .ok (.aload_n 0, 1) := by decide +kernel
theorem dX2_readSign_1 : decode cX2_readSign 1 = .ok (.invokevirtual 58, 3) := by decide +kernel
theorem dX2_readSign_4 : decode cX2_readSign 4 = .ok (.iload_n 1, 1) := by decide +kernel
theorem dX2_readSign_5 : decode cX2_readSign 5 = .ok (.if_icmp .eq 9, 3) := by decide +kernel
theorem dX2_readSign_8 : decode cX2_readSign 8 = .ok (.aload_n 0, 1) := by decide +kernel
theorem dX2_readSign_9 : decode cX2_readSign 9 = .ok (.iconst 1, 1) := by decide +kernel
theorem dX2_readSign_10 : decode cX2_readSign 10 = .ok (.invokevirtual 66, 3) := by decide +kernel
theorem dX2_readSign_13 : decode cX2_readSign 13 = .ok (.ireturn, 1) := by decide +kernel
theorem dX2_readSign_14 : decode cX2_readSign 14 = .ok (.aload_n 0, 1) := by decide +kernel
theorem dX2_readSign_15 : decode cX2_readSign 15 = .ok (.dup, 1) := by decide +kernel
theorem dX2_readSign_16 : decode cX2_readSign 16 = .ok (.getfield 33, 3) := by decide +kernel
theorem dX2_readSign_19 : decode cX2_readSign 19 = .ok (.iconst 1, 1) := by decide +kernel
theorem dX2_readSign_20 : decode cX2_readSign 20 = .ok (.iadd, 1) := by decide +kernel
theorem dX2_readSign_21 : decode cX2_readSign 21 = .ok (.putfield 33, 3) := by decide +kernel
theorem dX2_readSign_24 : decode cX2_readSign 24 = .ok (.iconst 1, 1) := by decide +kernel
theorem dX2_readSign_25 : decode cX2_readSign 25 = .ok (.ireturn, 1) := by decide +kernel
theorem dX2_readNumber_0 : decode cX2_readNumber 0 = .ok (.iconst 0, 1) := by decide +kernel
theorem dX2_readNumber_1 : decode cX2_readNumber 1 = .ok (.istore_n 3, 1) := by decide +kernel
theorem dX2_readNumber_2 : decode cX2_readNumber 2 = .ok (.iconst 0, 1) := by decide +kernel
theorem dX2_readNumber_3 : decode cX2_readNumber 3 = .ok (.istore 4, 2) := by decide +kernel
theorem dX2_readNumber_5 : decode cX2_readNumber 5 = .ok (.aload_n 0, 1) := by decide +kernel
theorem dX2_readNumber_6 : decode cX2_readNumber 6 = .ok (.getfield 33, 3) := by decide +kernel
theorem dX2_readNumber_9 : decode cX2_readNumber 9 = .ok (.istore 5, 2) := by decide +kernel
theorem dX2_readNumber_11 : decode cX2_readNumber 11 = .ok (.iload 5, 2) := by decide +kernel
theorem dX2_readNumber_13 : decode cX2_readNumber 13 = .ok (.aload_n 0, 1) := by decide +kernel
theorem dX2_readNumber_14 : decode cX2_readNumber 14 = .ok (.getfield 22, 3) := by decide +kernel
theorem dX2_readNumber_17 : decode cX2_readNumber 17 = .ok (.if_icmp .ge 69, 3) := by decide +kernel
theorem dX2_readNumber_20 : decode cX2_readNumber 20 = .ok (.iload 5, 2) := by decide +kernel
theorem dX2_readNumber_22 : decode cX2_readNumber 22 = .ok (.bipush 100, 2) := by decide +kernel
theorem dX2_readNumber_24 : decode cX2_readNumber 24 = .ok (.if_icmp .ge 62, 3) := by decide +kernel
theorem dX2_readNumber_27 : decode cX2_readNumber 27 = .ok (.iload_n 3, 1) := by decide +kernel
theorem dX2_readNumber_28 : decode cX2_readNumber 28 = .ok (.iconst 3, 1) := by decide +kernel
theorem dX2_readNumber_29 : decode cX2_readNumber 29 = .ok (.if_icmp .ge 57, 3) := by decide +kernel
theorem dX2_readNumber_32 : decode cX2_readNumber 32 = .ok (.aload_n 0, 1) := by decide +kernel
theorem dX2_readNumber_33 : decode cX2_readNumber 33 = .ok (.getfield 11, 3) := by decide +kernel
theorem dX2_readNumber_36 : decode cX2_readNumber 36 = .ok (.iload 5, 2) := by decide +kernel
theorem dX2_readNumber_38 : decode cX2_readNumber 38 = .ok (.iaload, 1) := by decide +kernel
theorem dX2_readNumber_39 : decode cX2_readNumber 39 = .ok (.bipush 48, 2) := by decide +kernel
theorem dX2_readNumber_41 : decode cX2_readNumber 41 = .ok (.if_icmp .lt 45, 3) := by decide +kernel
theorem dX2_readNumber_44 : decode cX2_readNumber 44 = .ok (.aload_n 0, 1) := by decide +kernel
theorem dX2_readNumber_45 : decode cX2_readNumber 45 = .ok (.getfield 11, 3) := by decide +kernel
theorem dX2_readNumber_48 : decode cX2_readNumber 48 = .ok (.iload 5, 2) := by decide +kernel
theorem dX2_readNumber_50 : decode cX2_readNumber 50 = .ok (.iaload, 1) := by decide +kernel
theorem dX2_readNumber_51 : decode cX2_readNumber 51 = .ok (.bipush 57, 2) := by decide +kernel
theorem dX2_readNumber_53 : decode cX2_readNumber 53 = .ok (.if_icmp .le 6, 3) := by decide +kernel
theorem dX2_readNumber_56 : decode cX2_readNumber 56 = .ok (.goto 30, 3) := by decide +kernel
theorem dX2_readNumber_59 : decode cX2_readNumber 59 = .ok (.iload 4, 2) := by decide +kernel
theorem dX2_readNumber_61 : decode cX2_readNumber 61 = .ok (.bipush 10, 2) := by decide +kernel
theorem dX2_readNumber_63 : decode cX2_readNumber 63 = .ok (.imul, 1) := by decide +kernel
theorem dX2_readNumber_64 : decode cX2_readNumber 64 = .ok (.aload_n 0, 1) := by decide +kernel
theorem dX2_readNumber_65 : decode cX2_readNumber 65 = .ok (.getfield 11, 3) := by decide +kernel
theorem dX2_readNumber_68 : decode cX2_readNumber 68 = .ok (.iload 5, 2) := by decide +kernel
theorem dX2_readNumber_70 : decode cX2_readNumber 70 = .ok (.iaload, 1) := by decide +kernel
theorem dX2_readNumber_71 : decode cX2_readNumber 71 = .ok (.iadd, 1) := by decide +kernel
theorem dX2_readNumber_72 : decode cX2_readNumber 72 = .ok (.bipush 48, 2) := by decide +kernel
theorem dX2_readNumber_74 : decode cX2_readNumber 74 = .ok (.isub, 1) := by decide +kernel
theorem dX2_readNumber_75 : decode cX2_readNumber 75 = .ok (.istore 4, 2) := by decide +kernel
theorem dX2_readNumber_77 : decode cX2_readNumber 77 = .ok (.iinc 3 1, 3) := by decide +kernel
theorem dX2_readNumber_80 : decode cX2_readNumber 80 = .ok (.iinc 5 1, 3) := by decide +kernel
theorem dX2_readNumber_83 : decode cX2_readNumber 83 = .ok (.goto (-72), 3) := by decide +kernel
theorem dX2_readNumber_86 : decode cX2_readNumber 86 = .ok (.iload_n 3, 1) := by decide +kernel
theorem dX2_readNumber_87 : decode cX2_readNumber 87 = .ok (.iconst 1, 1) := by decide +kernel
theorem dX2_readNumber_88 : decode cX2_readNumber 88 = .ok (.if_icmp .lt 8, 3) := by decide +kernel
theorem dX2_readNumber_91 : decode cX2_readNumber 91 = .ok (.iload_n 3, 1) := by decide +kernel
theorem dX2_readNumber_92 : decode cX2_readNumber 92 = .ok (.iconst 2, 1) := by decide +kernel
theorem dX2_readNumber_93 : decode cX2_readNumber 93 = .ok (.if_icmp .le 11, 3) := by decide +kernel
theorem dX2_readNumber_96 : decode cX2_readNumber 96 = .ok (.aload_n 0, 1) := by decide +kernel
theorem dX2_readNumber_97 : decode cX2_readNumber 97 = .ok (.iconst 1, 1) := by decide +kernel
theorem dX2_readNumber_98 : decode cX2_readNumber 98 = .ok (.invokevirtual 66, 3) := by decide +kernel
theorem dX2_readNumber_101 : decode cX2_readNumber 101 = .ok (.pop, 1) := by decide +kernel
theorem dX2_readNumber_102 : decode cX2_readNumber 102 = .ok (.iconst (-1), 1) := by decide +kernel
theorem dX2_readNumber_103 : decode cX2_readNumber 103 = .ok (.ireturn, 1) := by decide +kernel
theorem dX2_readNumber_104 : decode cX2_readNumber 104 = .ok (.iload 4, 2) := by decide +kernel
theorem dX2_readNumber_106 : decode cX2_readNumber 106 = .ok (.iload_n 1, 1) := by decide +kernel
theorem dX2_readNumber_107 : decode cX2_readNumber 107 = .ok (.if_icmp .lt 9, 3) := by decide +kernel
theorem dX2_readNumber_110 : decode cX2_readNumber 110 = .ok (.iload 4, 2) := by decide +kernel
theorem dX2_readNumber_112 : decode cX2_readNumber 112 = .ok (.iload_n 2, 1) := by decide +kernel
theorem dX2_readNumber_113 : decode cX2_readNumber 113 = .ok (.if_icmp .le 11, 3) := by decide +kernel
theorem dX2_readNumber_116 : decode cX2_readNumber 116 = .ok (.aload_n 0, 1) := by decide +kernel
theorem dX2_readNumber_117 : decode cX2_readNumber 117 = .ok (.iconst 2, 1) := by decide +kernel
theorem dX2_readNumber_118 : decode cX2_readNumber 118 = .ok (.invokevirtual 66, 3) := by decide +kernel
theorem dX2_readNumber_121 : decode cX2_readNumber 121 = .ok (.pop, 1) := by decide +kernel
theorem dX2_readNumber_122 : decode cX2_readNumber 122 = .ok (.iconst (-1), 1) := by decide +kernel
theorem dX2_readNumber_123 : decode cX2_readNumber 123 = .ok (.ireturn, 1) := by decide +kernel
theorem dX2_readNumber_124 : decode cX2_readNumber 124 = .ok (.aload_n 0, 1) := by decide +kernel
theorem dX2_readNumber_125 : decode cX2_readNumber 125 = .ok (.dup, 1) := by decide +kernel
theorem dX2_readNumber_126 : decode cX2_readNumber 126 = .ok (.getfield 33, 3) := by decide +kernel
theorem dX2_readNumber_129 : decode cX2_readNumber 129 = .ok (.iload_n 3, 1) := by decide +kernel
theorem dX2_readNumber_130 : decode cX2_readNumber 130 = .ok (.iadd, 1) := by decide +kernel
theorem dX2_readNumber_131 : decode cX2_readNumber 131 = .ok (.putfield 33, 3) := by decide +kernel
theorem dX2_readNumber_134 : decode cX2_readNumber 134 = .ok (.iload 4, 2) := by decide +kernel
theorem dX2_readNumber_136 : decode cX2_readNumber 136 = .ok (.ireturn, 1) := by decide +kernel
theorem dX2_letter_0 : decode cX2_letter 0 = .ok (.aload_n 0, 1) := by decide +kernel
theorem dX2_letter_1 : decode cX2_letter 1 = .ok (.getfield 33, 3) := by decide +kernel
theorem dX2_letter_4 : decode cX2_letter 4 = .ok (.ifCond .lt 35, 3) := by decide +kernel
theorem dX2_letter_7 : decode cX2_letter 7 = .ok (.aload_n 0, 1) := by decide +kernel
theorem dX2_letter_8 : decode cX2_letter 8 = .ok (.getfield 33, 3) := by decide +kernel
theorem dX2_letter_11 : decode cX2_letter 11 = .ok (.aload_n 0, 1) := by decide +kernel
theorem dX2_letter_12 : decode cX2_letter 12 = .ok (.getfield 22, 3) := by decide +kernel
theorem dX2_letter_15 : decode cX2_letter 15 = .ok (.if_icmp .ge 24, 3) := by decide +kernel
theorem dX2_letter_18 : decode cX2_letter 18 = .ok (.aload_n 0, 1) := by decide +kernel
theorem dX2_letter_19 : decode cX2_letter 19 = .ok (.getfield 33, 3) := by decide +kernel
theorem dX2_letter_22 : decode cX2_letter 22 = .ok (.bipush 100, 2) := by decide +kernel
theorem dX2_letter_24 : decode cX2_letter 24 = .ok (.if_icmp .ge 15, 3) := by decide +kernel
theorem dX2_letter_27 : decode cX2_letter 27 = .ok (.aload_n 0, 1) := by decide +kernel
theorem dX2_letter_28 : decode cX2_letter 28 = .ok (.getfield 11, 3) := by decide +kernel
theorem dX2_letter_31 : decode cX2_letter 31 = .ok (.aload_n 0, 1) := by decide +kernel
theorem dX2_letter_32 : decode cX2_letter 32 = .ok (.getfield 33, 3) := by decide +kernel
theorem dX2_letter_35 : decode cX2_letter 35 = .ok (.iaload, 1) := by decide +kernel
theorem dX2_letter_36 : decode cX2_letter 36 = .ok (.goto 5, 3) := by decide +kernel
theorem dX2_letter_39 : decode cX2_letter 39 = .ok (.ldc 88, 2) := by decide +kernel
theorem dX2_letter_41 : decode cX2_letter 41 = .ok (.ireturn, 1) := by decide +kernel
theorem dX2_fail_0 : decode cX2_fail 0 = .ok (.aload_n 0, 1) := by decide +kernel
theorem dX2_fail_1 : decode cX2_fail 1 = .ok (.iload_n 1, 1) := by decide +kernel
theorem dX2_fail_2 : decode cX2_fail 2 = .ok (.putfield 27, 3) := by decide +kernel
theorem dX2_fail_5 : decode cX2_fail 5 = .ok (.aload_n 0, 1) := by decide +kernel
theorem dX2_fail_6 : decode cX2_fail 6 = .ok (.aload_n 0, 1) := by decide +kernel
theorem dX2_fail_7 : decode cX2_fail 7 = .ok (.getfield 33, 3) := by decide +kernel
theorem dX2_fail_10 : decode cX2_fail 10 = .ok (.putfield 30, 3) := by decide +kernel
theorem dX2_fail_13 : decode cX2_fail 13 = .ok (.iconst 0, 1) := by decide +kernel
theorem dX2_fail_14 : decode cX2_fail 14 = .ok (.ireturn, 1) := by decide +kernel
theorem dX3_init_0 : decode cX3_init 0 = .ok (.aload_n 0, 1) := by decide +kernel
theorem dX3_init_1 : decode cX3_init 1 = .ok (.invokespecial 3, 3) := by decide +kernel
theorem dX3_init_4 : decode cX3_init 4 = .ok (.aload_n 0, 1) := by decide +kernel
theorem dX3_init_5 : decode cX3_init 5 = .ok (.new 9, 3) := by decide +kernel
theorem dX3_init_8 : decode cX3_init 8 = .ok (.dup, 1) := by decide +kernel
theorem dX3_init_9 : decode cX3_init 9 = .ok (.invokespecial 11, 3) := by decide +kernel
theorem dX3_init_12 : decode cX3_init 12 = .ok (.putfield 12, 3) := by decide +kernel
theorem dX3_init_15 : decode cX3_init 15 = .ok (.aload_n 0, 1) := by decide +kernel
theorem dX3_init_16 : decode cX3_init 16 = .ok (.bipush 12, 2) := by decide +kernel
theorem dX3_init_18 : decode cX3_init 18 = .ok (.newarray .int, 2) := by decide +kernel
theorem dX3_init_20 : decode cX3_init 20 = .ok (.putfield 18, 3) := by decide +kernel
theorem dX3_init_23 : decode cX3_init 23 = .ok (.aload_n 0, 1) := by decide +kernel
theorem dX3_init_24 : decode cX3_init 24 = .ok (.iconst 5, 1) := by decide +kernel
theorem dX3_init_25 : decode cX3_init 25 = .ok (.newarray .int, 2) := by decide +kernel
theorem dX3_init_27 : decode cX3_init 27 = .ok (.putfield 22, 3) := by decide +kernel
theorem dX3_init_30 : decode cX3_init 30 = .ok (.aload_n 0, 1) := by decide +kernel
theorem dX3_init_31 : decode cX3_init 31 = .ok (.iconst 5, 1) := by decide +kernel
theorem dX3_init_32 : decode cX3_init 32 = .ok (.newarray .long, 2) := by decide +kernel
theorem dX3_init_34 : decode cX3_init 34 = .ok (.putfield 25, 3) := by decide +kernel
theorem dX3_init_37 : decode cX3_init 37 = .ok (.return_, 1) := by decide +kernel
theorem dX3_lookAt_0 : decode cX3_lookAt 0 = .ok (.aload_n 0, 1) := by decide +kernel
theorem dX3_lookAt_1 : decode cX3_lookAt 1 = .ok (.getfield 12, 3) := by decide +kernel
theorem dX3_lookAt_4 : decode cX3_lookAt 4 = .ok (.aload_n 1, 1) := by decide +kernel
theorem dX3_lookAt_5 : decode cX3_lookAt 5 = .ok (.invokevirtual 29, 3) := by decide +kernel
theorem dX3_lookAt_8 : decode cX3_lookAt 8 = .ok (.aload_n 0, 1) := by decide +kernel
theorem dX3_lookAt_9 : decode cX3_lookAt 9 = .ok (.iconst 0, 1) := by decide +kernel
theorem dX3_lookAt_10 : decode cX3_lookAt 10 = .ok (.putfield 33, 3) := by decide +kernel
theorem dX3_lookAt_13 : decode cX3_lookAt 13 = .ok (.return_, 1) := by decide +kernel
theorem dX3_hearFrom_0 : decode cX3_hearFrom 0 = .ok (.aload_n 0, 1) := by decide +kernel
theorem dX3_hearFrom_1 : decode cX3_hearFrom 1 = .ok (.getfield 33, 3) := by decide +kernel
theorem dX3_hearFrom_4 : decode cX3_hearFrom 4 = .ok (.ifCond .lt 32, 3) := by decide +kernel
theorem dX3_hearFrom_7 : decode cX3_hearFrom 7 = .ok (.aload_n 0, 1) := by decide +kernel
theorem dX3_hearFrom_8 : decode cX3_hearFrom 8 = .ok (.getfield 33, 3) := by decide +kernel
theorem dX3_hearFrom_11 : decode cX3_hearFrom 11 = .ok (.bipush 12, 2) := by decide +kernel
theorem dX3_hearFrom_13 : decode cX3_hearFrom 13 = .ok (.if_icmp .ge 23, 3) := by decide +kernel
theorem dX3_hearFrom_16 : decode cX3_hearFrom 16 = .ok (.aload_n 0, 1) := by decide +kernel
theorem dX3_hearFrom_17 : decode cX3_hearFrom 17 = .ok (.getfield 18, 3) := by decide +kernel
theorem dX3_hearFrom_20 : decode cX3_hearFrom 20 = .ok (.aload_n 0, 1) := by decide +kernel
theorem dX3_hearFrom_21 : decode cX3_hearFrom 21 = .ok (.getfield 33, 3) := by decide +kernel
theorem dX3_hearFrom_24 : decode cX3_hearFrom 24 = .ok (.iload_n 1, 1) := by decide +kernel
theorem dX3_hearFrom_25 : decode cX3_hearFrom 25 = .ok (.iastore, 1) := by decide +kernel
theorem dX3_hearFrom_26 : decode cX3_hearFrom 26 = .ok (.aload_n 0, 1) := by decide +kernel
theorem dX3_hearFrom_27 : decode cX3_hearFrom 27 = .ok (.dup, 1) := by decide +kernel
theorem dX3_hearFrom_28 : decode cX3_hearFrom 28 = .ok (.getfield 33, 3) := by decide +kernel
theorem dX3_hearFrom_31 : decode cX3_hearFrom 31 = .ok (.iconst 1, 1) := by decide +kernel
theorem dX3_hearFrom_32 : decode cX3_hearFrom 32 = .ok (.iadd, 1) := by decide +kernel
theorem dX3_hearFrom_33 : decode cX3_hearFrom 33 = .ok (.putfield 33, 3) := by decide +kernel
theorem dX3_hearFrom_36 : decode cX3_hearFrom 36 = .ok (.return_, 1) := by decide +kernel
theorem dX3_treadIn_0 : decode cX3_treadIn 0 = .ok (.iconst 0, 1) := by decide +kernel
theorem dX3_treadIn_1 : decode cX3_treadIn 1 = .ok (.istore 4, 2) := by decide +kernel
theorem dX3_treadIn_3 : decode cX3_treadIn 3 = .ok (.iload 4, 2) := by decide +kernel
theorem dX3_treadIn_5 : decode cX3_treadIn 5 = .ok (.iload_n 2, 1) := by decide +kernel
theorem dX3_treadIn_6 : decode cX3_treadIn 6 = .ok (.if_icmp .ge 16, 3) := by decide +kernel
theorem dX3_treadIn_9 : decode cX3_treadIn 9 = .ok (.aload_n 0, 1) := by decide +kernel
theorem dX3_treadIn_10 : decode cX3_treadIn 10 = .ok (.getfield 12, 3) := by decide +kernel
theorem dX3_treadIn_13 : decode cX3_treadIn 13 = .ok (.invokevirtual 37, 3) := by decide +kernel
theorem dX3_treadIn_16 : decode cX3_treadIn 16 = .ok (.iinc 4 1, 3) := by decide +kernel
theorem dX3_treadIn_19 : decode cX3_treadIn 19 = .ok (.goto (-16), 3) := by decide +kernel
theorem dX3_treadIn_22 : decode cX3_treadIn 22 = .ok (.iload_n 3, 1) := by decide +kernel
theorem dX3_treadIn_23 : decode cX3_treadIn 23 = .ok (.ifCond .ne 14, 3) := by decide +kernel
theorem dX3_treadIn_26 : decode cX3_treadIn 26 = .ok (.aload_n 0, 1) := by decide +kernel
theorem dX3_treadIn_27 : decode cX3_treadIn 27 = .ok (.getfield 12, 3) := by decide +kernel
theorem dX3_treadIn_30 : decode cX3_treadIn 30 = .ok (.iload_n 1, 1) := by decide +kernel
theorem dX3_treadIn_31 : decode cX3_treadIn 31 = .ok (.invokevirtual 40, 3) := by decide +kernel
theorem dX3_treadIn_34 : decode cX3_treadIn 34 = .ok (.goto 11, 3) := by decide +kernel
theorem dX3_treadIn_37 : decode cX3_treadIn 37 = .ok (.aload_n 0, 1) := by decide +kernel
theorem dX3_treadIn_38 : decode cX3_treadIn 38 = .ok (.getfield 12, 3) := by decide +kernel
theorem dX3_treadIn_41 : decode cX3_treadIn 41 = .ok (.iload_n 1, 1) := by decide +kernel
theorem dX3_treadIn_42 : decode cX3_treadIn 42 = .ok (.invokevirtual 44, 3) := by decide +kernel
theorem dX3_treadIn_45 : decode cX3_treadIn 45 = .ok (.ireturn, 1) := by decide +kernel
theorem dX3_meetingOf_0 : decode cX3_meetingOf 0 = .ok (.ldc 47, 2) := by decide +kernel
theorem dX3_meetingOf_2 : decode cX3_meetingOf 2 = .ok (.istore_n 3, 1) := by decide +kernel
theorem dX3_meetingOf_3 : decode cX3_meetingOf 3 = .ok (.ldc 47, 2) := by decide +kernel
theorem dX3_meetingOf_5 : decode cX3_meetingOf 5 = .ok (.istore 4, 2) := by decide +kernel
theorem dX3_meetingOf_7 : decode cX3_meetingOf 7 = .ok (.iconst 0, 1) := by decide +kernel
theorem dX3_meetingOf_8 : decode cX3_meetingOf 8 = .ok (.istore 5, 2) := by decide +kernel
theorem dX3_meetingOf_10 : decode cX3_meetingOf 10 = .ok (.iload 5, 2) := by decide +kernel
theorem dX3_meetingOf_12 : decode cX3_meetingOf 12 = .ok (.bipush 30, 2) := by decide +kernel
theorem dX3_meetingOf_14 : decode cX3_meetingOf 14 = .ok (.if_icmp .ge 89, 3) := by decide +kernel
theorem dX3_meetingOf_17 : decode cX3_meetingOf 17 = .ok (.aload_n 0, 1) := by decide +kernel
theorem dX3_meetingOf_18 : decode cX3_meetingOf 18 = .ok (.getfield 12, 3) := by decide +kernel
theorem dX3_meetingOf_21 : decode cX3_meetingOf 21 = .ok (.iload_n 1, 1) := by decide +kernel
theorem dX3_meetingOf_22 : decode cX3_meetingOf 22 = .ok (.iload 5, 2) := by decide +kernel
theorem dX3_meetingOf_24 : decode cX3_meetingOf 24 = .ok (.invokevirtual 48, 3) := by decide +kernel
theorem dX3_meetingOf_27 : decode cX3_meetingOf 27 = .ok (.istore 6, 2) := by decide +kernel
theorem dX3_meetingOf_29 : decode cX3_meetingOf 29 = .ok (.aload_n 0, 1) := by decide +kernel
theorem dX3_meetingOf_30 : decode cX3_meetingOf 30 = .ok (.getfield 12, 3) := by decide +kernel
theorem dX3_meetingOf_33 : decode cX3_meetingOf 33 = .ok (.iload_n 2, 1) := by decide +kernel
theorem dX3_meetingOf_34 : decode cX3_meetingOf 34 = .ok (.iload 5, 2) := by decide +kernel
theorem dX3_meetingOf_36 : decode cX3_meetingOf 36 = .ok (.invokevirtual 48, 3) := by decide +kernel
theorem dX3_meetingOf_39 : decode cX3_meetingOf 39 = .ok (.istore 7, 2) := by decide +kernel
theorem dX3_meetingOf_41 : decode cX3_meetingOf 41 = .ok (.iload 6, 2) := by decide +kernel
theorem dX3_meetingOf_43 : decode cX3_meetingOf 43 = .ok (.ldc 47, 2) := by decide +kernel
theorem dX3_meetingOf_45 : decode cX3_meetingOf 45 = .ok (.if_icmp .eq 14, 3) := by decide +kernel
theorem dX3_meetingOf_48 : decode cX3_meetingOf 48 = .ok (.iload 7, 2) := by decide +kernel
theorem dX3_meetingOf_50 : decode cX3_meetingOf 50 = .ok (.ldc 47, 2) := by decide +kernel
theorem dX3_meetingOf_52 : decode cX3_meetingOf 52 = .ok (.if_icmp .eq 7, 3) := by decide +kernel
theorem dX3_meetingOf_55 : decode cX3_meetingOf 55 = .ok (.iconst 1, 1) := by decide +kernel
theorem dX3_meetingOf_56 : decode cX3_meetingOf 56 = .ok (.goto 4, 3) := by decide +kernel
theorem dX3_meetingOf_59 : decode cX3_meetingOf 59 = .ok (.iconst 0, 1) := by decide +kernel
theorem dX3_meetingOf_60 : decode cX3_meetingOf 60 = .ok (.istore 8, 2) := by decide +kernel
theorem dX3_meetingOf_62 : decode cX3_meetingOf 62 = .ok (.iload 8, 2) := by decide +kernel
theorem dX3_meetingOf_64 : decode cX3_meetingOf 64 = .ok (.ifCond .eq 26, 3) := by decide +kernel
theorem dX3_meetingOf_67 : decode cX3_meetingOf 67 = .ok (.iload 6, 2) := by decide +kernel
theorem dX3_meetingOf_69 : decode cX3_meetingOf 69 = .ok (.iload 7, 2) := by decide +kernel
theorem dX3_meetingOf_71 : decode cX3_meetingOf 71 = .ok (.if_icmp .eq 16, 3) := by decide +kernel
theorem dX3_meetingOf_74 : decode cX3_meetingOf 74 = .ok (.iload 6, 2) := by decide +kernel
theorem dX3_meetingOf_76 : decode cX3_meetingOf 76 = .ok (.iload 4, 2) := by decide +kernel
theorem dX3_meetingOf_78 : decode cX3_meetingOf 78 = .ok (.if_icmp .ne 12, 3) := by decide +kernel
theorem dX3_meetingOf_81 : decode cX3_meetingOf 81 = .ok (.iload 7, 2) := by decide +kernel
theorem dX3_meetingOf_83 : decode cX3_meetingOf 83 = .ok (.iload_n 3, 1) := by decide +kernel
theorem dX3_meetingOf_84 : decode cX3_meetingOf 84 = .ok (.if_icmp .ne 6, 3) := by decide +kernel
theorem dX3_meetingOf_87 : decode cX3_meetingOf 87 = .ok (.iload 5, 2) := by decide +kernel
theorem dX3_meetingOf_89 : decode cX3_meetingOf 89 = .ok (.ireturn, 1) := by decide +kernel
theorem dX3_meetingOf_90 : decode cX3_meetingOf 90 = .ok (.iload 6, 2) := by decide +kernel
theorem dX3_meetingOf_92 : decode cX3_meetingOf 92 = .ok (.istore_n 3, 1) := by decide +kernel
theorem dX3_meetingOf_93 : decode cX3_meetingOf 93 = .ok (.iload 7, 2) := by decide +kernel
theorem dX3_meetingOf_95 : decode cX3_meetingOf 95 = .ok (.istore 4, 2) := by decide +kernel
theorem dX3_meetingOf_97 : decode cX3_meetingOf 97 = .ok (.iinc 5 1, 3) := by decide +kernel
theorem dX3_meetingOf_100 : decode cX3_meetingOf 100 = .ok (.goto (-90), 3) := by decide +kernel
theorem dX3_meetingOf_103 : decode cX3_meetingOf 103 = .ok (.ldc 47, 2) := by decide +kernel
theorem dX3_meetingOf_105 : decode cX3_meetingOf 105 = .ok (.ireturn, 1) := by decide +kernel
theorem dX3_fullestMinute_0 : decode cX3_fullestMinute 0 = .ok (.iconst 0, 1) := by decide +kernel
theorem dX3_fullestMinute_1 : decode cX3_fullestMinute 1 = .ok (.istore_n 2, 1) := by decide +kernel
theorem dX3_fullestMinute_2 : decode cX3_fullestMinute 2 = .ok (.iconst 0, 1) := by decide +kernel
theorem dX3_fullestMinute_3 : decode cX3_fullestMinute 3 = .ok (.istore_n 3, 1) := by decide +kernel
theorem dX3_fullestMinute_4 : decode cX3_fullestMinute 4 = .ok (.iconst 0, 1) := by decide +kernel
theorem dX3_fullestMinute_5 : decode cX3_fullestMinute 5 = .ok (.istore 4, 2) := by decide +kernel
theorem dX3_fullestMinute_7 : decode cX3_fullestMinute 7 = .ok (.iload 4, 2) := by decide +kernel
theorem dX3_fullestMinute_9 : decode cX3_fullestMinute 9 = .ok (.bipush 30, 2) := by decide +kernel
theorem dX3_fullestMinute_11 : decode cX3_fullestMinute 11 = .ok (.if_icmp .ge 38, 3) := by decide +kernel
theorem dX3_fullestMinute_14 : decode cX3_fullestMinute 14 = .ok (.aload_n 0, 1) := by decide +kernel
theorem dX3_fullestMinute_15 : decode cX3_fullestMinute 15 = .ok (.getfield 12, 3) := by decide +kernel
theorem dX3_fullestMinute_18 : decode cX3_fullestMinute 18 = .ok (.iload 4, 2) := by decide +kernel
theorem dX3_fullestMinute_20 : decode cX3_fullestMinute 20 = .ok (.iconst 0, 1) := by decide +kernel
theorem dX3_fullestMinute_21 : decode cX3_fullestMinute 21 = .ok (.bipush 8, 2) := by decide +kernel
theorem dX3_fullestMinute_23 : decode cX3_fullestMinute 23 = .ok (.invokevirtual 52, 3) := by decide +kernel
theorem dX3_fullestMinute_26 : decode cX3_fullestMinute 26 = .ok (.invokestatic 56, 3) := by decide +kernel
theorem dX3_fullestMinute_29 : decode cX3_fullestMinute 29 = .ok (.istore 5, 2) := by decide +kernel
theorem dX3_fullestMinute_31 : decode cX3_fullestMinute 31 = .ok (.iload 5, 2) := by decide +kernel
theorem dX3_fullestMinute_33 : decode cX3_fullestMinute 33 = .ok (.iload_n 3, 1) := by decide +kernel
theorem dX3_fullestMinute_34 : decode cX3_fullestMinute 34 = .ok (.if_icmp .le 9, 3) := by decide +kernel
theorem dX3_fullestMinute_37 : decode cX3_fullestMinute 37 = .ok (.iload 4, 2) := by decide +kernel
theorem dX3_fullestMinute_39 : decode cX3_fullestMinute 39 = .ok (.istore_n 2, 1) := by decide +kernel
theorem dX3_fullestMinute_40 : decode cX3_fullestMinute 40 = .ok (.iload 5, 2) := by decide +kernel
theorem dX3_fullestMinute_42 : decode cX3_fullestMinute 42 = .ok (.istore_n 3, 1) := by decide +kernel
theorem dX3_fullestMinute_43 : decode cX3_fullestMinute 43 = .ok (.iinc 4 1, 3) := by decide +kernel
theorem dX3_fullestMinute_46 : decode cX3_fullestMinute 46 = .ok (.goto (-39), 3) := by decide +kernel
theorem dX3_fullestMinute_49 : decode cX3_fullestMinute 49 = .ok (.iload_n 1, 1) := by decide +kernel
theorem dX3_fullestMinute_50 : decode cX3_fullestMinute 50 = .ok (.ifCond .ne 7, 3) := by decide +kernel
theorem dX3_fullestMinute_53 : decode cX3_fullestMinute 53 = .ok (.iload_n 2, 1) := by decide +kernel
theorem dX3_fullestMinute_54 : decode cX3_fullestMinute 54 = .ok (.goto 4, 3) := by decide +kernel
theorem dX3_fullestMinute_57 : decode cX3_fullestMinute 57 = .ok (.iload_n 3, 1) := by decide +kernel
theorem dX3_fullestMinute_58 : decode cX3_fullestMinute 58 = .ok (.ireturn, 1) := by decide +kernel
theorem dX3_twinCount_0 : decode cX3_twinCount 0 = .ok (.aload_n 0, 1) := by decide +kernel
theorem dX3_twinCount_1 : decode cX3_twinCount 1 = .ok (.invokevirtual 61, 3) := by decide +kernel
theorem dX3_twinCount_4 : decode cX3_twinCount 4 = .ok (.istore_n 1, 1) := by decide +kernel
theorem dX3_twinCount_5 : decode cX3_twinCount 5 = .ok (.iconst 0, 1) := by decide +kernel
theorem dX3_twinCount_6 : decode cX3_twinCount 6 = .ok (.istore_n 2, 1) := by decide +kernel
theorem dX3_twinCount_7 : decode cX3_twinCount 7 = .ok (.iconst 0, 1) := by decide +kernel
theorem dX3_twinCount_8 : decode cX3_twinCount 8 = .ok (.istore_n 3, 1) := by decide +kernel
theorem dX3_twinCount_9 : decode cX3_twinCount 9 = .ok (.iload_n 3, 1) := by decide +kernel
theorem dX3_twinCount_10 : decode cX3_twinCount 10 = .ok (.iload_n 1, 1) := by decide +kernel
theorem dX3_twinCount_11 : decode cX3_twinCount 11 = .ok (.if_icmp .ge 46, 3) := by decide +kernel
theorem dX3_twinCount_14 : decode cX3_twinCount 14 = .ok (.iload_n 3, 1) := by decide +kernel
theorem dX3_twinCount_15 : decode cX3_twinCount 15 = .ok (.iconst 1, 1) := by decide +kernel
theorem dX3_twinCount_16 : decode cX3_twinCount 16 = .ok (.iadd, 1) := by decide +kernel
theorem dX3_twinCount_17 : decode cX3_twinCount 17 = .ok (.istore 4, 2) := by decide +kernel
theorem dX3_twinCount_19 : decode cX3_twinCount 19 = .ok (.iload 4, 2) := by decide +kernel
theorem dX3_twinCount_21 : decode cX3_twinCount 21 = .ok (.iload_n 1, 1) := by decide +kernel
theorem dX3_twinCount_22 : decode cX3_twinCount 22 = .ok (.if_icmp .ge 29, 3) := by decide +kernel
theorem dX3_twinCount_25 : decode cX3_twinCount 25 = .ok (.aload_n 0, 1) := by decide +kernel
theorem dX3_twinCount_26 : decode cX3_twinCount 26 = .ok (.getfield 25, 3) := by decide +kernel
theorem dX3_twinCount_29 : decode cX3_twinCount 29 = .ok (.iload_n 3, 1) := by decide +kernel
theorem dX3_twinCount_30 : decode cX3_twinCount 30 = .ok (.laload, 1) := by decide +kernel
theorem dX3_twinCount_31 : decode cX3_twinCount 31 = .ok (.aload_n 0, 1) := by decide +kernel
theorem dX3_twinCount_32 : decode cX3_twinCount 32 = .ok (.getfield 25, 3) := by decide +kernel
theorem dX3_twinCount_35 : decode cX3_twinCount 35 = .ok (.iload 4, 2) := by decide +kernel
theorem dX3_twinCount_37 : decode cX3_twinCount 37 = .ok (.laload, 1) := by decide +kernel
theorem dX3_twinCount_38 : decode cX3_twinCount 38 = .ok (.lcmp, 1) := by decide +kernel
theorem dX3_twinCount_39 : decode cX3_twinCount 39 = .ok (.ifCond .ne 6, 3) := by decide +kernel
theorem dX3_twinCount_42 : decode cX3_twinCount 42 = .ok (.iinc 2 1, 3) := by decide +kernel
theorem dX3_twinCount_45 : decode cX3_twinCount 45 = .ok (.iinc 4 1, 3) := by decide +kernel
theorem dX3_twinCount_48 : decode cX3_twinCount 48 = .ok (.goto (-29), 3) := by decide +kernel
theorem dX3_twinCount_51 : decode cX3_twinCount 51 = .ok (.iinc 3 1, 3) := by decide +kernel
theorem dX3_twinCount_54 : decode cX3_twinCount 54 = .ok (.goto (-45), 3) := by decide +kernel
theorem dX3_twinCount_57 : decode cX3_twinCount 57 = .ok (.iload_n 2, 1) := by decide +kernel
theorem dX3_twinCount_58 : decode cX3_twinCount 58 = .ok (.ireturn, 1) := by decide +kernel
theorem dX3_firstTwins_0 : decode cX3_firstTwins 0 = .ok (.aload_n 0, 1) := by decide +kernel
theorem dX3_firstTwins_1 : decode cX3_firstTwins 1 = .ok (.invokevirtual 61, 3) := by decide +kernel
theorem dX3_firstTwins_4 : decode cX3_firstTwins 4 = .ok (.istore_n 1, 1) := by decide +kernel
theorem dX3_firstTwins_5 : decode cX3_firstTwins 5 = .ok (.iconst 0, 1) := by decide +kernel
theorem dX3_firstTwins_6 : decode cX3_firstTwins 6 = .ok (.istore_n 2, 1) := by decide +kernel
theorem dX3_firstTwins_7 : decode cX3_firstTwins 7 = .ok (.iload_n 2, 1) := by decide +kernel
theorem dX3_firstTwins_8 : decode cX3_firstTwins 8 = .ok (.iload_n 1, 1) := by decide +kernel
theorem dX3_firstTwins_9 : decode cX3_firstTwins 9 = .ok (.if_icmp .ge 47, 3) := by decide +kernel
theorem dX3_firstTwins_12 : decode cX3_firstTwins 12 = .ok (.iload_n 2, 1) := by decide +kernel
theorem dX3_firstTwins_13 : decode cX3_firstTwins 13 = .ok (.iconst 1, 1) := by decide +kernel
theorem dX3_firstTwins_14 : decode cX3_firstTwins 14 = .ok (.iadd, 1) := by decide +kernel
theorem dX3_firstTwins_15 : decode cX3_firstTwins 15 = .ok (.istore_n 3, 1) := by decide +kernel
theorem dX3_firstTwins_16 : decode cX3_firstTwins 16 = .ok (.iload_n 3, 1) := by decide +kernel
theorem dX3_firstTwins_17 : decode cX3_firstTwins 17 = .ok (.iload_n 1, 1) := by decide +kernel
theorem dX3_firstTwins_18 : decode cX3_firstTwins 18 = .ok (.if_icmp .ge 32, 3) := by decide +kernel
theorem dX3_firstTwins_21 : decode cX3_firstTwins 21 = .ok (.aload_n 0, 1) := by decide +kernel
theorem dX3_firstTwins_22 : decode cX3_firstTwins 22 = .ok (.getfield 25, 3) := by decide +kernel
theorem dX3_firstTwins_25 : decode cX3_firstTwins 25 = .ok (.iload_n 2, 1) := by decide +kernel
theorem dX3_firstTwins_26 : decode cX3_firstTwins 26 = .ok (.laload, 1) := by decide +kernel
theorem dX3_firstTwins_27 : decode cX3_firstTwins 27 = .ok (.aload_n 0, 1) := by decide +kernel
theorem dX3_firstTwins_28 : decode cX3_firstTwins 28 = .ok (.getfield 25, 3) := by decide +kernel
theorem dX3_firstTwins_31 : decode cX3_firstTwins 31 = .ok (.iload_n 3, 1) := by decide +kernel
theorem dX3_firstTwins_32 : decode cX3_firstTwins 32 = .ok (.laload, 1) := by decide +kernel
theorem dX3_firstTwins_33 : decode cX3_firstTwins 33 = .ok (.lcmp, 1) := by decide +kernel
theorem dX3_firstTwins_34 : decode cX3_firstTwins 34 = .ok (.ifCond .ne 10, 3) := by decide +kernel
theorem dX3_firstTwins_37 : decode cX3_firstTwins 37 = .ok (.bipush 10, 2) := by decide +kernel
theorem dX3_firstTwins_39 : decode cX3_firstTwins 39 = .ok (.iload_n 2, 1) := by decide +kernel
theorem dX3_firstTwins_40 : decode cX3_firstTwins 40 = .ok (.imul, 1) := by decide +kernel
theorem dX3_firstTwins_41 : decode cX3_firstTwins 41 = .ok (.iload_n 3, 1) := by decide +kernel
theorem dX3_firstTwins_42 : decode cX3_firstTwins 42 = .ok (.iadd, 1) := by decide +kernel
theorem dX3_firstTwins_43 : decode cX3_firstTwins 43 = .ok (.ireturn, 1) := by decide +kernel
theorem dX3_firstTwins_44 : decode cX3_firstTwins 44 = .ok (.iinc 3 1, 3) := by decide +kernel
theorem dX3_firstTwins_47 : decode cX3_firstTwins 47 = .ok (.goto (-31), 3) := by decide +kernel
theorem dX3_firstTwins_50 : decode cX3_firstTwins 50 = .ok (.iinc 2 1, 3) := by decide +kernel
theorem dX3_firstTwins_53 : decode cX3_firstTwins 53 = .ok (.goto (-46), 3) := by decide +kernel
theorem dX3_firstTwins_56 : decode cX3_firstTwins 56 = .ok (.ldc 47, 2) := by decide +kernel
theorem dX3_firstTwins_58 : decode cX3_firstTwins 58 = .ok (.ireturn, 1) := by decide +kernel
theorem dX3_numberTunes_0 : decode cX3_numberTunes 0 = .ok (.aload_n 0, 1) := by decide +kernel
theorem dX3_numberTunes_1 : decode cX3_numberTunes 1 = .ok (.getfield 12, 3) := by decide +kernel
theorem dX3_numberTunes_4 : decode cX3_numberTunes 4 = .ok (.invokevirtual 65, 3) := by decide +kernel
theorem dX3_numberTunes_7 : decode cX3_numberTunes 7 = .ok (.iconst 5, 1) := by decide +kernel
theorem dX3_numberTunes_8 : decode cX3_numberTunes 8 = .ok (.invokestatic 68, 3) := by decide +kernel
theorem dX3_numberTunes_11 : decode cX3_numberTunes 11 = .ok (.istore_n 1, 1) := by decide +kernel
theorem dX3_numberTunes_12 : decode cX3_numberTunes 12 = .ok (.iconst 0, 1) := by decide +kernel
theorem dX3_numberTunes_13 : decode cX3_numberTunes 13 = .ok (.istore_n 2, 1) := by decide +kernel
theorem dX3_numberTunes_14 : decode cX3_numberTunes 14 = .ok (.iload_n 2, 1) := by decide +kernel
theorem dX3_numberTunes_15 : decode cX3_numberTunes 15 = .ok (.iload_n 1, 1) := by decide +kernel
theorem dX3_numberTunes_16 : decode cX3_numberTunes 16 = .ok (.if_icmp .ge 23, 3) := by decide +kernel
theorem dX3_numberTunes_19 : decode cX3_numberTunes 19 = .ok (.aload_n 0, 1) := by decide +kernel
theorem dX3_numberTunes_20 : decode cX3_numberTunes 20 = .ok (.getfield 25, 3) := by decide +kernel
theorem dX3_numberTunes_23 : decode cX3_numberTunes 23 = .ok (.iload_n 2, 1) := by decide +kernel
theorem dX3_numberTunes_24 : decode cX3_numberTunes 24 = .ok (.aload_n 0, 1) := by decide +kernel
theorem dX3_numberTunes_25 : decode cX3_numberTunes 25 = .ok (.getfield 12, 3) := by decide +kernel
theorem dX3_numberTunes_28 : decode cX3_numberTunes 28 = .ok (.iload_n 2, 1) := by decide +kernel
theorem dX3_numberTunes_29 : decode cX3_numberTunes 29 = .ok (.invokevirtual 73, 3) := by decide +kernel
theorem dX3_numberTunes_32 : decode cX3_numberTunes 32 = .ok (.lastore, 1) := by decide +kernel
theorem dX3_numberTunes_33 : decode cX3_numberTunes 33 = .ok (.iinc 2 1, 3) := by decide +kernel
theorem dX3_numberTunes_36 : decode cX3_numberTunes 36 = .ok (.goto (-22), 3) := by decide +kernel
theorem dX3_numberTunes_39 : decode cX3_numberTunes 39 = .ok (.iload_n 1, 1) := by decide +kernel
theorem dX3_numberTunes_40 : decode cX3_numberTunes 40 = .ok (.ireturn, 1) := by decide +kernel
theorem dX3_fewestFelts_0 : decode cX3_fewestFelts 0 = .ok (.ldc 47, 2) := by decide +kernel
theorem dX3_fewestFelts_2 : decode cX3_fewestFelts 2 = .ok (.istore 4, 2) := by decide +kernel
theorem dX3_fewestFelts_4 : decode cX3_fewestFelts 4 = .ok (.iconst 1, 1) := by decide +kernel
theorem dX3_fewestFelts_5 : decode cX3_fewestFelts 5 = .ok (.aload_n 0, 1) := by decide +kernel
theorem dX3_fewestFelts_6 : decode cX3_fewestFelts 6 = .ok (.getfield 12, 3) := by decide +kernel
theorem dX3_fewestFelts_9 : decode cX3_fewestFelts 9 = .ok (.invokevirtual 77, 3) := by decide +kernel
theorem dX3_fewestFelts_12 : decode cX3_fewestFelts 12 = .ok (.ishl, 1) := by decide +kernel
theorem dX3_fewestFelts_13 : decode cX3_fewestFelts 13 = .ok (.istore 5, 2) := by decide +kernel
theorem dX3_fewestFelts_15 : decode cX3_fewestFelts 15 = .ok (.iconst 0, 1) := by decide +kernel
theorem dX3_fewestFelts_16 : decode cX3_fewestFelts 16 = .ok (.istore 6, 2) := by decide +kernel
theorem dX3_fewestFelts_18 : decode cX3_fewestFelts 18 = .ok (.iload 6, 2) := by decide +kernel
theorem dX3_fewestFelts_20 : decode cX3_fewestFelts 20 = .ok (.iload 5, 2) := by decide +kernel
theorem dX3_fewestFelts_22 : decode cX3_fewestFelts 22 = .ok (.if_icmp .ge 34, 3) := by decide +kernel
theorem dX3_fewestFelts_25 : decode cX3_fewestFelts 25 = .ok (.iload 6, 2) := by decide +kernel
theorem dX3_fewestFelts_27 : decode cX3_fewestFelts 27 = .ok (.iload 4, 2) := by decide +kernel
theorem dX3_fewestFelts_29 : decode cX3_fewestFelts 29 = .ok (.invokestatic 80, 3) := by decide +kernel
theorem dX3_fewestFelts_32 : decode cX3_fewestFelts 32 = .ok (.ifCond .eq 18, 3) := by decide +kernel
theorem dX3_fewestFelts_35 : decode cX3_fewestFelts 35 = .ok (.aload_n 0, 1) := by decide +kernel
theorem dX3_fewestFelts_36 : decode cX3_fewestFelts 36 = .ok (.iload_n 1, 1) := by decide +kernel
theorem dX3_fewestFelts_37 : decode cX3_fewestFelts 37 = .ok (.iload_n 2, 1) := by decide +kernel
theorem dX3_fewestFelts_38 : decode cX3_fewestFelts 38 = .ok (.iload 6, 2) := by decide +kernel
theorem dX3_fewestFelts_40 : decode cX3_fewestFelts 40 = .ok (.invokevirtual 84, 3) := by decide +kernel
theorem dX3_fewestFelts_43 : decode cX3_fewestFelts 43 = .ok (.ifCond .eq 7, 3) := by decide +kernel
theorem dX3_fewestFelts_46 : decode cX3_fewestFelts 46 = .ok (.iload 6, 2) := by decide +kernel
theorem dX3_fewestFelts_48 : decode cX3_fewestFelts 48 = .ok (.istore 4, 2) := by decide +kernel
theorem dX3_fewestFelts_50 : decode cX3_fewestFelts 50 = .ok (.iinc 6 1, 3) := by decide +kernel
theorem dX3_fewestFelts_53 : decode cX3_fewestFelts 53 = .ok (.goto (-35), 3) := by decide +kernel
theorem dX3_fewestFelts_56 : decode cX3_fewestFelts 56 = .ok (.iload_n 3, 1) := by decide +kernel
theorem dX3_fewestFelts_57 : decode cX3_fewestFelts 57 = .ok (.ifCond .ne 11, 3) := by decide +kernel
theorem dX3_fewestFelts_60 : decode cX3_fewestFelts 60 = .ok (.iload 4, 2) := by decide +kernel
theorem dX3_fewestFelts_62 : decode cX3_fewestFelts 62 = .ok (.invokestatic 88, 3) := by decide +kernel
theorem dX3_fewestFelts_65 : decode cX3_fewestFelts 65 = .ok (.goto 5, 3) := by decide +kernel
theorem dX3_fewestFelts_68 : decode cX3_fewestFelts 68 = .ok (.iload 4, 2) := by decide +kernel
theorem dX3_fewestFelts_70 : decode cX3_fewestFelts 70 = .ok (.ireturn, 1) := by decide +kernel
theorem dX3_fewestDoors_0 : decode cX3_fewestDoors 0 = .ok (.aload_n 0, 1) := by decide +kernel
theorem dX3_fewestDoors_1 : decode cX3_fewestDoors 1 = .ok (.getfield 12, 3) := by decide +kernel
theorem dX3_fewestDoors_4 : decode cX3_fewestDoors 4 = .ok (.invokevirtual 65, 3) := by decide +kernel
theorem dX3_fewestDoors_7 : decode cX3_fewestDoors 7 = .ok (.iconst 5, 1) := by decide +kernel
theorem dX3_fewestDoors_8 : decode cX3_fewestDoors 8 = .ok (.invokestatic 68, 3) := by decide +kernel
theorem dX3_fewestDoors_11 : decode cX3_fewestDoors 11 = .ok (.istore_n 2, 1) := by decide +kernel
theorem dX3_fewestDoors_12 : decode cX3_fewestDoors 12 = .ok (.iconst 0, 1) := by decide +kernel
theorem dX3_fewestDoors_13 : decode cX3_fewestDoors 13 = .ok (.istore_n 3, 1) := by decide +kernel
theorem dX3_fewestDoors_14 : decode cX3_fewestDoors 14 = .ok (.iload_n 3, 1) := by decide +kernel
theorem dX3_fewestDoors_15 : decode cX3_fewestDoors 15 = .ok (.iload_n 2, 1) := by decide +kernel
theorem dX3_fewestDoors_16 : decode cX3_fewestDoors 16 = .ok (.if_icmp .ge 20, 3) := by decide +kernel
theorem dX3_fewestDoors_19 : decode cX3_fewestDoors 19 = .ok (.aload_n 0, 1) := by decide +kernel
theorem dX3_fewestDoors_20 : decode cX3_fewestDoors 20 = .ok (.getfield 22, 3) := by decide +kernel
theorem dX3_fewestDoors_23 : decode cX3_fewestDoors 23 = .ok (.iload_n 3, 1) := by decide +kernel
theorem dX3_fewestDoors_24 : decode cX3_fewestDoors 24 = .ok (.aload_n 0, 1) := by decide +kernel
theorem dX3_fewestDoors_25 : decode cX3_fewestDoors 25 = .ok (.iload_n 3, 1) := by decide +kernel
theorem dX3_fewestDoors_26 : decode cX3_fewestDoors 26 = .ok (.invokevirtual 91, 3) := by decide +kernel
theorem dX3_fewestDoors_29 : decode cX3_fewestDoors 29 = .ok (.iastore, 1) := by decide +kernel
theorem dX3_fewestDoors_30 : decode cX3_fewestDoors 30 = .ok (.iinc 3 1, 3) := by decide +kernel
theorem dX3_fewestDoors_33 : decode cX3_fewestDoors 33 = .ok (.goto (-19), 3) := by decide +kernel
theorem dX3_fewestDoors_36 : decode cX3_fewestDoors 36 = .ok (.ldc 47, 2) := by decide +kernel
theorem dX3_fewestDoors_38 : decode cX3_fewestDoors 38 = .ok (.istore_n 3, 1) := by decide +kernel
theorem dX3_fewestDoors_39 : decode cX3_fewestDoors 39 = .ok (.iconst 1, 1) := by decide +kernel
theorem dX3_fewestDoors_40 : decode cX3_fewestDoors 40 = .ok (.aload_n 0, 1) := by decide +kernel
theorem dX3_fewestDoors_41 : decode cX3_fewestDoors 41 = .ok (.getfield 12, 3) := by decide +kernel
theorem dX3_fewestDoors_44 : decode cX3_fewestDoors 44 = .ok (.invokevirtual 77, 3) := by decide +kernel
theorem dX3_fewestDoors_47 : decode cX3_fewestDoors 47 = .ok (.ishl, 1) := by decide +kernel
theorem dX3_fewestDoors_48 : decode cX3_fewestDoors 48 = .ok (.istore 4, 2) := by decide +kernel
theorem dX3_fewestDoors_50 : decode cX3_fewestDoors 50 = .ok (.iconst 0, 1) := by decide +kernel
theorem dX3_fewestDoors_51 : decode cX3_fewestDoors 51 = .ok (.istore 5, 2) := by decide +kernel
theorem dX3_fewestDoors_53 : decode cX3_fewestDoors 53 = .ok (.iload 5, 2) := by decide +kernel
theorem dX3_fewestDoors_55 : decode cX3_fewestDoors 55 = .ok (.iload 4, 2) := by decide +kernel
theorem dX3_fewestDoors_57 : decode cX3_fewestDoors 57 = .ok (.if_icmp .ge 31, 3) := by decide +kernel
theorem dX3_fewestDoors_60 : decode cX3_fewestDoors 60 = .ok (.iload 5, 2) := by decide +kernel
theorem dX3_fewestDoors_62 : decode cX3_fewestDoors 62 = .ok (.iload_n 3, 1) := by decide +kernel
theorem dX3_fewestDoors_63 : decode cX3_fewestDoors 63 = .ok (.invokestatic 80, 3) := by decide +kernel
theorem dX3_fewestDoors_66 : decode cX3_fewestDoors 66 = .ok (.ifCond .eq 16, 3) := by decide +kernel
theorem dX3_fewestDoors_69 : decode cX3_fewestDoors 69 = .ok (.aload_n 0, 1) := by decide +kernel
theorem dX3_fewestDoors_70 : decode cX3_fewestDoors 70 = .ok (.iload 5, 2) := by decide +kernel
theorem dX3_fewestDoors_72 : decode cX3_fewestDoors 72 = .ok (.iload_n 2, 1) := by decide +kernel
theorem dX3_fewestDoors_73 : decode cX3_fewestDoors 73 = .ok (.invokevirtual 94, 3) := by decide +kernel
theorem dX3_fewestDoors_76 : decode cX3_fewestDoors 76 = .ok (.ifCond .eq 6, 3) := by decide +kernel
theorem dX3_fewestDoors_79 : decode cX3_fewestDoors 79 = .ok (.iload 5, 2) := by decide +kernel
theorem dX3_fewestDoors_81 : decode cX3_fewestDoors 81 = .ok (.istore_n 3, 1) := by decide +kernel
theorem dX3_fewestDoors_82 : decode cX3_fewestDoors 82 = .ok (.iinc 5 1, 3) := by decide +kernel
theorem dX3_fewestDoors_85 : decode cX3_fewestDoors 85 = .ok (.goto (-32), 3) := by decide +kernel
theorem dX3_fewestDoors_88 : decode cX3_fewestDoors 88 = .ok (.iload_n 1, 1) := by decide +kernel
theorem dX3_fewestDoors_89 : decode cX3_fewestDoors 89 = .ok (.ifCond .ne 10, 3) := by decide +kernel
theorem dX3_fewestDoors_92 : decode cX3_fewestDoors 92 = .ok (.iload_n 3, 1) := by decide +kernel
theorem dX3_fewestDoors_93 : decode cX3_fewestDoors 93 = .ok (.invokestatic 88, 3) := by decide +kernel
theorem dX3_fewestDoors_96 : decode cX3_fewestDoors 96 = .ok (.goto 4, 3) := by decide +kernel
theorem dX3_fewestDoors_99 : decode cX3_fewestDoors 99 = .ok (.iload_n 3, 1) := by decide +kernel
theorem dX3_fewestDoors_100 : decode cX3_fewestDoors 100 = .ok (.ireturn, 1) := by decide +kernel
theorem dX3_hearAll_0 : decode cX3_hearAll 0 = .ok (.iconst 0, 1) := by decide +kernel
theorem dX3_hearAll_1 : decode cX3_hearAll 1 = .ok (.istore_n 3, 1) := by decide +kernel
theorem dX3_hearAll_2 : decode cX3_hearAll 2 = .ok (.iload_n 3, 1) := by decide +kernel
theorem dX3_hearAll_3 : decode cX3_hearAll 3 = .ok (.iload_n 2, 1) := by decide +kernel
theorem dX3_hearAll_4 : decode cX3_hearAll 4 = .ok (.if_icmp .ge 27, 3) := by decide +kernel
theorem dX3_hearAll_7 : decode cX3_hearAll 7 = .ok (.iload_n 3, 1) := by decide +kernel
theorem dX3_hearAll_8 : decode cX3_hearAll 8 = .ok (.iconst 5, 1) := by decide +kernel
theorem dX3_hearAll_9 : decode cX3_hearAll 9 = .ok (.if_icmp .ge 22, 3) := by decide +kernel
theorem dX3_hearAll_12 : decode cX3_hearAll 12 = .ok (.aload_n 0, 1) := by decide +kernel
theorem dX3_hearAll_13 : decode cX3_hearAll 13 = .ok (.getfield 22, 3) := by decide +kernel
theorem dX3_hearAll_16 : decode cX3_hearAll 16 = .ok (.iload_n 3, 1) := by decide +kernel
theorem dX3_hearAll_17 : decode cX3_hearAll 17 = .ok (.iaload, 1) := by decide +kernel
theorem dX3_hearAll_18 : decode cX3_hearAll 18 = .ok (.iload_n 1, 1) := by decide +kernel
theorem dX3_hearAll_19 : decode cX3_hearAll 19 = .ok (.iand, 1) := by decide +kernel
theorem dX3_hearAll_20 : decode cX3_hearAll 20 = .ok (.ifCond .ne 5, 3) := by decide +kernel
theorem dX3_hearAll_23 : decode cX3_hearAll 23 = .ok (.iconst 0, 1) := by decide +kernel
theorem dX3_hearAll_24 : decode cX3_hearAll 24 = .ok (.ireturn, 1) := by decide +kernel
theorem dX3_hearAll_25 : decode cX3_hearAll 25 = .ok (.iinc 3 1, 3) := by decide +kernel
theorem dX3_hearAll_28 : decode cX3_hearAll 28 = .ok (.goto (-26), 3) := by decide +kernel
theorem dX3_hearAll_31 : decode cX3_hearAll 31 = .ok (.iconst 1, 1) := by decide +kernel
theorem dX3_hearAll_32 : decode cX3_hearAll 32 = .ok (.ireturn, 1) := by decide +kernel
theorem dX3_doorsHearing_0 : decode cX3_doorsHearing 0 = .ok (.iconst 0, 1) := by decide +kernel
theorem dX3_doorsHearing_1 : decode cX3_doorsHearing 1 = .ok (.istore_n 2, 1) := by decide +kernel
theorem dX3_doorsHearing_2 : decode cX3_doorsHearing 2 = .ok (.iconst 0, 1) := by decide +kernel
theorem dX3_doorsHearing_3 : decode cX3_doorsHearing 3 = .ok (.istore_n 3, 1) := by decide +kernel
theorem dX3_doorsHearing_4 : decode cX3_doorsHearing 4 = .ok (.iload_n 3, 1) := by decide +kernel
theorem dX3_doorsHearing_5 : decode cX3_doorsHearing 5 = .ok (.aload_n 0, 1) := by decide +kernel
theorem dX3_doorsHearing_6 : decode cX3_doorsHearing 6 = .ok (.getfield 12, 3) := by decide +kernel
theorem dX3_doorsHearing_9 : decode cX3_doorsHearing 9 = .ok (.invokevirtual 77, 3) := by decide +kernel
theorem dX3_doorsHearing_12 : decode cX3_doorsHearing 12 = .ok (.if_icmp .ge 25, 3) := by decide +kernel
theorem dX3_doorsHearing_15 : decode cX3_doorsHearing 15 = .ok (.aload_n 0, 1) := by decide +kernel
theorem dX3_doorsHearing_16 : decode cX3_doorsHearing 16 = .ok (.iload_n 1, 1) := by decide +kernel
theorem dX3_doorsHearing_17 : decode cX3_doorsHearing 17 = .ok (.iload_n 3, 1) := by decide +kernel
theorem dX3_doorsHearing_18 : decode cX3_doorsHearing 18 = .ok (.iconst 0, 1) := by decide +kernel
theorem dX3_doorsHearing_19 : decode cX3_doorsHearing 19 = .ok (.invokevirtual 84, 3) := by decide +kernel
theorem dX3_doorsHearing_22 : decode cX3_doorsHearing 22 = .ok (.ifCond .ne 9, 3) := by decide +kernel
theorem dX3_doorsHearing_25 : decode cX3_doorsHearing 25 = .ok (.iload_n 2, 1) := by decide +kernel
theorem dX3_doorsHearing_26 : decode cX3_doorsHearing 26 = .ok (.iconst 1, 1) := by decide +kernel
theorem dX3_doorsHearing_27 : decode cX3_doorsHearing 27 = .ok (.iload_n 3, 1) := by decide +kernel
theorem dX3_doorsHearing_28 : decode cX3_doorsHearing 28 = .ok (.ishl, 1) := by decide +kernel
theorem dX3_doorsHearing_29 : decode cX3_doorsHearing 29 = .ok (.ior, 1) := by decide +kernel
theorem dX3_doorsHearing_30 : decode cX3_doorsHearing 30 = .ok (.istore_n 2, 1) := by decide +kernel
theorem dX3_doorsHearing_31 : decode cX3_doorsHearing 31 = .ok (.iinc 3 1, 3) := by decide +kernel
theorem dX3_doorsHearing_34 : decode cX3_doorsHearing 34 = .ok (.goto (-30), 3) := by decide +kernel
theorem dX3_doorsHearing_37 : decode cX3_doorsHearing 37 = .ok (.iload_n 2, 1) := by decide +kernel
theorem dX3_doorsHearing_38 : decode cX3_doorsHearing 38 = .ok (.ireturn, 1) := by decide +kernel
theorem dX3_isUnheard_0 : decode cX3_isUnheard 0 = .ok (.aload_n 0, 1) := by decide +kernel
theorem dX3_isUnheard_1 : decode cX3_isUnheard 1 = .ok (.getfield 12, 3) := by decide +kernel
theorem dX3_isUnheard_4 : decode cX3_isUnheard 4 = .ok (.iload_n 1, 1) := by decide +kernel
theorem dX3_isUnheard_5 : decode cX3_isUnheard 5 = .ok (.iconst 2, 1) := by decide +kernel
theorem dX3_isUnheard_6 : decode cX3_isUnheard 6 = .ok (.invokevirtual 97, 3) := by decide +kernel
theorem dX3_isUnheard_9 : decode cX3_isUnheard 9 = .ok (.istore 4, 2) := by decide +kernel
theorem dX3_isUnheard_11 : decode cX3_isUnheard 11 = .ok (.iconst 0, 1) := by decide +kernel
theorem dX3_isUnheard_12 : decode cX3_isUnheard 12 = .ok (.istore 5, 2) := by decide +kernel
theorem dX3_isUnheard_14 : decode cX3_isUnheard 14 = .ok (.iload 5, 2) := by decide +kernel
theorem dX3_isUnheard_16 : decode cX3_isUnheard 16 = .ok (.bipush 8, 2) := by decide +kernel
theorem dX3_isUnheard_18 : decode cX3_isUnheard 18 = .ok (.if_icmp .ge 89, 3) := by decide +kernel
theorem dX3_isUnheard_21 : decode cX3_isUnheard 21 = .ok (.aload_n 0, 1) := by decide +kernel
theorem dX3_isUnheard_22 : decode cX3_isUnheard 22 = .ok (.getfield 12, 3) := by decide +kernel
theorem dX3_isUnheard_25 : decode cX3_isUnheard 25 = .ok (.iload_n 1, 1) := by decide +kernel
theorem dX3_isUnheard_26 : decode cX3_isUnheard 26 = .ok (.iload 5, 2) := by decide +kernel
theorem dX3_isUnheard_28 : decode cX3_isUnheard 28 = .ok (.invokevirtual 100, 3) := by decide +kernel
theorem dX3_isUnheard_31 : decode cX3_isUnheard 31 = .ok (.istore 6, 2) := by decide +kernel
theorem dX3_isUnheard_33 : decode cX3_isUnheard 33 = .ok (.aload_n 0, 1) := by decide +kernel
theorem dX3_isUnheard_34 : decode cX3_isUnheard 34 = .ok (.getfield 12, 3) := by decide +kernel
theorem dX3_isUnheard_37 : decode cX3_isUnheard 37 = .ok (.iload 6, 2) := by decide +kernel
theorem dX3_isUnheard_39 : decode cX3_isUnheard 39 = .ok (.iload_n 2, 1) := by decide +kernel
theorem dX3_isUnheard_40 : decode cX3_isUnheard 40 = .ok (.invokevirtual 103, 3) := by decide +kernel
theorem dX3_isUnheard_43 : decode cX3_isUnheard 43 = .ok (.ifCond .ne 6, 3) := by decide +kernel
theorem dX3_isUnheard_46 : decode cX3_isUnheard 46 = .ok (.goto 55, 3) := by decide +kernel
theorem dX3_isUnheard_49 : decode cX3_isUnheard 49 = .ok (.iload_n 3, 1) := by decide +kernel
theorem dX3_isUnheard_50 : decode cX3_isUnheard 50 = .ok (.iload 6, 2) := by decide +kernel
theorem dX3_isUnheard_52 : decode cX3_isUnheard 52 = .ok (.ishr, 1) := by decide +kernel
theorem dX3_isUnheard_53 : decode cX3_isUnheard 53 = .ok (.iconst 1, 1) := by decide +kernel
theorem dX3_isUnheard_54 : decode cX3_isUnheard 54 = .ok (.iand, 1) := by decide +kernel
theorem dX3_isUnheard_55 : decode cX3_isUnheard 55 = .ok (.iconst 1, 1) := by decide +kernel
theorem dX3_isUnheard_56 : decode cX3_isUnheard 56 = .ok (.if_icmp .ne 7, 3) := by decide +kernel
theorem dX3_isUnheard_59 : decode cX3_isUnheard 59 = .ok (.iconst 5, 1) := by decide +kernel
theorem dX3_isUnheard_60 : decode cX3_isUnheard 60 = .ok (.goto 12, 3) := by decide +kernel
theorem dX3_isUnheard_63 : decode cX3_isUnheard 63 = .ok (.aload_n 0, 1) := by decide +kernel
theorem dX3_isUnheard_64 : decode cX3_isUnheard 64 = .ok (.getfield 12, 3) := by decide +kernel
theorem dX3_isUnheard_67 : decode cX3_isUnheard 67 = .ok (.iload 6, 2) := by decide +kernel
theorem dX3_isUnheard_69 : decode cX3_isUnheard 69 = .ok (.invokevirtual 106, 3) := by decide +kernel
theorem dX3_isUnheard_72 : decode cX3_isUnheard 72 = .ok (.istore 7, 2) := by decide +kernel
theorem dX3_isUnheard_74 : decode cX3_isUnheard 74 = .ok (.aload_n 0, 1) := by decide +kernel
theorem dX3_isUnheard_75 : decode cX3_isUnheard 75 = .ok (.getfield 12, 3) := by decide +kernel
theorem dX3_isUnheard_78 : decode cX3_isUnheard 78 = .ok (.iload 7, 2) := by decide +kernel
theorem dX3_isUnheard_80 : decode cX3_isUnheard 80 = .ok (.aload_n 0, 1) := by decide +kernel
theorem dX3_isUnheard_81 : decode cX3_isUnheard 81 = .ok (.getfield 12, 3) := by decide +kernel
theorem dX3_isUnheard_84 : decode cX3_isUnheard 84 = .ok (.iload 6, 2) := by decide +kernel
theorem dX3_isUnheard_86 : decode cX3_isUnheard 86 = .ok (.invokevirtual 40, 3) := by decide +kernel
theorem dX3_isUnheard_89 : decode cX3_isUnheard 89 = .ok (.iload 4, 2) := by decide +kernel
theorem dX3_isUnheard_91 : decode cX3_isUnheard 91 = .ok (.invokevirtual 109, 3) := by decide +kernel
theorem dX3_isUnheard_94 : decode cX3_isUnheard 94 = .ok (.bipush 10, 2) := by decide +kernel
theorem dX3_isUnheard_96 : decode cX3_isUnheard 96 = .ok (.if_icmp .eq 5, 3) := by decide +kernel
theorem dX3_isUnheard_99 : decode cX3_isUnheard 99 = .ok (.iconst 0, 1) := by decide +kernel
theorem dX3_isUnheard_100 : decode cX3_isUnheard 100 = .ok (.ireturn, 1) := by decide +kernel
theorem dX3_isUnheard_101 : decode cX3_isUnheard 101 = .ok (.iinc 5 1, 3) := by decide +kernel
theorem dX3_isUnheard_104 : decode cX3_isUnheard 104 = .ok (.goto (-90), 3) := by decide +kernel
theorem dX3_isUnheard_107 : decode cX3_isUnheard 107 = .ok (.iconst 1, 1) := by decide +kernel
theorem dX3_isUnheard_108 : decode cX3_isUnheard 108 = .ok (.ireturn, 1) := by decide +kernel
theorem dX3_isSmaller_0 : decode cX3_isSmaller 0 = .ok (.iload_n 1, 1) := by decide +kernel
theorem dX3_isSmaller_1 : decode cX3_isSmaller 1 = .ok (.ldc 47, 2) := by decide +kernel
theorem dX3_isSmaller_3 : decode cX3_isSmaller 3 = .ok (.if_icmp .eq 14, 3) := by decide +kernel
theorem dX3_isSmaller_6 : decode cX3_isSmaller 6 = .ok (.iload_n 0, 1) := by decide +kernel
theorem dX3_isSmaller_7 : decode cX3_isSmaller 7 = .ok (.invokestatic 56, 3) := by decide +kernel
theorem dX3_isSmaller_10 : decode cX3_isSmaller 10 = .ok (.iload_n 1, 1) := by decide +kernel
theorem dX3_isSmaller_11 : decode cX3_isSmaller 11 = .ok (.invokestatic 56, 3) := by decide +kernel
theorem dX3_isSmaller_14 : decode cX3_isSmaller 14 = .ok (.if_icmp .ge 7, 3) := by decide +kernel
theorem dX3_isSmaller_17 : decode cX3_isSmaller 17 = .ok (.iconst 1, 1) := by decide +kernel
theorem dX3_isSmaller_18 : decode cX3_isSmaller 18 = .ok (.goto 4, 3) := by decide +kernel
theorem dX3_isSmaller_21 : decode cX3_isSmaller 21 = .ok (.iconst 0, 1) := by decide +kernel
theorem dX3_isSmaller_22 : decode cX3_isSmaller 22 = .ok (.ireturn, 1) := by decide +kernel
theorem dX3_sizeOf_0 : decode cX3_sizeOf 0 = .ok (.iload_n 0, 1) := by decide +kernel
theorem dX3_sizeOf_1 : decode cX3_sizeOf 1 = .ok (.ldc 47, 2) := by decide +kernel
theorem dX3_sizeOf_3 : decode cX3_sizeOf 3 = .ok (.if_icmp .ne 8, 3) := by decide +kernel
theorem dX3_sizeOf_6 : decode cX3_sizeOf 6 = .ok (.ldc 47, 2) := by decide +kernel
theorem dX3_sizeOf_8 : decode cX3_sizeOf 8 = .ok (.goto 7, 3) := by decide +kernel
theorem dX3_sizeOf_11 : decode cX3_sizeOf 11 = .ok (.iload_n 0, 1) := by decide +kernel
theorem dX3_sizeOf_12 : decode cX3_sizeOf 12 = .ok (.invokestatic 56, 3) := by decide +kernel
theorem dX3_sizeOf_15 : decode cX3_sizeOf 15 = .ok (.ireturn, 1) := by decide +kernel
theorem dX3_bestPlaning_0 : decode cX3_bestPlaning 0 = .ok (.ldc 47, 2) := by decide +kernel
theorem dX3_bestPlaning_2 : decode cX3_bestPlaning 2 = .ok (.istore_n 2, 1) := by decide +kernel
theorem dX3_bestPlaning_3 : decode cX3_bestPlaning 3 = .ok (.iconst 0, 1) := by decide +kernel
theorem dX3_bestPlaning_4 : decode cX3_bestPlaning 4 = .ok (.istore_n 3, 1) := by decide +kernel
theorem dX3_bestPlaning_5 : decode cX3_bestPlaning 5 = .ok (.iconst 0, 1) := by decide +kernel
theorem dX3_bestPlaning_6 : decode cX3_bestPlaning 6 = .ok (.istore 4, 2) := by decide +kernel
theorem dX3_bestPlaning_8 : decode cX3_bestPlaning 8 = .ok (.iload 4, 2) := by decide +kernel
theorem dX3_bestPlaning_10 : decode cX3_bestPlaning 10 = .ok (.aload_n 0, 1) := by decide +kernel
theorem dX3_bestPlaning_11 : decode cX3_bestPlaning 11 = .ok (.getfield 12, 3) := by decide +kernel
theorem dX3_bestPlaning_14 : decode cX3_bestPlaning 14 = .ok (.invokevirtual 77, 3) := by decide +kernel
theorem dX3_bestPlaning_17 : decode cX3_bestPlaning 17 = .ok (.if_icmp .ge 110, 3) := by decide +kernel
theorem dX3_bestPlaning_20 : decode cX3_bestPlaning 20 = .ok (.aload_n 0, 1) := by decide +kernel
theorem dX3_bestPlaning_21 : decode cX3_bestPlaning 21 = .ok (.getfield 12, 3) := by decide +kernel
theorem dX3_bestPlaning_24 : decode cX3_bestPlaning 24 = .ok (.iload 4, 2) := by decide +kernel
theorem dX3_bestPlaning_26 : decode cX3_bestPlaning 26 = .ok (.invokevirtual 112, 3) := by decide +kernel
theorem dX3_bestPlaning_29 : decode cX3_bestPlaning 29 = .ok (.istore 5, 2) := by decide +kernel
theorem dX3_bestPlaning_31 : decode cX3_bestPlaning 31 = .ok (.aload_n 0, 1) := by decide +kernel
theorem dX3_bestPlaning_32 : decode cX3_bestPlaning 32 = .ok (.getfield 12, 3) := by decide +kernel
theorem dX3_bestPlaning_35 : decode cX3_bestPlaning 35 = .ok (.iload 4, 2) := by decide +kernel
theorem dX3_bestPlaning_37 : decode cX3_bestPlaning 37 = .ok (.invokevirtual 44, 3) := by decide +kernel
theorem dX3_bestPlaning_40 : decode cX3_bestPlaning 40 = .ok (.istore 6, 2) := by decide +kernel
theorem dX3_bestPlaning_42 : decode cX3_bestPlaning 42 = .ok (.iconst 0, 1) := by decide +kernel
theorem dX3_bestPlaning_43 : decode cX3_bestPlaning 43 = .ok (.istore 7, 2) := by decide +kernel
theorem dX3_bestPlaning_45 : decode cX3_bestPlaning 45 = .ok (.iload 7, 2) := by decide +kernel
theorem dX3_bestPlaning_47 : decode cX3_bestPlaning 47 = .ok (.bipush 9, 2) := by decide +kernel
theorem dX3_bestPlaning_49 : decode cX3_bestPlaning 49 = .ok (.if_icmp .gt 50, 3) := by decide +kernel
theorem dX3_bestPlaning_52 : decode cX3_bestPlaning 52 = .ok (.aload_n 0, 1) := by decide +kernel
theorem dX3_bestPlaning_53 : decode cX3_bestPlaning 53 = .ok (.getfield 12, 3) := by decide +kernel
theorem dX3_bestPlaning_56 : decode cX3_bestPlaning 56 = .ok (.iload 4, 2) := by decide +kernel
theorem dX3_bestPlaning_58 : decode cX3_bestPlaning 58 = .ok (.iload 7, 2) := by decide +kernel
theorem dX3_bestPlaning_60 : decode cX3_bestPlaning 60 = .ok (.invokevirtual 115, 3) := by decide +kernel
theorem dX3_bestPlaning_63 : decode cX3_bestPlaning 63 = .ok (.aload_n 0, 1) := by decide +kernel
theorem dX3_bestPlaning_64 : decode cX3_bestPlaning 64 = .ok (.invokevirtual 119, 3) := by decide +kernel
theorem dX3_bestPlaning_67 : decode cX3_bestPlaning 67 = .ok (.istore 8, 2) := by decide +kernel
theorem dX3_bestPlaning_69 : decode cX3_bestPlaning 69 = .ok (.iload_n 2, 1) := by decide +kernel
theorem dX3_bestPlaning_70 : decode cX3_bestPlaning 70 = .ok (.ldc 47, 2) := by decide +kernel
theorem dX3_bestPlaning_72 : decode cX3_bestPlaning 72 = .ok (.if_icmp .eq 9, 3) := by decide +kernel
theorem dX3_bestPlaning_75 : decode cX3_bestPlaning 75 = .ok (.iload 8, 2) := by decide +kernel
theorem dX3_bestPlaning_77 : decode cX3_bestPlaning 77 = .ok (.iload_n 3, 1) := by decide +kernel
theorem dX3_bestPlaning_78 : decode cX3_bestPlaning 78 = .ok (.if_icmp .ge 15, 3) := by decide +kernel
theorem dX3_bestPlaning_81 : decode cX3_bestPlaning 81 = .ok (.bipush 10, 2) := by decide +kernel
theorem dX3_bestPlaning_83 : decode cX3_bestPlaning 83 = .ok (.iload 4, 2) := by decide +kernel
theorem dX3_bestPlaning_85 : decode cX3_bestPlaning 85 = .ok (.imul, 1) := by decide +kernel
theorem dX3_bestPlaning_86 : decode cX3_bestPlaning 86 = .ok (.iload 7, 2) := by decide +kernel
theorem dX3_bestPlaning_88 : decode cX3_bestPlaning 88 = .ok (.iadd, 1) := by decide +kernel
theorem dX3_bestPlaning_89 : decode cX3_bestPlaning 89 = .ok (.istore_n 2, 1) := by decide +kernel
theorem dX3_bestPlaning_90 : decode cX3_bestPlaning 90 = .ok (.iload 8, 2) := by decide +kernel
theorem dX3_bestPlaning_92 : decode cX3_bestPlaning 92 = .ok (.istore_n 3, 1) := by decide +kernel
theorem dX3_bestPlaning_93 : decode cX3_bestPlaning 93 = .ok (.iinc 7 1, 3) := by decide +kernel
theorem dX3_bestPlaning_96 : decode cX3_bestPlaning 96 = .ok (.goto (-51), 3) := by decide +kernel
theorem dX3_bestPlaning_99 : decode cX3_bestPlaning 99 = .ok (.aload_n 0, 1) := by decide +kernel
theorem dX3_bestPlaning_100 : decode cX3_bestPlaning 100 = .ok (.getfield 12, 3) := by decide +kernel
theorem dX3_bestPlaning_103 : decode cX3_bestPlaning 103 = .ok (.iload 4, 2) := by decide +kernel
theorem dX3_bestPlaning_105 : decode cX3_bestPlaning 105 = .ok (.iload 5, 2) := by decide +kernel
theorem dX3_bestPlaning_107 : decode cX3_bestPlaning 107 = .ok (.invokevirtual 122, 3) := by decide +kernel
theorem dX3_bestPlaning_110 : decode cX3_bestPlaning 110 = .ok (.aload_n 0, 1) := by decide +kernel
theorem dX3_bestPlaning_111 : decode cX3_bestPlaning 111 = .ok (.getfield 12, 3) := by decide +kernel
theorem dX3_bestPlaning_114 : decode cX3_bestPlaning 114 = .ok (.iload 4, 2) := by decide +kernel
theorem dX3_bestPlaning_116 : decode cX3_bestPlaning 116 = .ok (.iload 6, 2) := by decide +kernel
theorem dX3_bestPlaning_118 : decode cX3_bestPlaning 118 = .ok (.invokevirtual 125, 3) := by decide +kernel
theorem dX3_bestPlaning_121 : decode cX3_bestPlaning 121 = .ok (.iinc 4 1, 3) := by decide +kernel
theorem dX3_bestPlaning_124 : decode cX3_bestPlaning 124 = .ok (.goto (-116), 3) := by decide +kernel
theorem dX3_bestPlaning_127 : decode cX3_bestPlaning 127 = .ok (.iload_n 1, 1) := by decide +kernel
theorem dX3_bestPlaning_128 : decode cX3_bestPlaning 128 = .ok (.ifCond .ne 7, 3) := by decide +kernel
theorem dX3_bestPlaning_131 : decode cX3_bestPlaning 131 = .ok (.iload_n 2, 1) := by decide +kernel
theorem dX3_bestPlaning_132 : decode cX3_bestPlaning 132 = .ok (.goto 4, 3) := by decide +kernel
theorem dX3_bestPlaning_135 : decode cX3_bestPlaning 135 = .ok (.iload_n 3, 1) := by decide +kernel
theorem dX3_bestPlaning_136 : decode cX3_bestPlaning 136 = .ok (.ireturn, 1) := by decide +kernel
theorem dX3_risesOf_0 : decode cX3_risesOf 0 = .ok (.iconst 0, 1) := by decide +kernel
theorem dX3_risesOf_1 : decode cX3_risesOf 1 = .ok (.istore 5, 2) := by decide +kernel
theorem dX3_risesOf_3 : decode cX3_risesOf 3 = .ok (.ldc 47, 2) := by decide +kernel
theorem dX3_risesOf_5 : decode cX3_risesOf 5 = .ok (.istore 6, 2) := by decide +kernel
theorem dX3_risesOf_7 : decode cX3_risesOf 7 = .ok (.iconst 1, 1) := by decide +kernel
theorem dX3_risesOf_8 : decode cX3_risesOf 8 = .ok (.istore 7, 2) := by decide +kernel
theorem dX3_risesOf_10 : decode cX3_risesOf 10 = .ok (.iload 7, 2) := by decide +kernel
theorem dX3_risesOf_12 : decode cX3_risesOf 12 = .ok (.iconst 3, 1) := by decide +kernel
theorem dX3_risesOf_13 : decode cX3_risesOf 13 = .ok (.if_icmp .gt 80, 3) := by decide +kernel
theorem dX3_risesOf_16 : decode cX3_risesOf 16 = .ok (.iconst 0, 1) := by decide +kernel
theorem dX3_risesOf_17 : decode cX3_risesOf 17 = .ok (.istore 8, 2) := by decide +kernel
theorem dX3_risesOf_19 : decode cX3_risesOf 19 = .ok (.iload 8, 2) := by decide +kernel
theorem dX3_risesOf_21 : decode cX3_risesOf 21 = .ok (.bipush 20, 2) := by decide +kernel
theorem dX3_risesOf_23 : decode cX3_risesOf 23 = .ok (.if_icmp .gt 64, 3) := by decide +kernel
theorem dX3_risesOf_26 : decode cX3_risesOf 26 = .ok (.aload_n 0, 1) := by decide +kernel
theorem dX3_risesOf_27 : decode cX3_risesOf 27 = .ok (.getfield 12, 3) := by decide +kernel
theorem dX3_risesOf_30 : decode cX3_risesOf 30 = .ok (.iload_n 1, 1) := by decide +kernel
theorem dX3_risesOf_31 : decode cX3_risesOf 31 = .ok (.iconst 2, 1) := by decide +kernel
theorem dX3_risesOf_32 : decode cX3_risesOf 32 = .ok (.iload 7, 2) := by decide +kernel
theorem dX3_risesOf_34 : decode cX3_risesOf 34 = .ok (.invokevirtual 128, 3) := by decide +kernel
theorem dX3_risesOf_37 : decode cX3_risesOf 37 = .ok (.aload_n 0, 1) := by decide +kernel
theorem dX3_risesOf_38 : decode cX3_risesOf 38 = .ok (.getfield 12, 3) := by decide +kernel
theorem dX3_risesOf_41 : decode cX3_risesOf 41 = .ok (.iload_n 1, 1) := by decide +kernel
theorem dX3_risesOf_42 : decode cX3_risesOf 42 = .ok (.iconst 3, 1) := by decide +kernel
theorem dX3_risesOf_43 : decode cX3_risesOf 43 = .ok (.iload 8, 2) := by decide +kernel
theorem dX3_risesOf_45 : decode cX3_risesOf 45 = .ok (.invokevirtual 128, 3) := by decide +kernel
theorem dX3_risesOf_48 : decode cX3_risesOf 48 = .ok (.aload_n 0, 1) := by decide +kernel
theorem dX3_risesOf_49 : decode cX3_risesOf 49 = .ok (.iload_n 1, 1) := by decide +kernel
theorem dX3_risesOf_50 : decode cX3_risesOf 50 = .ok (.iload_n 2, 1) := by decide +kernel
theorem dX3_risesOf_51 : decode cX3_risesOf 51 = .ok (.iload_n 3, 1) := by decide +kernel
theorem dX3_risesOf_52 : decode cX3_risesOf 52 = .ok (.invokevirtual 132, 3) := by decide +kernel
theorem dX3_risesOf_55 : decode cX3_risesOf 55 = .ok (.ifCond .ne 6, 3) := by decide +kernel
theorem dX3_risesOf_58 : decode cX3_risesOf 58 = .ok (.goto 23, 3) := by decide +kernel
theorem dX3_risesOf_61 : decode cX3_risesOf 61 = .ok (.iinc 5 1, 3) := by decide +kernel
theorem dX3_risesOf_64 : decode cX3_risesOf 64 = .ok (.iload 6, 2) := by decide +kernel
theorem dX3_risesOf_66 : decode cX3_risesOf 66 = .ok (.ldc 47, 2) := by decide +kernel
theorem dX3_risesOf_68 : decode cX3_risesOf 68 = .ok (.if_icmp .ne 13, 3) := by decide +kernel
theorem dX3_risesOf_71 : decode cX3_risesOf 71 = .ok (.bipush 100, 2) := by decide +kernel
theorem dX3_risesOf_73 : decode cX3_risesOf 73 = .ok (.iload 7, 2) := by decide +kernel
theorem dX3_risesOf_75 : decode cX3_risesOf 75 = .ok (.imul, 1) := by decide +kernel
theorem dX3_risesOf_76 : decode cX3_risesOf 76 = .ok (.iload 8, 2) := by decide +kernel
theorem dX3_risesOf_78 : decode cX3_risesOf 78 = .ok (.iadd, 1) := by decide +kernel
theorem dX3_risesOf_79 : decode cX3_risesOf 79 = .ok (.istore 6, 2) := by decide +kernel
theorem dX3_risesOf_81 : decode cX3_risesOf 81 = .ok (.iinc 8 1, 3) := by decide +kernel
theorem dX3_risesOf_84 : decode cX3_risesOf 84 = .ok (.goto (-65), 3) := by decide +kernel
theorem dX3_risesOf_87 : decode cX3_risesOf 87 = .ok (.iinc 7 1, 3) := by decide +kernel
theorem dX3_risesOf_90 : decode cX3_risesOf 90 = .ok (.goto (-80), 3) := by decide +kernel
theorem dX3_risesOf_93 : decode cX3_risesOf 93 = .ok (.iload 4, 2) := by decide +kernel
theorem dX3_risesOf_95 : decode cX3_risesOf 95 = .ok (.ifCond .ne 8, 3) := by decide +kernel
theorem dX3_risesOf_98 : decode cX3_risesOf 98 = .ok (.iload 5, 2) := by decide +kernel
theorem dX3_risesOf_100 : decode cX3_risesOf 100 = .ok (.goto 5, 3) := by decide +kernel
theorem dX3_risesOf_103 : decode cX3_risesOf 103 = .ok (.iload 6, 2) := by decide +kernel
theorem dX3_risesOf_105 : decode cX3_risesOf 105 = .ok (.ireturn, 1) := by decide +kernel
theorem dX3_isRise_0 : decode cX3_isRise 0 = .ok (.aload_n 0, 1) := by decide +kernel
theorem dX3_isRise_1 : decode cX3_isRise 1 = .ok (.getfield 12, 3) := by decide +kernel
theorem dX3_isRise_4 : decode cX3_isRise 4 = .ok (.iload_n 1, 1) := by decide +kernel
theorem dX3_isRise_5 : decode cX3_isRise 5 = .ok (.iconst 3, 1) := by decide +kernel
theorem dX3_isRise_6 : decode cX3_isRise 6 = .ok (.invokevirtual 97, 3) := by decide +kernel
theorem dX3_isRise_9 : decode cX3_isRise 9 = .ok (.istore 4, 2) := by decide +kernel
theorem dX3_isRise_11 : decode cX3_isRise 11 = .ok (.aload_n 0, 1) := by decide +kernel
theorem dX3_isRise_12 : decode cX3_isRise 12 = .ok (.getfield 12, 3) := by decide +kernel
theorem dX3_isRise_15 : decode cX3_isRise 15 = .ok (.iload_n 1, 1) := by decide +kernel
theorem dX3_isRise_16 : decode cX3_isRise 16 = .ok (.invokevirtual 135, 3) := by decide +kernel
theorem dX3_isRise_19 : decode cX3_isRise 19 = .ok (.istore 5, 2) := by decide +kernel
theorem dX3_isRise_21 : decode cX3_isRise 21 = .ok (.iconst 0, 1) := by decide +kernel
theorem dX3_isRise_22 : decode cX3_isRise 22 = .ok (.istore 6, 2) := by decide +kernel
theorem dX3_isRise_24 : decode cX3_isRise 24 = .ok (.iload 6, 2) := by decide +kernel
theorem dX3_isRise_26 : decode cX3_isRise 26 = .ok (.iload 5, 2) := by decide +kernel
theorem dX3_isRise_28 : decode cX3_isRise 28 = .ok (.if_icmp .ge 31, 3) := by decide +kernel
theorem dX3_isRise_31 : decode cX3_isRise 31 = .ok (.aload_n 0, 1) := by decide +kernel
theorem dX3_isRise_32 : decode cX3_isRise 32 = .ok (.getfield 12, 3) := by decide +kernel
theorem dX3_isRise_35 : decode cX3_isRise 35 = .ok (.iload_n 2, 1) := by decide +kernel
theorem dX3_isRise_36 : decode cX3_isRise 36 = .ok (.iload 4, 2) := by decide +kernel
theorem dX3_isRise_38 : decode cX3_isRise 38 = .ok (.iload 6, 2) := by decide +kernel
theorem dX3_isRise_40 : decode cX3_isRise 40 = .ok (.iadd, 1) := by decide +kernel
theorem dX3_isRise_41 : decode cX3_isRise 41 = .ok (.invokevirtual 138, 3) := by decide +kernel
theorem dX3_isRise_44 : decode cX3_isRise 44 = .ok (.invokestatic 56, 3) := by decide +kernel
theorem dX3_isRise_47 : decode cX3_isRise 47 = .ok (.iload_n 3, 1) := by decide +kernel
theorem dX3_isRise_48 : decode cX3_isRise 48 = .ok (.if_icmp .lt 5, 3) := by decide +kernel
theorem dX3_isRise_51 : decode cX3_isRise 51 = .ok (.iconst 1, 1) := by decide +kernel
theorem dX3_isRise_52 : decode cX3_isRise 52 = .ok (.ireturn, 1) := by decide +kernel
theorem dX3_isRise_53 : decode cX3_isRise 53 = .ok (.iinc 6 1, 3) := by decide +kernel
theorem dX3_isRise_56 : decode cX3_isRise 56 = .ok (.goto (-32), 3) := by decide +kernel
theorem dX3_isRise_59 : decode cX3_isRise 59 = .ok (.iconst 0, 1) := by decide +kernel
theorem dX3_isRise_60 : decode cX3_isRise 60 = .ok (.ireturn, 1) := by decide +kernel
theorem dX3_kindsBy_0 : decode cX3_kindsBy 0 = .ok (.iconst 0, 1) := by decide +kernel
theorem dX3_kindsBy_1 : decode cX3_kindsBy 1 = .ok (.istore 4, 2) := by decide +kernel
theorem dX3_kindsBy_3 : decode cX3_kindsBy 3 = .ok (.iconst 1, 1) := by decide +kernel
theorem dX3_kindsBy_4 : decode cX3_kindsBy 4 = .ok (.istore 5, 2) := by decide +kernel
theorem dX3_kindsBy_6 : decode cX3_kindsBy 6 = .ok (.iload 5, 2) := by decide +kernel
theorem dX3_kindsBy_8 : decode cX3_kindsBy 8 = .ok (.iconst 5, 1) := by decide +kernel
theorem dX3_kindsBy_9 : decode cX3_kindsBy 9 = .ok (.if_icmp .gt 37, 3) := by decide +kernel
theorem dX3_kindsBy_12 : decode cX3_kindsBy 12 = .ok (.aload_n 0, 1) := by decide +kernel
theorem dX3_kindsBy_13 : decode cX3_kindsBy 13 = .ok (.getfield 12, 3) := by decide +kernel
theorem dX3_kindsBy_16 : decode cX3_kindsBy 16 = .ok (.iload_n 1, 1) := by decide +kernel
theorem dX3_kindsBy_17 : decode cX3_kindsBy 17 = .ok (.iload 5, 2) := by decide +kernel
theorem dX3_kindsBy_19 : decode cX3_kindsBy 19 = .ok (.invokevirtual 141, 3) := by decide +kernel
theorem dX3_kindsBy_22 : decode cX3_kindsBy 22 = .ok (.aload_n 0, 1) := by decide +kernel
theorem dX3_kindsBy_23 : decode cX3_kindsBy 23 = .ok (.iload_n 2, 1) := by decide +kernel
theorem dX3_kindsBy_24 : decode cX3_kindsBy 24 = .ok (.iload_n 3, 1) := by decide +kernel
theorem dX3_kindsBy_25 : decode cX3_kindsBy 25 = .ok (.invokevirtual 144, 3) := by decide +kernel
theorem dX3_kindsBy_28 : decode cX3_kindsBy 28 = .ok (.ifCond .eq 12, 3) := by decide +kernel
theorem dX3_kindsBy_31 : decode cX3_kindsBy 31 = .ok (.iload 4, 2) := by decide +kernel
theorem dX3_kindsBy_33 : decode cX3_kindsBy 33 = .ok (.iconst 1, 1) := by decide +kernel
theorem dX3_kindsBy_34 : decode cX3_kindsBy 34 = .ok (.iload 5, 2) := by decide +kernel
theorem dX3_kindsBy_36 : decode cX3_kindsBy 36 = .ok (.ishl, 1) := by decide +kernel
theorem dX3_kindsBy_37 : decode cX3_kindsBy 37 = .ok (.ior, 1) := by decide +kernel
theorem dX3_kindsBy_38 : decode cX3_kindsBy 38 = .ok (.istore 4, 2) := by decide +kernel
theorem dX3_kindsBy_40 : decode cX3_kindsBy 40 = .ok (.iinc 5 1, 3) := by decide +kernel
theorem dX3_kindsBy_43 : decode cX3_kindsBy 43 = .ok (.goto (-37), 3) := by decide +kernel
theorem dX3_kindsBy_46 : decode cX3_kindsBy 46 = .ok (.iload 4, 2) := by decide +kernel
theorem dX3_kindsBy_48 : decode cX3_kindsBy 48 = .ok (.ireturn, 1) := by decide +kernel
theorem dX3_notesBy_0 : decode cX3_notesBy 0 = .ok (.iconst 0, 1) := by decide +kernel
theorem dX3_notesBy_1 : decode cX3_notesBy 1 = .ok (.istore 4, 2) := by decide +kernel
theorem dX3_notesBy_3 : decode cX3_notesBy 3 = .ok (.iconst 0, 1) := by decide +kernel
theorem dX3_notesBy_4 : decode cX3_notesBy 4 = .ok (.istore 5, 2) := by decide +kernel
theorem dX3_notesBy_6 : decode cX3_notesBy 6 = .ok (.iload 5, 2) := by decide +kernel
theorem dX3_notesBy_8 : decode cX3_notesBy 8 = .ok (.bipush 9, 2) := by decide +kernel
theorem dX3_notesBy_10 : decode cX3_notesBy 10 = .ok (.if_icmp .gt 37, 3) := by decide +kernel
theorem dX3_notesBy_13 : decode cX3_notesBy 13 = .ok (.aload_n 0, 1) := by decide +kernel
theorem dX3_notesBy_14 : decode cX3_notesBy 14 = .ok (.getfield 12, 3) := by decide +kernel
theorem dX3_notesBy_17 : decode cX3_notesBy 17 = .ok (.iload_n 1, 1) := by decide +kernel
theorem dX3_notesBy_18 : decode cX3_notesBy 18 = .ok (.iload 5, 2) := by decide +kernel
theorem dX3_notesBy_20 : decode cX3_notesBy 20 = .ok (.invokevirtual 122, 3) := by decide +kernel
theorem dX3_notesBy_23 : decode cX3_notesBy 23 = .ok (.aload_n 0, 1) := by decide +kernel
theorem dX3_notesBy_24 : decode cX3_notesBy 24 = .ok (.iload_n 2, 1) := by decide +kernel
theorem dX3_notesBy_25 : decode cX3_notesBy 25 = .ok (.iload_n 3, 1) := by decide +kernel
theorem dX3_notesBy_26 : decode cX3_notesBy 26 = .ok (.invokevirtual 144, 3) := by decide +kernel
theorem dX3_notesBy_29 : decode cX3_notesBy 29 = .ok (.ifCond .eq 12, 3) := by decide +kernel
theorem dX3_notesBy_32 : decode cX3_notesBy 32 = .ok (.iload 4, 2) := by decide +kernel
theorem dX3_notesBy_34 : decode cX3_notesBy 34 = .ok (.iconst 1, 1) := by decide +kernel
theorem dX3_notesBy_35 : decode cX3_notesBy 35 = .ok (.iload 5, 2) := by decide +kernel
theorem dX3_notesBy_37 : decode cX3_notesBy 37 = .ok (.ishl, 1) := by decide +kernel
theorem dX3_notesBy_38 : decode cX3_notesBy 38 = .ok (.ior, 1) := by decide +kernel
theorem dX3_notesBy_39 : decode cX3_notesBy 39 = .ok (.istore 4, 2) := by decide +kernel
theorem dX3_notesBy_41 : decode cX3_notesBy 41 = .ok (.iinc 5 1, 3) := by decide +kernel
theorem dX3_notesBy_44 : decode cX3_notesBy 44 = .ok (.goto (-38), 3) := by decide +kernel
theorem dX3_notesBy_47 : decode cX3_notesBy 47 = .ok (.iload 4, 2) := by decide +kernel
theorem dX3_notesBy_49 : decode cX3_notesBy 49 = .ok (.ireturn, 1) := by decide +kernel
theorem dX3_partsBy_0 : decode cX3_partsBy 0 = .ok (.iconst 0, 1) := by decide +kernel
theorem dX3_partsBy_1 : decode cX3_partsBy 1 = .ok (.istore 5, 2) := by decide +kernel
theorem dX3_partsBy_3 : decode cX3_partsBy 3 = .ok (.aload_n 0, 1) := by decide +kernel
theorem dX3_partsBy_4 : decode cX3_partsBy 4 = .ok (.getfield 12, 3) := by decide +kernel
theorem dX3_partsBy_7 : decode cX3_partsBy 7 = .ok (.iload_n 2, 1) := by decide +kernel
theorem dX3_partsBy_8 : decode cX3_partsBy 8 = .ok (.invokevirtual 147, 3) := by decide +kernel
theorem dX3_partsBy_11 : decode cX3_partsBy 11 = .ok (.istore 6, 2) := by decide +kernel
theorem dX3_partsBy_13 : decode cX3_partsBy 13 = .ok (.iload 6, 2) := by decide +kernel
theorem dX3_partsBy_15 : decode cX3_partsBy 15 = .ok (.aload_n 0, 1) := by decide +kernel
theorem dX3_partsBy_16 : decode cX3_partsBy 16 = .ok (.getfield 12, 3) := by decide +kernel
theorem dX3_partsBy_19 : decode cX3_partsBy 19 = .ok (.iload_n 2, 1) := by decide +kernel
theorem dX3_partsBy_20 : decode cX3_partsBy 20 = .ok (.invokevirtual 150, 3) := by decide +kernel
theorem dX3_partsBy_23 : decode cX3_partsBy 23 = .ok (.if_icmp .gt 39, 3) := by decide +kernel
theorem dX3_partsBy_26 : decode cX3_partsBy 26 = .ok (.aload_n 0, 1) := by decide +kernel
theorem dX3_partsBy_27 : decode cX3_partsBy 27 = .ok (.getfield 12, 3) := by decide +kernel
theorem dX3_partsBy_30 : decode cX3_partsBy 30 = .ok (.iload_n 1, 1) := by decide +kernel
theorem dX3_partsBy_31 : decode cX3_partsBy 31 = .ok (.iload_n 2, 1) := by decide +kernel
theorem dX3_partsBy_32 : decode cX3_partsBy 32 = .ok (.iload 6, 2) := by decide +kernel
theorem dX3_partsBy_34 : decode cX3_partsBy 34 = .ok (.invokevirtual 128, 3) := by decide +kernel
theorem dX3_partsBy_37 : decode cX3_partsBy 37 = .ok (.aload_n 0, 1) := by decide +kernel
theorem dX3_partsBy_38 : decode cX3_partsBy 38 = .ok (.iload_n 3, 1) := by decide +kernel
theorem dX3_partsBy_39 : decode cX3_partsBy 39 = .ok (.iload 4, 2) := by decide +kernel
theorem dX3_partsBy_41 : decode cX3_partsBy 41 = .ok (.invokevirtual 144, 3) := by decide +kernel
theorem dX3_partsBy_44 : decode cX3_partsBy 44 = .ok (.ifCond .eq 12, 3) := by decide +kernel
theorem dX3_partsBy_47 : decode cX3_partsBy 47 = .ok (.iload 5, 2) := by decide +kernel
theorem dX3_partsBy_49 : decode cX3_partsBy 49 = .ok (.iconst 1, 1) := by decide +kernel
theorem dX3_partsBy_50 : decode cX3_partsBy 50 = .ok (.iload 6, 2) := by decide +kernel
theorem dX3_partsBy_52 : decode cX3_partsBy 52 = .ok (.ishl, 1) := by decide +kernel
theorem dX3_partsBy_53 : decode cX3_partsBy 53 = .ok (.ior, 1) := by decide +kernel
theorem dX3_partsBy_54 : decode cX3_partsBy 54 = .ok (.istore 5, 2) := by decide +kernel
theorem dX3_partsBy_56 : decode cX3_partsBy 56 = .ok (.iinc 6 1, 3) := by decide +kernel
theorem dX3_partsBy_59 : decode cX3_partsBy 59 = .ok (.goto (-46), 3) := by decide +kernel
theorem dX3_partsBy_62 : decode cX3_partsBy 62 = .ok (.iload 5, 2) := by decide +kernel
theorem dX3_partsBy_64 : decode cX3_partsBy 64 = .ok (.ireturn, 1) := by decide +kernel
theorem dX3_isHeardSo_0 : decode cX3_isHeardSo 0 = .ok (.iconst 0, 1) := by decide +kernel
theorem dX3_isHeardSo_1 : decode cX3_isHeardSo 1 = .ok (.istore_n 3, 1) := by decide +kernel
theorem dX3_isHeardSo_2 : decode cX3_isHeardSo 2 = .ok (.iload_n 3, 1) := by decide +kernel
theorem dX3_isHeardSo_3 : decode cX3_isHeardSo 3 = .ok (.aload_n 0, 1) := by decide +kernel
theorem dX3_isHeardSo_4 : decode cX3_isHeardSo 4 = .ok (.getfield 33, 3) := by decide +kernel
theorem dX3_isHeardSo_7 : decode cX3_isHeardSo 7 = .ok (.if_icmp .ge 37, 3) := by decide +kernel
theorem dX3_isHeardSo_10 : decode cX3_isHeardSo 10 = .ok (.iload_n 3, 1) := by decide +kernel
theorem dX3_isHeardSo_11 : decode cX3_isHeardSo 11 = .ok (.bipush 12, 2) := by decide +kernel
theorem dX3_isHeardSo_13 : decode cX3_isHeardSo 13 = .ok (.if_icmp .ge 31, 3) := by decide +kernel
theorem dX3_isHeardSo_16 : decode cX3_isHeardSo 16 = .ok (.aload_n 0, 1) := by decide +kernel
theorem dX3_isHeardSo_17 : decode cX3_isHeardSo 17 = .ok (.getfield 18, 3) := by decide +kernel
theorem dX3_isHeardSo_20 : decode cX3_isHeardSo 20 = .ok (.iload_n 3, 1) := by decide +kernel
theorem dX3_isHeardSo_21 : decode cX3_isHeardSo 21 = .ok (.iaload, 1) := by decide +kernel
theorem dX3_isHeardSo_22 : decode cX3_isHeardSo 22 = .ok (.aload_n 0, 1) := by decide +kernel
theorem dX3_isHeardSo_23 : decode cX3_isHeardSo 23 = .ok (.getfield 12, 3) := by decide +kernel
theorem dX3_isHeardSo_26 : decode cX3_isHeardSo 26 = .ok (.iload_n 1, 1) := by decide +kernel
theorem dX3_isHeardSo_27 : decode cX3_isHeardSo 27 = .ok (.iload_n 2, 1) := by decide +kernel
theorem dX3_isHeardSo_28 : decode cX3_isHeardSo 28 = .ok (.iload_n 3, 1) := by decide +kernel
theorem dX3_isHeardSo_29 : decode cX3_isHeardSo 29 = .ok (.iadd, 1) := by decide +kernel
theorem dX3_isHeardSo_30 : decode cX3_isHeardSo 30 = .ok (.invokevirtual 138, 3) := by decide +kernel
theorem dX3_isHeardSo_33 : decode cX3_isHeardSo 33 = .ok (.if_icmp .eq 5, 3) := by decide +kernel
theorem dX3_isHeardSo_36 : decode cX3_isHeardSo 36 = .ok (.iconst 0, 1) := by decide +kernel
theorem dX3_isHeardSo_37 : decode cX3_isHeardSo 37 = .ok (.ireturn, 1) := by decide +kernel
theorem dX3_isHeardSo_38 : decode cX3_isHeardSo 38 = .ok (.iinc 3 1, 3) := by decide +kernel
theorem dX3_isHeardSo_41 : decode cX3_isHeardSo 41 = .ok (.goto (-39), 3) := by decide +kernel
theorem dX3_isHeardSo_44 : decode cX3_isHeardSo 44 = .ok (.iconst 1, 1) := by decide +kernel
theorem dX3_isHeardSo_45 : decode cX3_isHeardSo 45 = .ok (.ireturn, 1) := by decide +kernel
theorem dX3_likelihood_0 : decode cX3_likelihood 0 = .ok (.lconst 1, 1) := by decide +kernel
theorem dX3_likelihood_1 : decode cX3_likelihood 1 = .ok (.lstore 5, 2) := by decide +kernel
theorem dX3_likelihood_3 : decode cX3_likelihood 3 = .ok (.lconst 1, 1) := by decide +kernel
theorem dX3_likelihood_4 : decode cX3_likelihood 4 = .ok (.lstore 7, 2) := by decide +kernel
theorem dX3_likelihood_6 : decode cX3_likelihood 6 = .ok (.iconst 0, 1) := by decide +kernel
theorem dX3_likelihood_7 : decode cX3_likelihood 7 = .ok (.istore 9, 2) := by decide +kernel
theorem dX3_likelihood_9 : decode cX3_likelihood 9 = .ok (.iload 9, 2) := by decide +kernel
theorem dX3_likelihood_11 : decode cX3_likelihood 11 = .ok (.bipush 8, 2) := by decide +kernel
theorem dX3_likelihood_13 : decode cX3_likelihood 13 = .ok (.if_icmp .ge 96, 3) := by decide +kernel
theorem dX3_likelihood_16 : decode cX3_likelihood 16 = .ok (.aload_n 0, 1) := by decide +kernel
theorem dX3_likelihood_17 : decode cX3_likelihood 17 = .ok (.getfield 12, 3) := by decide +kernel
theorem dX3_likelihood_20 : decode cX3_likelihood 20 = .ok (.iload_n 1, 1) := by decide +kernel
theorem dX3_likelihood_21 : decode cX3_likelihood 21 = .ok (.iload 9, 2) := by decide +kernel
theorem dX3_likelihood_23 : decode cX3_likelihood 23 = .ok (.invokevirtual 100, 3) := by decide +kernel
theorem dX3_likelihood_26 : decode cX3_likelihood 26 = .ok (.istore 10, 2) := by decide +kernel
theorem dX3_likelihood_28 : decode cX3_likelihood 28 = .ok (.aload_n 0, 1) := by decide +kernel
theorem dX3_likelihood_29 : decode cX3_likelihood 29 = .ok (.getfield 12, 3) := by decide +kernel
theorem dX3_likelihood_32 : decode cX3_likelihood 32 = .ok (.iload 10, 2) := by decide +kernel
theorem dX3_likelihood_34 : decode cX3_likelihood 34 = .ok (.iload_n 2, 1) := by decide +kernel
theorem dX3_likelihood_35 : decode cX3_likelihood 35 = .ok (.invokevirtual 103, 3) := by decide +kernel
theorem dX3_likelihood_38 : decode cX3_likelihood 38 = .ok (.ifCond .ne 6, 3) := by decide +kernel
theorem dX3_likelihood_41 : decode cX3_likelihood 41 = .ok (.goto 62, 3) := by decide +kernel
theorem dX3_likelihood_44 : decode cX3_likelihood 44 = .ok (.aload_n 0, 1) := by decide +kernel
theorem dX3_likelihood_45 : decode cX3_likelihood 45 = .ok (.getfield 12, 3) := by decide +kernel
theorem dX3_likelihood_48 : decode cX3_likelihood 48 = .ok (.iload 10, 2) := by decide +kernel
theorem dX3_likelihood_50 : decode cX3_likelihood 50 = .ok (.invokevirtual 106, 3) := by decide +kernel
theorem dX3_likelihood_53 : decode cX3_likelihood 53 = .ok (.istore 11, 2) := by decide +kernel
theorem dX3_likelihood_55 : decode cX3_likelihood 55 = .ok (.iload 11, 2) := by decide +kernel
theorem dX3_likelihood_57 : decode cX3_likelihood 57 = .ok (.iconst 4, 1) := by decide +kernel
theorem dX3_likelihood_58 : decode cX3_likelihood 58 = .ok (.if_icmp .eq 27, 3) := by decide +kernel
theorem dX3_likelihood_61 : decode cX3_likelihood 61 = .ok (.iload 11, 2) := by decide +kernel
theorem dX3_likelihood_63 : decode cX3_likelihood 63 = .ok (.iconst 5, 1) := by decide +kernel
theorem dX3_likelihood_64 : decode cX3_likelihood 64 = .ok (.if_icmp .eq 21, 3) := by decide +kernel
theorem dX3_likelihood_67 : decode cX3_likelihood 67 = .ok (.lload 5, 2) := by decide +kernel
theorem dX3_likelihood_69 : decode cX3_likelihood 69 = .ok (.ldc2_w 153, 3) := by decide +kernel
theorem dX3_likelihood_72 : decode cX3_likelihood 72 = .ok (.lmul, 1) := by decide +kernel
theorem dX3_likelihood_73 : decode cX3_likelihood 73 = .ok (.lstore 5, 2) := by decide +kernel
theorem dX3_likelihood_75 : decode cX3_likelihood 75 = .ok (.lload 7, 2) := by decide +kernel
theorem dX3_likelihood_77 : decode cX3_likelihood 77 = .ok (.iload_n 3, 1) := by decide +kernel
theorem dX3_likelihood_78 : decode cX3_likelihood 78 = .ok (.i2l, 1) := by decide +kernel
theorem dX3_likelihood_79 : decode cX3_likelihood 79 = .ok (.lmul, 1) := by decide +kernel
theorem dX3_likelihood_80 : decode cX3_likelihood 80 = .ok (.lstore 7, 2) := by decide +kernel
theorem dX3_likelihood_82 : decode cX3_likelihood 82 = .ok (.goto 21, 3) := by decide +kernel
