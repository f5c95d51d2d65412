theorem dX5_readStatement_12 : decode cX5_readStatement 12 = .ok (.ifCond .lt 7, 3) := by decide +kernel
theorem dX5_readStatement_15 : decode cX5_readStatement 15 = .ok (.iconst 1, 1) := by decide +kernel
theorem dX5_readStatement_16 : decode cX5_readStatement 16 = .ok (.goto 4, 3) := by decide +kernel
theorem dX5_readStatement_19 : decode cX5_readStatement 19 = .ok (.iconst 0, 1) := by decide +kernel
theorem dX5_readStatement_20 : decode cX5_readStatement 20 = .ok (.istore_n 3, 1) := by decide +kernel
theorem dX5_readStatement_21 : decode cX5_readStatement 21 = .ok (.iload_n 2, 1) := by decide +kernel
theorem dX5_readStatement_22 : decode cX5_readStatement 22 = .ok (.iconst 3, 1) := by decide +kernel
theorem dX5_readStatement_23 : decode cX5_readStatement 23 = .ok (.if_icmp .ne 12, 3) := by decide +kernel
theorem dX5_readStatement_26 : decode cX5_readStatement 26 = .ok (.iload_n 1, 1) := by decide +kernel
theorem dX5_readStatement_27 : decode cX5_readStatement 27 = .ok (.iconst 4, 1) := by decide +kernel
theorem dX5_readStatement_28 : decode cX5_readStatement 28 = .ok (.if_icmp .ge 7, 3) := by decide +kernel
theorem dX5_readStatement_31 : decode cX5_readStatement 31 = .ok (.iconst 1, 1) := by decide +kernel
theorem dX5_readStatement_32 : decode cX5_readStatement 32 = .ok (.goto 4, 3) := by decide +kernel
theorem dX5_readStatement_35 : decode cX5_readStatement 35 = .ok (.iconst 0, 1) := by decide +kernel
theorem dX5_readStatement_36 : decode cX5_readStatement 36 = .ok (.istore 4, 2) := by decide +kernel
theorem dX5_readStatement_38 : decode cX5_readStatement 38 = .ok (.aload_n 0, 1) := by decide +kernel
theorem dX5_readStatement_39 : decode cX5_readStatement 39 = .ok (.getfield 51, 3) := by decide +kernel
theorem dX5_readStatement_42 : decode cX5_readStatement 42 = .ok (.bipush 12, 2) := by decide +kernel
theorem dX5_readStatement_44 : decode cX5_readStatement 44 = .ok (.if_icmp .ge 22, 3) := by decide +kernel
theorem dX5_readStatement_47 : decode cX5_readStatement 47 = .ok (.iload_n 3, 1) := by decide +kernel
theorem dX5_readStatement_48 : decode cX5_readStatement 48 = .ok (.ifCond .ne 20, 3) := by decide +kernel
theorem dX5_readStatement_51 : decode cX5_readStatement 51 = .ok (.iload 4, 2) := by decide +kernel
theorem dX5_readStatement_53 : decode cX5_readStatement 53 = .ok (.ifCond .ne 15, 3) := by decide +kernel
theorem dX5_readStatement_56 : decode cX5_readStatement 56 = .ok (.iload_n 2, 1) := by decide +kernel
theorem dX5_readStatement_57 : decode cX5_readStatement 57 = .ok (.iconst 2, 1) := by decide +kernel
theorem dX5_readStatement_58 : decode cX5_readStatement 58 = .ok (.if_icmp .eq 10, 3) := by decide +kernel
theorem dX5_readStatement_61 : decode cX5_readStatement 61 = .ok (.iload_n 2, 1) := by decide +kernel
theorem dX5_readStatement_62 : decode cX5_readStatement 62 = .ok (.iconst 4, 1) := by decide +kernel
theorem dX5_readStatement_63 : decode cX5_readStatement 63 = .ok (.if_icmp .eq 5, 3) := by decide +kernel
theorem dX5_readStatement_66 : decode cX5_readStatement 66 = .ok (.iconst 0, 1) := by decide +kernel
theorem dX5_readStatement_67 : decode cX5_readStatement 67 = .ok (.ireturn, 1) := by decide +kernel
theorem dX5_readStatement_68 : decode cX5_readStatement 68 = .ok (.aload_n 0, 1) := by decide +kernel
theorem dX5_readStatement_69 : decode cX5_readStatement 69 = .ok (.dup, 1) := by decide +kernel
theorem dX5_readStatement_70 : decode cX5_readStatement 70 = .ok (.getfield 51, 3) := by decide +kernel
theorem dX5_readStatement_73 : decode cX5_readStatement 73 = .ok (.iconst 1, 1) := by decide +kernel
theorem dX5_readStatement_74 : decode cX5_readStatement 74 = .ok (.iadd, 1) := by decide +kernel
theorem dX5_readStatement_75 : decode cX5_readStatement 75 = .ok (.putfield 51, 3) := by decide +kernel
theorem dX5_readStatement_78 : decode cX5_readStatement 78 = .ok (.aload_n 0, 1) := by decide +kernel
theorem dX5_readStatement_79 : decode cX5_readStatement 79 = .ok (.getfield 20, 3) := by decide +kernel
theorem dX5_readStatement_82 : decode cX5_readStatement 82 = .ok (.invokevirtual 72, 3) := by decide +kernel
theorem dX5_readStatement_85 : decode cX5_readStatement 85 = .ok (.iload 4, 2) := by decide +kernel
theorem dX5_readStatement_87 : decode cX5_readStatement 87 = .ok (.ifCond .eq 9, 3) := by decide +kernel
theorem dX5_readStatement_90 : decode cX5_readStatement 90 = .ok (.aload_n 0, 1) := by decide +kernel
theorem dX5_readStatement_91 : decode cX5_readStatement 91 = .ok (.iload_n 1, 1) := by decide +kernel
theorem dX5_readStatement_92 : decode cX5_readStatement 92 = .ok (.invokevirtual 75, 3) := by decide +kernel
theorem dX5_readStatement_95 : decode cX5_readStatement 95 = .ok (.ireturn, 1) := by decide +kernel
theorem dX5_readStatement_96 : decode cX5_readStatement 96 = .ok (.iload_n 3, 1) := by decide +kernel
theorem dX5_readStatement_97 : decode cX5_readStatement 97 = .ok (.ifCond .eq 14, 3) := by decide +kernel
theorem dX5_readStatement_100 : decode cX5_readStatement 100 = .ok (.aload_n 0, 1) := by decide +kernel
theorem dX5_readStatement_101 : decode cX5_readStatement 101 = .ok (.bipush 61, 2) := by decide +kernel
theorem dX5_readStatement_103 : decode cX5_readStatement 103 = .ok (.invokevirtual 78, 3) := by decide +kernel
theorem dX5_readStatement_106 : decode cX5_readStatement 106 = .ok (.ifCond .ne 5, 3) := by decide +kernel
theorem dX5_readStatement_109 : decode cX5_readStatement 109 = .ok (.iconst 0, 1) := by decide +kernel
theorem dX5_readStatement_110 : decode cX5_readStatement 110 = .ok (.ireturn, 1) := by decide +kernel
theorem dX5_readStatement_111 : decode cX5_readStatement 111 = .ok (.aload_n 0, 1) := by decide +kernel
theorem dX5_readStatement_112 : decode cX5_readStatement 112 = .ok (.iconst 0, 1) := by decide +kernel
theorem dX5_readStatement_113 : decode cX5_readStatement 113 = .ok (.invokevirtual 40, 3) := by decide +kernel
theorem dX5_readStatement_116 : decode cX5_readStatement 116 = .ok (.ifCond .eq 12, 3) := by decide +kernel
theorem dX5_readStatement_119 : decode cX5_readStatement 119 = .ok (.aload_n 0, 1) := by decide +kernel
theorem dX5_readStatement_120 : decode cX5_readStatement 120 = .ok (.bipush 59, 2) := by decide +kernel
theorem dX5_readStatement_122 : decode cX5_readStatement 122 = .ok (.invokevirtual 78, 3) := by decide +kernel
theorem dX5_readStatement_125 : decode cX5_readStatement 125 = .ok (.ifCond .ne 5, 3) := by decide +kernel
theorem dX5_readStatement_128 : decode cX5_readStatement 128 = .ok (.iconst 0, 1) := by decide +kernel
theorem dX5_readStatement_129 : decode cX5_readStatement 129 = .ok (.ireturn, 1) := by decide +kernel
theorem dX5_readStatement_130 : decode cX5_readStatement 130 = .ok (.iload_n 3, 1) := by decide +kernel
theorem dX5_readStatement_131 : decode cX5_readStatement 131 = .ok (.ifCond .eq 28, 3) := by decide +kernel
theorem dX5_readStatement_134 : decode cX5_readStatement 134 = .ok (.aload_n 0, 1) := by decide +kernel
theorem dX5_readStatement_135 : decode cX5_readStatement 135 = .ok (.iload_n 2, 1) := by decide +kernel
theorem dX5_readStatement_136 : decode cX5_readStatement 136 = .ok (.invokestatic 81, 3) := by decide +kernel
theorem dX5_readStatement_139 : decode cX5_readStatement 139 = .ok (.ifCond .eq 8, 3) := by decide +kernel
theorem dX5_readStatement_142 : decode cX5_readStatement 142 = .ok (.bipush 22, 2) := by decide +kernel
theorem dX5_readStatement_144 : decode cX5_readStatement 144 = .ok (.goto 5, 3) := by decide +kernel
theorem dX5_readStatement_147 : decode cX5_readStatement 147 = .ok (.bipush 21, 2) := by decide +kernel
theorem dX5_readStatement_149 : decode cX5_readStatement 149 = .ok (.iload_n 2, 1) := by decide +kernel
theorem dX5_readStatement_150 : decode cX5_readStatement 150 = .ok (.invokestatic 68, 3) := by decide +kernel
theorem dX5_readStatement_153 : decode cX5_readStatement 153 = .ok (.invokevirtual 84, 3) := by decide +kernel
theorem dX5_readStatement_156 : decode cX5_readStatement 156 = .ok (.goto 29, 3) := by decide +kernel
theorem dX5_readStatement_159 : decode cX5_readStatement 159 = .ok (.iload_n 2, 1) := by decide +kernel
theorem dX5_readStatement_160 : decode cX5_readStatement 160 = .ok (.iconst 2, 1) := by decide +kernel
theorem dX5_readStatement_161 : decode cX5_readStatement 161 = .ok (.if_icmp .ne 17, 3) := by decide +kernel
theorem dX5_readStatement_164 : decode cX5_readStatement 164 = .ok (.aload_n 0, 1) := by decide +kernel
theorem dX5_readStatement_165 : decode cX5_readStatement 165 = .ok (.invokevirtual 88, 3) := by decide +kernel
theorem dX5_readStatement_168 : decode cX5_readStatement 168 = .ok (.aload_n 0, 1) := by decide +kernel
theorem dX5_readStatement_169 : decode cX5_readStatement 169 = .ok (.bipush 19, 2) := by decide +kernel
theorem dX5_readStatement_171 : decode cX5_readStatement 171 = .ok (.iconst 0, 1) := by decide +kernel
theorem dX5_readStatement_172 : decode cX5_readStatement 172 = .ok (.invokevirtual 84, 3) := by decide +kernel
theorem dX5_readStatement_175 : decode cX5_readStatement 175 = .ok (.goto 10, 3) := by decide +kernel
theorem dX5_readStatement_178 : decode cX5_readStatement 178 = .ok (.aload_n 0, 1) := by decide +kernel
theorem dX5_readStatement_179 : decode cX5_readStatement 179 = .ok (.bipush 23, 2) := by decide +kernel
theorem dX5_readStatement_181 : decode cX5_readStatement 181 = .ok (.iconst 0, 1) := by decide +kernel
theorem dX5_readStatement_182 : decode cX5_readStatement 182 = .ok (.invokevirtual 84, 3) := by decide +kernel
theorem dX5_readStatement_185 : decode cX5_readStatement 185 = .ok (.iconst 1, 1) := by decide +kernel
theorem dX5_readStatement_186 : decode cX5_readStatement 186 = .ok (.ireturn, 1) := by decide +kernel
theorem dX5_readIf_0 : decode cX5_readIf 0 = .ok (.aload_n 0, 1) := by decide +kernel
theorem dX5_readIf_1 : decode cX5_readIf 1 = .ok (.iconst 0, 1) := by decide +kernel
theorem dX5_readIf_2 : decode cX5_readIf 2 = .ok (.invokevirtual 40, 3) := by decide +kernel
theorem dX5_readIf_5 : decode cX5_readIf 5 = .ok (.ifCond .eq 12, 3) := by decide +kernel
theorem dX5_readIf_8 : decode cX5_readIf 8 = .ok (.aload_n 0, 1) := by decide +kernel
theorem dX5_readIf_9 : decode cX5_readIf 9 = .ok (.bipush 123, 2) := by decide +kernel
theorem dX5_readIf_11 : decode cX5_readIf 11 = .ok (.invokevirtual 78, 3) := by decide +kernel
theorem dX5_readIf_14 : decode cX5_readIf 14 = .ok (.ifCond .ne 5, 3) := by decide +kernel
theorem dX5_readIf_17 : decode cX5_readIf 17 = .ok (.iconst 0, 1) := by decide +kernel
theorem dX5_readIf_18 : decode cX5_readIf 18 = .ok (.ireturn, 1) := by decide +kernel
theorem dX5_readIf_19 : decode cX5_readIf 19 = .ok (.aload_n 0, 1) := by decide +kernel
theorem dX5_readIf_20 : decode cX5_readIf 20 = .ok (.invokevirtual 88, 3) := by decide +kernel
theorem dX5_readIf_23 : decode cX5_readIf 23 = .ok (.aload_n 0, 1) := by decide +kernel
theorem dX5_readIf_24 : decode cX5_readIf 24 = .ok (.getfield 47, 3) := by decide +kernel
theorem dX5_readIf_27 : decode cX5_readIf 27 = .ok (.istore_n 2, 1) := by decide +kernel
theorem dX5_readIf_28 : decode cX5_readIf 28 = .ok (.aload_n 0, 1) := by decide +kernel
theorem dX5_readIf_29 : decode cX5_readIf 29 = .ok (.bipush 20, 2) := by decide +kernel
theorem dX5_readIf_31 : decode cX5_readIf 31 = .ok (.iconst 0, 1) := by decide +kernel
theorem dX5_readIf_32 : decode cX5_readIf 32 = .ok (.invokevirtual 84, 3) := by decide +kernel
theorem dX5_readIf_35 : decode cX5_readIf 35 = .ok (.aload_n 0, 1) := by decide +kernel
theorem dX5_readIf_36 : decode cX5_readIf 36 = .ok (.iload_n 1, 1) := by decide +kernel
theorem dX5_readIf_37 : decode cX5_readIf 37 = .ok (.iconst 1, 1) := by decide +kernel
theorem dX5_readIf_38 : decode cX5_readIf 38 = .ok (.iadd, 1) := by decide +kernel
theorem dX5_readIf_39 : decode cX5_readIf 39 = .ok (.invokevirtual 28, 3) := by decide +kernel
theorem dX5_readIf_42 : decode cX5_readIf 42 = .ok (.ifCond .eq 12, 3) := by decide +kernel
theorem dX5_readIf_45 : decode cX5_readIf 45 = .ok (.aload_n 0, 1) := by decide +kernel
theorem dX5_readIf_46 : decode cX5_readIf 46 = .ok (.bipush 125, 2) := by decide +kernel
theorem dX5_readIf_48 : decode cX5_readIf 48 = .ok (.invokevirtual 78, 3) := by decide +kernel
theorem dX5_readIf_51 : decode cX5_readIf 51 = .ok (.ifCond .ne 5, 3) := by decide +kernel
theorem dX5_readIf_54 : decode cX5_readIf 54 = .ok (.iconst 0, 1) := by decide +kernel
theorem dX5_readIf_55 : decode cX5_readIf 55 = .ok (.ireturn, 1) := by decide +kernel
theorem dX5_readIf_56 : decode cX5_readIf 56 = .ok (.iload_n 2, 1) := by decide +kernel
theorem dX5_readIf_57 : decode cX5_readIf 57 = .ok (.aload_n 0, 1) := by decide +kernel
theorem dX5_readIf_58 : decode cX5_readIf 58 = .ok (.getfield 17, 3) := by decide +kernel
theorem dX5_readIf_61 : decode cX5_readIf 61 = .ok (.arraylength, 1) := by decide +kernel
theorem dX5_readIf_62 : decode cX5_readIf 62 = .ok (.if_icmp .ge 13, 3) := by decide +kernel
theorem dX5_readIf_65 : decode cX5_readIf 65 = .ok (.aload_n 0, 1) := by decide +kernel
theorem dX5_readIf_66 : decode cX5_readIf 66 = .ok (.getfield 17, 3) := by decide +kernel
theorem dX5_readIf_69 : decode cX5_readIf 69 = .ok (.iload_n 2, 1) := by decide +kernel
theorem dX5_readIf_70 : decode cX5_readIf 70 = .ok (.aload_n 0, 1) := by decide +kernel
theorem dX5_readIf_71 : decode cX5_readIf 71 = .ok (.getfield 47, 3) := by decide +kernel
theorem dX5_readIf_74 : decode cX5_readIf 74 = .ok (.iastore, 1) := by decide +kernel
theorem dX5_readIf_75 : decode cX5_readIf 75 = .ok (.iconst 1, 1) := by decide +kernel
theorem dX5_readIf_76 : decode cX5_readIf 76 = .ok (.ireturn, 1) := by decide +kernel
theorem dX5_readExpression_0 : decode cX5_readExpression 0 = .ok (.aload_n 0, 1) := by decide +kernel
theorem dX5_readExpression_1 : decode cX5_readExpression 1 = .ok (.iload_n 1, 1) := by decide +kernel
theorem dX5_readExpression_2 : decode cX5_readExpression 2 = .ok (.invokevirtual 91, 3) := by decide +kernel
theorem dX5_readExpression_5 : decode cX5_readExpression 5 = .ok (.ifCond .ne 5, 3) := by decide +kernel
theorem dX5_readExpression_8 : decode cX5_readExpression 8 = .ok (.iconst 0, 1) := by decide +kernel
theorem dX5_readExpression_9 : decode cX5_readExpression 9 = .ok (.ireturn, 1) := by decide +kernel
theorem dX5_readExpression_10 : decode cX5_readExpression 10 = .ok (.aload_n 0, 1) := by decide +kernel
theorem dX5_readExpression_11 : decode cX5_readExpression 11 = .ok (.getfield 20, 3) := by decide +kernel
theorem dX5_readExpression_14 : decode cX5_readExpression 14 = .ok (.invokevirtual 32, 3) := by decide +kernel
theorem dX5_readExpression_17 : decode cX5_readExpression 17 = .ok (.istore_n 2, 1) := by decide +kernel
theorem dX5_readExpression_18 : decode cX5_readExpression 18 = .ok (.iload_n 2, 1) := by decide +kernel
theorem dX5_readExpression_19 : decode cX5_readExpression 19 = .ok (.bipush 60, 2) := by decide +kernel
theorem dX5_readExpression_21 : decode cX5_readExpression 21 = .ok (.if_icmp .eq 11, 3) := by decide +kernel
theorem dX5_readExpression_24 : decode cX5_readExpression 24 = .ok (.iload_n 2, 1) := by decide +kernel
theorem dX5_readExpression_25 : decode cX5_readExpression 25 = .ok (.bipush 61, 2) := by decide +kernel
theorem dX5_readExpression_27 : decode cX5_readExpression 27 = .ok (.if_icmp .eq 5, 3) := by decide +kernel
theorem dX5_readExpression_30 : decode cX5_readExpression 30 = .ok (.iconst 1, 1) := by decide +kernel
theorem dX5_readExpression_31 : decode cX5_readExpression 31 = .ok (.ireturn, 1) := by decide +kernel
theorem dX5_readExpression_32 : decode cX5_readExpression 32 = .ok (.aload_n 0, 1) := by decide +kernel
theorem dX5_readExpression_33 : decode cX5_readExpression 33 = .ok (.getfield 20, 3) := by decide +kernel
theorem dX5_readExpression_36 : decode cX5_readExpression 36 = .ok (.invokevirtual 72, 3) := by decide +kernel
theorem dX5_readExpression_39 : decode cX5_readExpression 39 = .ok (.aload_n 0, 1) := by decide +kernel
theorem dX5_readExpression_40 : decode cX5_readExpression 40 = .ok (.iload_n 1, 1) := by decide +kernel
theorem dX5_readExpression_41 : decode cX5_readExpression 41 = .ok (.invokevirtual 91, 3) := by decide +kernel
theorem dX5_readExpression_44 : decode cX5_readExpression 44 = .ok (.ifCond .ne 5, 3) := by decide +kernel
theorem dX5_readExpression_47 : decode cX5_readExpression 47 = .ok (.iconst 0, 1) := by decide +kernel
theorem dX5_readExpression_48 : decode cX5_readExpression 48 = .ok (.ireturn, 1) := by decide +kernel
theorem dX5_readExpression_49 : decode cX5_readExpression 49 = .ok (.aload_n 0, 1) := by decide +kernel
theorem dX5_readExpression_50 : decode cX5_readExpression 50 = .ok (.iload_n 2, 1) := by decide +kernel
theorem dX5_readExpression_51 : decode cX5_readExpression 51 = .ok (.bipush 60, 2) := by decide +kernel
theorem dX5_readExpression_53 : decode cX5_readExpression 53 = .ok (.if_icmp .ne 8, 3) := by decide +kernel
theorem dX5_readExpression_56 : decode cX5_readExpression 56 = .ok (.bipush 16, 2) := by decide +kernel
theorem dX5_readExpression_58 : decode cX5_readExpression 58 = .ok (.goto 5, 3) := by decide +kernel
theorem dX5_readExpression_61 : decode cX5_readExpression 61 = .ok (.bipush 17, 2) := by decide +kernel
theorem dX5_readExpression_63 : decode cX5_readExpression 63 = .ok (.iconst 0, 1) := by decide +kernel
theorem dX5_readExpression_64 : decode cX5_readExpression 64 = .ok (.invokevirtual 84, 3) := by decide +kernel
theorem dX5_readExpression_67 : decode cX5_readExpression 67 = .ok (.iconst 1, 1) := by decide +kernel
theorem dX5_readExpression_68 : decode cX5_readExpression 68 = .ok (.ireturn, 1) := by decide +kernel
theorem dX5_readSum_0 : decode cX5_readSum 0 = .ok (.aload_n 0, 1) := by decide +kernel
theorem dX5_readSum_1 : decode cX5_readSum 1 = .ok (.iload_n 1, 1) := by decide +kernel
theorem dX5_readSum_2 : decode cX5_readSum 2 = .ok (.invokevirtual 94, 3) := by decide +kernel
theorem dX5_readSum_5 : decode cX5_readSum 5 = .ok (.ifCond .ne 5, 3) := by decide +kernel
theorem dX5_readSum_8 : decode cX5_readSum 8 = .ok (.iconst 0, 1) := by decide +kernel
theorem dX5_readSum_9 : decode cX5_readSum 9 = .ok (.ireturn, 1) := by decide +kernel
theorem dX5_readSum_10 : decode cX5_readSum 10 = .ok (.iconst 0, 1) := by decide +kernel
theorem dX5_readSum_11 : decode cX5_readSum 11 = .ok (.istore_n 2, 1) := by decide +kernel
theorem dX5_readSum_12 : decode cX5_readSum 12 = .ok (.iload_n 2, 1) := by decide +kernel
theorem dX5_readSum_13 : decode cX5_readSum 13 = .ok (.sipush 208, 3) := by decide +kernel
theorem dX5_readSum_16 : decode cX5_readSum 16 = .ok (.if_icmp .ge 49, 3) := by decide +kernel
theorem dX5_readSum_19 : decode cX5_readSum 19 = .ok (.aload_n 0, 1) := by decide +kernel
theorem dX5_readSum_20 : decode cX5_readSum 20 = .ok (.getfield 20, 3) := by decide +kernel
theorem dX5_readSum_23 : decode cX5_readSum 23 = .ok (.invokevirtual 32, 3) := by decide +kernel
theorem dX5_readSum_26 : decode cX5_readSum 26 = .ok (.invokestatic 97, 3) := by decide +kernel
theorem dX5_readSum_29 : decode cX5_readSum 29 = .ok (.istore_n 3, 1) := by decide +kernel
theorem dX5_readSum_30 : decode cX5_readSum 30 = .ok (.iload_n 3, 1) := by decide +kernel
theorem dX5_readSum_31 : decode cX5_readSum 31 = .ok (.ifCond .ne 5, 3) := by decide +kernel
theorem dX5_readSum_34 : decode cX5_readSum 34 = .ok (.iconst 1, 1) := by decide +kernel
theorem dX5_readSum_35 : decode cX5_readSum 35 = .ok (.ireturn, 1) := by decide +kernel
theorem dX5_readSum_36 : decode cX5_readSum 36 = .ok (.aload_n 0, 1) := by decide +kernel
theorem dX5_readSum_37 : decode cX5_readSum 37 = .ok (.getfield 20, 3) := by decide +kernel
theorem dX5_readSum_40 : decode cX5_readSum 40 = .ok (.invokevirtual 72, 3) := by decide +kernel
theorem dX5_readSum_43 : decode cX5_readSum 43 = .ok (.aload_n 0, 1) := by decide +kernel
theorem dX5_readSum_44 : decode cX5_readSum 44 = .ok (.iload_n 1, 1) := by decide +kernel
theorem dX5_readSum_45 : decode cX5_readSum 45 = .ok (.invokevirtual 94, 3) := by decide +kernel
theorem dX5_readSum_48 : decode cX5_readSum 48 = .ok (.ifCond .ne 5, 3) := by decide +kernel
theorem dX5_readSum_51 : decode cX5_readSum 51 = .ok (.iconst 0, 1) := by decide +kernel
theorem dX5_readSum_52 : decode cX5_readSum 52 = .ok (.ireturn, 1) := by decide +kernel
theorem dX5_readSum_53 : decode cX5_readSum 53 = .ok (.aload_n 0, 1) := by decide +kernel
theorem dX5_readSum_54 : decode cX5_readSum 54 = .ok (.iload_n 3, 1) := by decide +kernel
theorem dX5_readSum_55 : decode cX5_readSum 55 = .ok (.iconst 0, 1) := by decide +kernel
theorem dX5_readSum_56 : decode cX5_readSum 56 = .ok (.invokevirtual 84, 3) := by decide +kernel
theorem dX5_readSum_59 : decode cX5_readSum 59 = .ok (.iinc 2 1, 3) := by decide +kernel
theorem dX5_readSum_62 : decode cX5_readSum 62 = .ok (.goto (-50), 3) := by decide +kernel
theorem dX5_readSum_65 : decode cX5_readSum 65 = .ok (.iconst 1, 1) := by decide +kernel
theorem dX5_readSum_66 : decode cX5_readSum 66 = .ok (.ireturn, 1) := by decide +kernel
theorem dX5_readProduct_0 : decode cX5_readProduct 0 = .ok (.aload_n 0, 1) := by decide +kernel
theorem dX5_readProduct_1 : decode cX5_readProduct 1 = .ok (.iload_n 1, 1) := by decide +kernel
theorem dX5_readProduct_2 : decode cX5_readProduct 2 = .ok (.invokevirtual 100, 3) := by decide +kernel
theorem dX5_readProduct_5 : decode cX5_readProduct 5 = .ok (.ifCond .ne 5, 3) := by decide +kernel
theorem dX5_readProduct_8 : decode cX5_readProduct 8 = .ok (.iconst 0, 1) := by decide +kernel
theorem dX5_readProduct_9 : decode cX5_readProduct 9 = .ok (.ireturn, 1) := by decide +kernel
theorem dX5_readProduct_10 : decode cX5_readProduct 10 = .ok (.iconst 0, 1) := by decide +kernel
theorem dX5_readProduct_11 : decode cX5_readProduct 11 = .ok (.istore_n 2, 1) := by decide +kernel
theorem dX5_readProduct_12 : decode cX5_readProduct 12 = .ok (.iload_n 2, 1) := by decide +kernel
theorem dX5_readProduct_13 : decode cX5_readProduct 13 = .ok (.sipush 208, 3) := by decide +kernel
theorem dX5_readProduct_16 : decode cX5_readProduct 16 = .ok (.if_icmp .ge 49, 3) := by decide +kernel
theorem dX5_readProduct_19 : decode cX5_readProduct 19 = .ok (.aload_n 0, 1) := by decide +kernel
theorem dX5_readProduct_20 : decode cX5_readProduct 20 = .ok (.getfield 20, 3) := by decide +kernel
theorem dX5_readProduct_23 : decode cX5_readProduct 23 = .ok (.invokevirtual 32, 3) := by decide +kernel
theorem dX5_readProduct_26 : decode cX5_readProduct 26 = .ok (.invokestatic 103, 3) := by decide +kernel
theorem dX5_readProduct_29 : decode cX5_readProduct 29 = .ok (.istore_n 3, 1) := by decide +kernel
theorem dX5_readProduct_30 : decode cX5_readProduct 30 = .ok (.iload_n 3, 1) := by decide +kernel
theorem dX5_readProduct_31 : decode cX5_readProduct 31 = .ok (.ifCond .ne 5, 3) := by decide +kernel
theorem dX5_readProduct_34 : decode cX5_readProduct 34 = .ok (.iconst 1, 1) := by decide +kernel
theorem dX5_readProduct_35 : decode cX5_readProduct 35 = .ok (.ireturn, 1) := by decide +kernel
theorem dX5_readProduct_36 : decode cX5_readProduct 36 = .ok (.aload_n 0, 1) := by decide +kernel
theorem dX5_readProduct_37 : decode cX5_readProduct 37 = .ok (.getfield 20, 3) := by decide +kernel
theorem dX5_readProduct_40 : decode cX5_readProduct 40 = .ok (.invokevirtual 72, 3) := by decide +kernel
theorem dX5_readProduct_43 : decode cX5_readProduct 43 = .ok (.aload_n 0, 1) := by decide +kernel
theorem dX5_readProduct_44 : decode cX5_readProduct 44 = .ok (.iload_n 1, 1) := by decide +kernel
theorem dX5_readProduct_45 : decode cX5_readProduct 45 = .ok (.invokevirtual 100, 3) := by decide +kernel
theorem dX5_readProduct_48 : decode cX5_readProduct 48 = .ok (.ifCond .ne 5, 3) := by decide +kernel
theorem dX5_readProduct_51 : decode cX5_readProduct 51 = .ok (.iconst 0, 1) := by decide +kernel
theorem dX5_readProduct_52 : decode cX5_readProduct 52 = .ok (.ireturn, 1) := by decide +kernel
theorem dX5_readProduct_53 : decode cX5_readProduct 53 = .ok (.aload_n 0, 1) := by decide +kernel
theorem dX5_readProduct_54 : decode cX5_readProduct 54 = .ok (.iload_n 3, 1) := by decide +kernel
theorem dX5_readProduct_55 : decode cX5_readProduct 55 = .ok (.iconst 0, 1) := by decide +kernel
theorem dX5_readProduct_56 : decode cX5_readProduct 56 = .ok (.invokevirtual 84, 3) := by decide +kernel
theorem dX5_readProduct_59 : decode cX5_readProduct 59 = .ok (.iinc 2 1, 3) := by decide +kernel
theorem dX5_readProduct_62 : decode cX5_readProduct 62 = .ok (.goto (-50), 3) := by decide +kernel
theorem dX5_readProduct_65 : decode cX5_readProduct 65 = .ok (.iconst 1, 1) := by decide +kernel
theorem dX5_readProduct_66 : decode cX5_readProduct 66 = .ok (.ireturn, 1) := by decide +kernel
theorem dX5_readFactor_0 : decode cX5_readFactor 0 = .ok (.iconst 0, 1) := by decide +kernel
theorem dX5_readFactor_1 : decode cX5_readFactor 1 = .ok (.istore_n 2, 1) := by decide +kernel
theorem dX5_readFactor_2 : decode cX5_readFactor 2 = .ok (.iconst 0, 1) := by decide +kernel
theorem dX5_readFactor_3 : decode cX5_readFactor 3 = .ok (.istore_n 3, 1) := by decide +kernel
theorem dX5_readFactor_4 : decode cX5_readFactor 4 = .ok (.iload_n 2, 1) := by decide +kernel
theorem dX5_readFactor_5 : decode cX5_readFactor 5 = .ok (.bipush 8, 2) := by decide +kernel
theorem dX5_readFactor_7 : decode cX5_readFactor 7 = .ok (.if_icmp .ge 62, 3) := by decide +kernel
theorem dX5_readFactor_10 : decode cX5_readFactor 10 = .ok (.aload_n 0, 1) := by decide +kernel
theorem dX5_readFactor_11 : decode cX5_readFactor 11 = .ok (.getfield 20, 3) := by decide +kernel
theorem dX5_readFactor_14 : decode cX5_readFactor 14 = .ok (.invokevirtual 32, 3) := by decide +kernel
theorem dX5_readFactor_17 : decode cX5_readFactor 17 = .ok (.bipush 33, 2) := by decide +kernel
theorem dX5_readFactor_19 : decode cX5_readFactor 19 = .ok (.if_icmp .eq 15, 3) := by decide +kernel
theorem dX5_readFactor_22 : decode cX5_readFactor 22 = .ok (.aload_n 0, 1) := by decide +kernel
theorem dX5_readFactor_23 : decode cX5_readFactor 23 = .ok (.getfield 20, 3) := by decide +kernel
theorem dX5_readFactor_26 : decode cX5_readFactor 26 = .ok (.invokevirtual 32, 3) := by decide +kernel
theorem dX5_readFactor_29 : decode cX5_readFactor 29 = .ok (.bipush 45, 2) := by decide +kernel
theorem dX5_readFactor_31 : decode cX5_readFactor 31 = .ok (.if_icmp .ne 38, 3) := by decide +kernel
theorem dX5_readFactor_34 : decode cX5_readFactor 34 = .ok (.iload_n 3, 1) := by decide +kernel
theorem dX5_readFactor_35 : decode cX5_readFactor 35 = .ok (.iconst 2, 1) := by decide +kernel
theorem dX5_readFactor_36 : decode cX5_readFactor 36 = .ok (.imul, 1) := by decide +kernel
theorem dX5_readFactor_37 : decode cX5_readFactor 37 = .ok (.aload_n 0, 1) := by decide +kernel
theorem dX5_readFactor_38 : decode cX5_readFactor 38 = .ok (.getfield 20, 3) := by decide +kernel
theorem dX5_readFactor_41 : decode cX5_readFactor 41 = .ok (.invokevirtual 32, 3) := by decide +kernel
theorem dX5_readFactor_44 : decode cX5_readFactor 44 = .ok (.bipush 45, 2) := by decide +kernel
theorem dX5_readFactor_46 : decode cX5_readFactor 46 = .ok (.if_icmp .ne 7, 3) := by decide +kernel
theorem dX5_readFactor_49 : decode cX5_readFactor 49 = .ok (.iconst 1, 1) := by decide +kernel
theorem dX5_readFactor_50 : decode cX5_readFactor 50 = .ok (.goto 4, 3) := by decide +kernel
theorem dX5_readFactor_53 : decode cX5_readFactor 53 = .ok (.iconst 0, 1) := by decide +kernel
theorem dX5_readFactor_54 : decode cX5_readFactor 54 = .ok (.iadd, 1) := by decide +kernel
theorem dX5_readFactor_55 : decode cX5_readFactor 55 = .ok (.istore_n 3, 1) := by decide +kernel
theorem dX5_readFactor_56 : decode cX5_readFactor 56 = .ok (.iinc 2 1, 3) := by decide +kernel
theorem dX5_readFactor_59 : decode cX5_readFactor 59 = .ok (.aload_n 0, 1) := by decide +kernel
theorem dX5_readFactor_60 : decode cX5_readFactor 60 = .ok (.getfield 20, 3) := by decide +kernel
theorem dX5_readFactor_63 : decode cX5_readFactor 63 = .ok (.invokevirtual 72, 3) := by decide +kernel
theorem dX5_readFactor_66 : decode cX5_readFactor 66 = .ok (.goto (-62), 3) := by decide +kernel
theorem dX5_readFactor_69 : decode cX5_readFactor 69 = .ok (.aload_n 0, 1) := by decide +kernel
theorem dX5_readFactor_70 : decode cX5_readFactor 70 = .ok (.getfield 20, 3) := by decide +kernel
theorem dX5_readFactor_73 : decode cX5_readFactor 73 = .ok (.invokevirtual 32, 3) := by decide +kernel
theorem dX5_readFactor_76 : decode cX5_readFactor 76 = .ok (.bipush 40, 2) := by decide +kernel
theorem dX5_readFactor_78 : decode cX5_readFactor 78 = .ok (.if_icmp .ne 14, 3) := by decide +kernel
theorem dX5_readFactor_81 : decode cX5_readFactor 81 = .ok (.aload_n 0, 1) := by decide +kernel
theorem dX5_readFactor_82 : decode cX5_readFactor 82 = .ok (.iload_n 1, 1) := by decide +kernel
theorem dX5_readFactor_83 : decode cX5_readFactor 83 = .ok (.invokevirtual 106, 3) := by decide +kernel
theorem dX5_readFactor_86 : decode cX5_readFactor 86 = .ok (.ifCond .ne 15, 3) := by decide +kernel
theorem dX5_readFactor_89 : decode cX5_readFactor 89 = .ok (.goto 10, 3) := by decide +kernel
theorem dX5_readFactor_92 : decode cX5_readFactor 92 = .ok (.aload_n 0, 1) := by decide +kernel
theorem dX5_readFactor_93 : decode cX5_readFactor 93 = .ok (.invokevirtual 109, 3) := by decide +kernel
theorem dX5_readFactor_96 : decode cX5_readFactor 96 = .ok (.ifCond .ne 5, 3) := by decide +kernel
theorem dX5_readFactor_99 : decode cX5_readFactor 99 = .ok (.iconst 0, 1) := by decide +kernel
theorem dX5_readFactor_100 : decode cX5_readFactor 100 = .ok (.ireturn, 1) := by decide +kernel
theorem dX5_readFactor_101 : decode cX5_readFactor 101 = .ok (.iconst 0, 1) := by decide +kernel
theorem dX5_readFactor_102 : decode cX5_readFactor 102 = .ok (.istore 4, 2) := by decide +kernel
theorem dX5_readFactor_104 : decode cX5_readFactor 104 = .ok (.iload 4, 2) := by decide +kernel
theorem dX5_readFactor_106 : decode cX5_readFactor 106 = .ok (.iload_n 2, 1) := by decide +kernel
theorem dX5_readFactor_107 : decode cX5_readFactor 107 = .ok (.if_icmp .ge 31, 3) := by decide +kernel
theorem dX5_readFactor_110 : decode cX5_readFactor 110 = .ok (.aload_n 0, 1) := by decide +kernel
theorem dX5_readFactor_111 : decode cX5_readFactor 111 = .ok (.iload_n 3, 1) := by decide +kernel
theorem dX5_readFactor_112 : decode cX5_readFactor 112 = .ok (.iload 4, 2) := by decide +kernel
theorem dX5_readFactor_114 : decode cX5_readFactor 114 = .ok (.ishr, 1) := by decide +kernel
theorem dX5_readFactor_115 : decode cX5_readFactor 115 = .ok (.iconst 1, 1) := by decide +kernel
theorem dX5_readFactor_116 : decode cX5_readFactor 116 = .ok (.iand, 1) := by decide +kernel
theorem dX5_readFactor_117 : decode cX5_readFactor 117 = .ok (.iconst 1, 1) := by decide +kernel
theorem dX5_readFactor_118 : decode cX5_readFactor 118 = .ok (.if_icmp .ne 8, 3) := by decide +kernel
theorem dX5_readFactor_121 : decode cX5_readFactor 121 = .ok (.bipush 9, 2) := by decide +kernel
theorem dX5_readFactor_123 : decode cX5_readFactor 123 = .ok (.goto 5, 3) := by decide +kernel
theorem dX5_readFactor_126 : decode cX5_readFactor 126 = .ok (.bipush 8, 2) := by decide +kernel
theorem dX5_readFactor_128 : decode cX5_readFactor 128 = .ok (.iconst 0, 1) := by decide +kernel
theorem dX5_readFactor_129 : decode cX5_readFactor 129 = .ok (.invokevirtual 84, 3) := by decide +kernel
theorem dX5_readFactor_132 : decode cX5_readFactor 132 = .ok (.iinc 4 1, 3) := by decide +kernel
theorem dX5_readFactor_135 : decode cX5_readFactor 135 = .ok (.goto (-31), 3) := by decide +kernel
theorem dX5_readFactor_138 : decode cX5_readFactor 138 = .ok (.iconst 1, 1) := by decide +kernel
theorem dX5_readFactor_139 : decode cX5_readFactor 139 = .ok (.ireturn, 1) := by decide +kernel
theorem dX5_readParenthesis_0 : decode cX5_readParenthesis 0 = .ok (.iload_n 1, 1) := by decide +kernel
theorem dX5_readParenthesis_1 : decode cX5_readParenthesis 1 = .ok (.bipush 8, 2) := by decide +kernel
theorem dX5_readParenthesis_3 : decode cX5_readParenthesis 3 = .ok (.if_icmp .lt 5, 3) := by decide +kernel
theorem dX5_readParenthesis_6 : decode cX5_readParenthesis 6 = .ok (.iconst 0, 1) := by decide +kernel
theorem dX5_readParenthesis_7 : decode cX5_readParenthesis 7 = .ok (.ireturn, 1) := by decide +kernel
theorem dX5_readParenthesis_8 : decode cX5_readParenthesis 8 = .ok (.aload_n 0, 1) := by decide +kernel
theorem dX5_readParenthesis_9 : decode cX5_readParenthesis 9 = .ok (.getfield 20, 3) := by decide +kernel
theorem dX5_readParenthesis_12 : decode cX5_readParenthesis 12 = .ok (.invokevirtual 72, 3) := by decide +kernel
theorem dX5_readParenthesis_15 : decode cX5_readParenthesis 15 = .ok (.aload_n 0, 1) := by decide +kernel
theorem dX5_readParenthesis_16 : decode cX5_readParenthesis 16 = .ok (.iload_n 1, 1) := by decide +kernel
theorem dX5_readParenthesis_17 : decode cX5_readParenthesis 17 = .ok (.iconst 1, 1) := by decide +kernel
theorem dX5_readParenthesis_18 : decode cX5_readParenthesis 18 = .ok (.iadd, 1) := by decide +kernel
theorem dX5_readParenthesis_19 : decode cX5_readParenthesis 19 = .ok (.invokevirtual 40, 3) := by decide +kernel
theorem dX5_readParenthesis_22 : decode cX5_readParenthesis 22 = .ok (.ifCond .eq 16, 3) := by decide +kernel
theorem dX5_readParenthesis_25 : decode cX5_readParenthesis 25 = .ok (.aload_n 0, 1) := by decide +kernel
theorem dX5_readParenthesis_26 : decode cX5_readParenthesis 26 = .ok (.bipush 41, 2) := by decide +kernel
theorem dX5_readParenthesis_28 : decode cX5_readParenthesis 28 = .ok (.invokevirtual 78, 3) := by decide +kernel
theorem dX5_readParenthesis_31 : decode cX5_readParenthesis 31 = .ok (.ifCond .eq 7, 3) := by decide +kernel
theorem dX5_readParenthesis_34 : decode cX5_readParenthesis 34 = .ok (.iconst 1, 1) := by decide +kernel
theorem dX5_readParenthesis_35 : decode cX5_readParenthesis 35 = .ok (.goto 4, 3) := by decide +kernel
theorem dX5_readParenthesis_38 : decode cX5_readParenthesis 38 = .ok (.iconst 0, 1) := by decide +kernel
theorem dX5_readParenthesis_39 : decode cX5_readParenthesis 39 = .ok (.ireturn, 1) := by decide +kernel
theorem dX5_readOperand_0 : decode cX5_readOperand 0 = .ok (.aload_n 0, 1) := by decide +kernel
theorem dX5_readOperand_1 : decode cX5_readOperand 1 = .ok (.getfield 20, 3) := by decide +kernel
theorem dX5_readOperand_4 : decode cX5_readOperand 4 = .ok (.invokevirtual 32, 3) := by decide +kernel
theorem dX5_readOperand_7 : decode cX5_readOperand 7 = .ok (.istore_n 1, 1) := by decide +kernel
theorem dX5_readOperand_8 : decode cX5_readOperand 8 = .ok (.iload_n 1, 1) := by decide +kernel
theorem dX5_readOperand_9 : decode cX5_readOperand 9 = .ok (.iconst 1, 1) := by decide +kernel
theorem dX5_readOperand_10 : decode cX5_readOperand 10 = .ok (.if_icmp .ne 18, 3) := by decide +kernel
theorem dX5_readOperand_13 : decode cX5_readOperand 13 = .ok (.aload_n 0, 1) := by decide +kernel
theorem dX5_readOperand_14 : decode cX5_readOperand 14 = .ok (.iconst 1, 1) := by decide +kernel
theorem dX5_readOperand_15 : decode cX5_readOperand 15 = .ok (.aload_n 0, 1) := by decide +kernel
theorem dX5_readOperand_16 : decode cX5_readOperand 16 = .ok (.getfield 20, 3) := by decide +kernel
theorem dX5_readOperand_19 : decode cX5_readOperand 19 = .ok (.invokevirtual 113, 3) := by decide +kernel
theorem dX5_readOperand_22 : decode cX5_readOperand 22 = .ok (.invokevirtual 84, 3) := by decide +kernel
theorem dX5_readOperand_25 : decode cX5_readOperand 25 = .ok (.goto 106, 3) := by decide +kernel
theorem dX5_readOperand_28 : decode cX5_readOperand 28 = .ok (.iload_n 1, 1) := by decide +kernel
theorem dX5_readOperand_29 : decode cX5_readOperand 29 = .ok (.bipush 104, 2) := by decide +kernel
theorem dX5_readOperand_31 : decode cX5_readOperand 31 = .ok (.if_icmp .ne 13, 3) := by decide +kernel
theorem dX5_readOperand_34 : decode cX5_readOperand 34 = .ok (.aload_n 0, 1) := by decide +kernel
theorem dX5_readOperand_35 : decode cX5_readOperand 35 = .ok (.iconst 2, 1) := by decide +kernel
theorem dX5_readOperand_36 : decode cX5_readOperand 36 = .ok (.bipush 18, 2) := by decide +kernel
theorem dX5_readOperand_38 : decode cX5_readOperand 38 = .ok (.invokevirtual 84, 3) := by decide +kernel
theorem dX5_readOperand_41 : decode cX5_readOperand 41 = .ok (.goto 90, 3) := by decide +kernel
theorem dX5_readOperand_44 : decode cX5_readOperand 44 = .ok (.iload_n 1, 1) := by decide +kernel
theorem dX5_readOperand_45 : decode cX5_readOperand 45 = .ok (.bipush 80, 2) := by decide +kernel
theorem dX5_readOperand_47 : decode cX5_readOperand 47 = .ok (.if_icmp .eq 9, 3) := by decide +kernel
theorem dX5_readOperand_50 : decode cX5_readOperand 50 = .ok (.iload_n 1, 1) := by decide +kernel
theorem dX5_readOperand_51 : decode cX5_readOperand 51 = .ok (.bipush 81, 2) := by decide +kernel
theorem dX5_readOperand_53 : decode cX5_readOperand 53 = .ok (.if_icmp .ne 24, 3) := by decide +kernel
theorem dX5_readOperand_56 : decode cX5_readOperand 56 = .ok (.aload_n 0, 1) := by decide +kernel
theorem dX5_readOperand_57 : decode cX5_readOperand 57 = .ok (.iconst 4, 1) := by decide +kernel
theorem dX5_readOperand_58 : decode cX5_readOperand 58 = .ok (.iload_n 1, 1) := by decide +kernel
theorem dX5_readOperand_59 : decode cX5_readOperand 59 = .ok (.bipush 80, 2) := by decide +kernel
theorem dX5_readOperand_61 : decode cX5_readOperand 61 = .ok (.if_icmp .ne 8, 3) := by decide +kernel
theorem dX5_readOperand_64 : decode cX5_readOperand 64 = .ok (.bipush 6, 2) := by decide +kernel
theorem dX5_readOperand_66 : decode cX5_readOperand 66 = .ok (.goto 5, 3) := by decide +kernel
theorem dX5_readOperand_69 : decode cX5_readOperand 69 = .ok (.bipush 10, 2) := by decide +kernel
theorem dX5_readOperand_71 : decode cX5_readOperand 71 = .ok (.invokevirtual 84, 3) := by decide +kernel
theorem dX5_readOperand_74 : decode cX5_readOperand 74 = .ok (.goto 57, 3) := by decide +kernel
theorem dX5_readOperand_77 : decode cX5_readOperand 77 = .ok (.iload_n 1, 1) := by decide +kernel
theorem dX5_readOperand_78 : decode cX5_readOperand 78 = .ok (.invokestatic 68, 3) := by decide +kernel
theorem dX5_readOperand_81 : decode cX5_readOperand 81 = .ok (.ifCond .lt 22, 3) := by decide +kernel
theorem dX5_readOperand_84 : decode cX5_readOperand 84 = .ok (.iload_n 1, 1) := by decide +kernel
theorem dX5_readOperand_85 : decode cX5_readOperand 85 = .ok (.invokestatic 81, 3) := by decide +kernel
theorem dX5_readOperand_88 : decode cX5_readOperand 88 = .ok (.ifCond .ne 15, 3) := by decide +kernel
theorem dX5_readOperand_91 : decode cX5_readOperand 91 = .ok (.aload_n 0, 1) := by decide +kernel
theorem dX5_readOperand_92 : decode cX5_readOperand 92 = .ok (.iconst 2, 1) := by decide +kernel
theorem dX5_readOperand_93 : decode cX5_readOperand 93 = .ok (.iload_n 1, 1) := by decide +kernel
theorem dX5_readOperand_94 : decode cX5_readOperand 94 = .ok (.invokestatic 68, 3) := by decide +kernel
theorem dX5_readOperand_97 : decode cX5_readOperand 97 = .ok (.invokevirtual 84, 3) := by decide +kernel
theorem dX5_readOperand_100 : decode cX5_readOperand 100 = .ok (.goto 31, 3) := by decide +kernel
theorem dX5_readOperand_103 : decode cX5_readOperand 103 = .ok (.aload_n 0, 1) := by decide +kernel
theorem dX5_readOperand_104 : decode cX5_readOperand 104 = .ok (.getfield 43, 3) := by decide +kernel
theorem dX5_readOperand_107 : decode cX5_readOperand 107 = .ok (.ifCond .eq 14, 3) := by decide +kernel
theorem dX5_readOperand_110 : decode cX5_readOperand 110 = .ok (.aload_n 0, 1) := by decide +kernel
theorem dX5_readOperand_111 : decode cX5_readOperand 111 = .ok (.iload_n 1, 1) := by decide +kernel
theorem dX5_readOperand_112 : decode cX5_readOperand 112 = .ok (.invokevirtual 116, 3) := by decide +kernel
theorem dX5_readOperand_115 : decode cX5_readOperand 115 = .ok (.ifCond .ne 16, 3) := by decide +kernel
theorem dX5_readOperand_118 : decode cX5_readOperand 118 = .ok (.goto 11, 3) := by decide +kernel
theorem dX5_readOperand_121 : decode cX5_readOperand 121 = .ok (.aload_n 0, 1) := by decide +kernel
theorem dX5_readOperand_122 : decode cX5_readOperand 122 = .ok (.iload_n 1, 1) := by decide +kernel
theorem dX5_readOperand_123 : decode cX5_readOperand 123 = .ok (.invokevirtual 119, 3) := by decide +kernel
theorem dX5_readOperand_126 : decode cX5_readOperand 126 = .ok (.ifCond .ne 5, 3) := by decide +kernel
theorem dX5_readOperand_129 : decode cX5_readOperand 129 = .ok (.iconst 0, 1) := by decide +kernel
theorem dX5_readOperand_130 : decode cX5_readOperand 130 = .ok (.ireturn, 1) := by decide +kernel
theorem dX5_readOperand_131 : decode cX5_readOperand 131 = .ok (.aload_n 0, 1) := by decide +kernel
theorem dX5_readOperand_132 : decode cX5_readOperand 132 = .ok (.getfield 20, 3) := by decide +kernel
theorem dX5_readOperand_135 : decode cX5_readOperand 135 = .ok (.invokevirtual 72, 3) := by decide +kernel
theorem dX5_readOperand_138 : decode cX5_readOperand 138 = .ok (.iconst 1, 1) := by decide +kernel
theorem dX5_readOperand_139 : decode cX5_readOperand 139 = .ok (.ireturn, 1) := by decide +kernel
theorem dX5_addMoney_0 : decode cX5_addMoney 0 = .ok (.iload_n 1, 1) := by decide +kernel
theorem dX5_addMoney_1 : decode cX5_addMoney 1 = .ok (.iconst 5, 1) := by decide +kernel
theorem dX5_addMoney_2 : decode cX5_addMoney 2 = .ok (.if_icmp .lt 9, 3) := by decide +kernel
theorem dX5_addMoney_5 : decode cX5_addMoney 5 = .ok (.iload_n 1, 1) := by decide +kernel
theorem dX5_addMoney_6 : decode cX5_addMoney 6 = .ok (.bipush 8, 2) := by decide +kernel
theorem dX5_addMoney_8 : decode cX5_addMoney 8 = .ok (.if_icmp .le 5, 3) := by decide +kernel
theorem dX5_addMoney_11 : decode cX5_addMoney 11 = .ok (.iconst 0, 1) := by decide +kernel
theorem dX5_addMoney_12 : decode cX5_addMoney 12 = .ok (.ireturn, 1) := by decide +kernel
theorem dX5_addMoney_13 : decode cX5_addMoney 13 = .ok (.aload_n 0, 1) := by decide +kernel
theorem dX5_addMoney_14 : decode cX5_addMoney 14 = .ok (.iconst 2, 1) := by decide +kernel
theorem dX5_addMoney_15 : decode cX5_addMoney 15 = .ok (.bipush 14, 2) := by decide +kernel
theorem dX5_addMoney_17 : decode cX5_addMoney 17 = .ok (.iload_n 1, 1) := by decide +kernel
theorem dX5_addMoney_18 : decode cX5_addMoney 18 = .ok (.iadd, 1) := by decide +kernel
theorem dX5_addMoney_19 : decode cX5_addMoney 19 = .ok (.iconst 5, 1) := by decide +kernel
theorem dX5_addMoney_20 : decode cX5_addMoney 20 = .ok (.isub, 1) := by decide +kernel
theorem dX5_addMoney_21 : decode cX5_addMoney 21 = .ok (.invokevirtual 84, 3) := by decide +kernel
theorem dX5_addMoney_24 : decode cX5_addMoney 24 = .ok (.iconst 1, 1) := by decide +kernel
theorem dX5_addMoney_25 : decode cX5_addMoney 25 = .ok (.ireturn, 1) := by decide +kernel
theorem dX5_addOfCall_0 : decode cX5_addOfCall 0 = .ok (.iload_n 1, 1) := by decide +kernel
theorem dX5_addOfCall_1 : decode cX5_addOfCall 1 = .ok (.invokestatic 81, 3) := by decide +kernel
theorem dX5_addOfCall_4 : decode cX5_addOfCall 4 = .ok (.ifCond .eq 15, 3) := by decide +kernel
theorem dX5_addOfCall_7 : decode cX5_addOfCall 7 = .ok (.aload_n 0, 1) := by decide +kernel
theorem dX5_addOfCall_8 : decode cX5_addOfCall 8 = .ok (.iconst 3, 1) := by decide +kernel
theorem dX5_addOfCall_9 : decode cX5_addOfCall 9 = .ok (.iload_n 1, 1) := by decide +kernel
theorem dX5_addOfCall_10 : decode cX5_addOfCall 10 = .ok (.invokestatic 68, 3) := by decide +kernel
theorem dX5_addOfCall_13 : decode cX5_addOfCall 13 = .ok (.invokevirtual 84, 3) := by decide +kernel
theorem dX5_addOfCall_16 : decode cX5_addOfCall 16 = .ok (.goto 52, 3) := by decide +kernel
theorem dX5_addOfCall_19 : decode cX5_addOfCall 19 = .ok (.iload_n 1, 1) := by decide +kernel
theorem dX5_addOfCall_20 : decode cX5_addOfCall 20 = .ok (.bipush 110, 2) := by decide +kernel
theorem dX5_addOfCall_22 : decode cX5_addOfCall 22 = .ok (.if_icmp .ne 12, 3) := by decide +kernel
theorem dX5_addOfCall_25 : decode cX5_addOfCall 25 = .ok (.aload_n 0, 1) := by decide +kernel
theorem dX5_addOfCall_26 : decode cX5_addOfCall 26 = .ok (.iconst 5, 1) := by decide +kernel
theorem dX5_addOfCall_27 : decode cX5_addOfCall 27 = .ok (.iconst 0, 1) := by decide +kernel
theorem dX5_addOfCall_28 : decode cX5_addOfCall 28 = .ok (.invokevirtual 84, 3) := by decide +kernel
theorem dX5_addOfCall_31 : decode cX5_addOfCall 31 = .ok (.goto 37, 3) := by decide +kernel
theorem dX5_addOfCall_34 : decode cX5_addOfCall 34 = .ok (.iload_n 1, 1) := by decide +kernel
theorem dX5_addOfCall_35 : decode cX5_addOfCall 35 = .ok (.bipush 118, 2) := by decide +kernel
theorem dX5_addOfCall_37 : decode cX5_addOfCall 37 = .ok (.if_icmp .ne 13, 3) := by decide +kernel
theorem dX5_addOfCall_40 : decode cX5_addOfCall 40 = .ok (.aload_n 0, 1) := by decide +kernel
theorem dX5_addOfCall_41 : decode cX5_addOfCall 41 = .ok (.bipush 6, 2) := by decide +kernel
theorem dX5_addOfCall_43 : decode cX5_addOfCall 43 = .ok (.iconst 0, 1) := by decide +kernel
theorem dX5_addOfCall_44 : decode cX5_addOfCall 44 = .ok (.invokevirtual 84, 3) := by decide +kernel
theorem dX5_addOfCall_47 : decode cX5_addOfCall 47 = .ok (.goto 21, 3) := by decide +kernel
theorem dX5_addOfCall_50 : decode cX5_addOfCall 50 = .ok (.iload_n 1, 1) := by decide +kernel
theorem dX5_addOfCall_51 : decode cX5_addOfCall 51 = .ok (.bipush 119, 2) := by decide +kernel
theorem dX5_addOfCall_53 : decode cX5_addOfCall 53 = .ok (.if_icmp .ne 13, 3) := by decide +kernel
theorem dX5_addOfCall_56 : decode cX5_addOfCall 56 = .ok (.aload_n 0, 1) := by decide +kernel
theorem dX5_addOfCall_57 : decode cX5_addOfCall 57 = .ok (.bipush 7, 2) := by decide +kernel
theorem dX5_addOfCall_59 : decode cX5_addOfCall 59 = .ok (.iconst 0, 1) := by decide +kernel
theorem dX5_addOfCall_60 : decode cX5_addOfCall 60 = .ok (.invokevirtual 84, 3) := by decide +kernel
theorem dX5_addOfCall_63 : decode cX5_addOfCall 63 = .ok (.goto 5, 3) := by decide +kernel
theorem dX5_addOfCall_66 : decode cX5_addOfCall 66 = .ok (.iconst 0, 1) := by decide +kernel
theorem dX5_addOfCall_67 : decode cX5_addOfCall 67 = .ok (.ireturn, 1) := by decide +kernel
theorem dX5_addOfCall_68 : decode cX5_addOfCall 68 = .ok (.iconst 1, 1) := by decide +kernel
theorem dX5_addOfCall_69 : decode cX5_addOfCall 69 = .ok (.ireturn, 1) := by decide +kernel
theorem dX5_pass_0 : decode cX5_pass 0 = .ok (.aload_n 0, 1) := by decide +kernel
theorem dX5_pass_1 : decode cX5_pass 1 = .ok (.getfield 20, 3) := by decide +kernel
theorem dX5_pass_4 : decode cX5_pass 4 = .ok (.invokevirtual 32, 3) := by decide +kernel
theorem dX5_pass_7 : decode cX5_pass 7 = .ok (.iload_n 1, 1) := by decide +kernel
theorem dX5_pass_8 : decode cX5_pass 8 = .ok (.if_icmp .eq 5, 3) := by decide +kernel
theorem dX5_pass_11 : decode cX5_pass 11 = .ok (.iconst 0, 1) := by decide +kernel
theorem dX5_pass_12 : decode cX5_pass 12 = .ok (.ireturn, 1) := by decide +kernel
theorem dX5_pass_13 : decode cX5_pass 13 = .ok (.aload_n 0, 1) := by decide +kernel
theorem dX5_pass_14 : decode cX5_pass 14 = .ok (.getfield 20, 3) := by decide +kernel
theorem dX5_pass_17 : decode cX5_pass 17 = .ok (.invokevirtual 72, 3) := by decide +kernel
theorem dX5_pass_20 : decode cX5_pass 20 = .ok (.iconst 1, 1) := by decide +kernel
theorem dX5_pass_21 : decode cX5_pass 21 = .ok (.ireturn, 1) := by decide +kernel
theorem dX5_add_0 : decode cX5_add 0 = .ok (.aload_n 0, 1) := by decide +kernel
theorem dX5_add_1 : decode cX5_add 1 = .ok (.getfield 47, 3) := by decide +kernel
theorem dX5_add_4 : decode cX5_add 4 = .ok (.aload_n 0, 1) := by decide +kernel
theorem dX5_add_5 : decode cX5_add 5 = .ok (.getfield 11, 3) := by decide +kernel
theorem dX5_add_8 : decode cX5_add 8 = .ok (.arraylength, 1) := by decide +kernel
theorem dX5_add_9 : decode cX5_add 9 = .ok (.if_icmp .ge 45, 3) := by decide +kernel
theorem dX5_add_12 : decode cX5_add 12 = .ok (.aload_n 0, 1) := by decide +kernel
theorem dX5_add_13 : decode cX5_add 13 = .ok (.getfield 47, 3) := by decide +kernel
theorem dX5_add_16 : decode cX5_add 16 = .ok (.aload_n 0, 1) := by decide +kernel
theorem dX5_add_17 : decode cX5_add 17 = .ok (.getfield 17, 3) := by decide +kernel
theorem dX5_add_20 : decode cX5_add 20 = .ok (.arraylength, 1) := by decide +kernel
theorem dX5_add_21 : decode cX5_add 21 = .ok (.if_icmp .ge 33, 3) := by decide +kernel
theorem dX5_add_24 : decode cX5_add 24 = .ok (.aload_n 0, 1) := by decide +kernel
theorem dX5_add_25 : decode cX5_add 25 = .ok (.getfield 11, 3) := by decide +kernel
theorem dX5_add_28 : decode cX5_add 28 = .ok (.aload_n 0, 1) := by decide +kernel
theorem dX5_add_29 : decode cX5_add 29 = .ok (.getfield 47, 3) := by decide +kernel
theorem dX5_add_32 : decode cX5_add 32 = .ok (.iload_n 1, 1) := by decide +kernel
theorem dX5_add_33 : decode cX5_add 33 = .ok (.iastore, 1) := by decide +kernel
theorem dX5_add_34 : decode cX5_add 34 = .ok (.aload_n 0, 1) := by decide +kernel
theorem dX5_add_35 : decode cX5_add 35 = .ok (.getfield 17, 3) := by decide +kernel
theorem dX5_add_38 : decode cX5_add 38 = .ok (.aload_n 0, 1) := by decide +kernel
theorem dX5_add_39 : decode cX5_add 39 = .ok (.getfield 47, 3) := by decide +kernel
theorem dX5_add_42 : decode cX5_add 42 = .ok (.iload_n 2, 1) := by decide +kernel
theorem dX5_add_43 : decode cX5_add 43 = .ok (.iastore, 1) := by decide +kernel
theorem dX5_add_44 : decode cX5_add 44 = .ok (.aload_n 0, 1) := by decide +kernel
theorem dX5_add_45 : decode cX5_add 45 = .ok (.dup, 1) := by decide +kernel
theorem dX5_add_46 : decode cX5_add 46 = .ok (.getfield 47, 3) := by decide +kernel
theorem dX5_add_49 : decode cX5_add 49 = .ok (.iconst 1, 1) := by decide +kernel
theorem dX5_add_50 : decode cX5_add 50 = .ok (.iadd, 1) := by decide +kernel
theorem dX5_add_51 : decode cX5_add 51 = .ok (.putfield 47, 3) := by decide +kernel
theorem dX5_add_54 : decode cX5_add 54 = .ok (.return_, 1) := by decide +kernel
theorem dX5_addLeaves_0 : decode cX5_addLeaves 0 = .ok (.aload_n 0, 1) := by decide +kernel
theorem dX5_addLeaves_1 : decode cX5_addLeaves 1 = .ok (.bipush 18, 2) := by decide +kernel
theorem dX5_addLeaves_3 : decode cX5_addLeaves 3 = .ok (.aload_n 0, 1) := by decide +kernel
theorem dX5_addLeaves_4 : decode cX5_addLeaves 4 = .ok (.getfield 54, 3) := by decide +kernel
theorem dX5_addLeaves_7 : decode cX5_addLeaves 7 = .ok (.invokevirtual 84, 3) := by decide +kernel
theorem dX5_addLeaves_10 : decode cX5_addLeaves 10 = .ok (.aload_n 0, 1) := by decide +kernel
theorem dX5_addLeaves_11 : decode cX5_addLeaves 11 = .ok (.dup, 1) := by decide +kernel
theorem dX5_addLeaves_12 : decode cX5_addLeaves 12 = .ok (.getfield 54, 3) := by decide +kernel
theorem dX5_addLeaves_15 : decode cX5_addLeaves 15 = .ok (.iconst 2, 1) := by decide +kernel
theorem dX5_addLeaves_16 : decode cX5_addLeaves 16 = .ok (.iadd, 1) := by decide +kernel
theorem dX5_addLeaves_17 : decode cX5_addLeaves 17 = .ok (.putfield 54, 3) := by decide +kernel
theorem dX5_addLeaves_20 : decode cX5_addLeaves 20 = .ok (.return_, 1) := by decide +kernel
theorem dX5_isOwn_0 : decode cX5_isOwn 0 = .ok (.iload_n 0, 1) := by decide +kernel
theorem dX5_isOwn_1 : decode cX5_isOwn 1 = .ok (.bipush 112, 2) := by decide +kernel
theorem dX5_isOwn_3 : decode cX5_isOwn 3 = .ok (.if_icmp .eq 9, 3) := by decide +kernel
theorem dX5_isOwn_6 : decode cX5_isOwn 6 = .ok (.iload_n 0, 1) := by decide +kernel
theorem dX5_isOwn_7 : decode cX5_isOwn 7 = .ok (.bipush 113, 2) := by decide +kernel
theorem dX5_isOwn_9 : decode cX5_isOwn 9 = .ok (.if_icmp .ne 7, 3) := by decide +kernel
theorem dX5_isOwn_12 : decode cX5_isOwn 12 = .ok (.iconst 1, 1) := by decide +kernel
theorem dX5_isOwn_13 : decode cX5_isOwn 13 = .ok (.goto 4, 3) := by decide +kernel
theorem dX5_isOwn_16 : decode cX5_isOwn 16 = .ok (.iconst 0, 1) := by decide +kernel
theorem dX5_isOwn_17 : decode cX5_isOwn 17 = .ok (.ireturn, 1) := by decide +kernel
theorem dX5_cellOf_0 : decode cX5_cellOf 0 = .ok (.iload_n 0, 1) := by decide +kernel
theorem dX5_cellOf_1 : decode cX5_cellOf 1 = .ok (.invokestatic 81, 3) := by decide +kernel
theorem dX5_cellOf_4 : decode cX5_cellOf 4 = .ok (.ifCond .eq 17, 3) := by decide +kernel
theorem dX5_cellOf_7 : decode cX5_cellOf 7 = .ok (.iload_n 0, 1) := by decide +kernel
theorem dX5_cellOf_8 : decode cX5_cellOf 8 = .ok (.bipush 112, 2) := by decide +kernel
theorem dX5_cellOf_10 : decode cX5_cellOf 10 = .ok (.if_icmp .ne 8, 3) := by decide +kernel
theorem dX5_cellOf_13 : decode cX5_cellOf 13 = .ok (.bipush 6, 2) := by decide +kernel
theorem dX5_cellOf_15 : decode cX5_cellOf 15 = .ok (.goto 5, 3) := by decide +kernel
theorem dX5_cellOf_18 : decode cX5_cellOf 18 = .ok (.bipush 10, 2) := by decide +kernel
theorem dX5_cellOf_20 : decode cX5_cellOf 20 = .ok (.ireturn, 1) := by decide +kernel
theorem dX5_cellOf_21 : decode cX5_cellOf 21 = .ok (.iload_n 0, 1) := by decide +kernel
theorem dX5_cellOf_22 : decode cX5_cellOf 22 = .ok (.bipush 97, 2) := by decide +kernel
theorem dX5_cellOf_24 : decode cX5_cellOf 24 = .ok (.if_icmp .lt 16, 3) := by decide +kernel
theorem dX5_cellOf_27 : decode cX5_cellOf 27 = .ok (.iload_n 0, 1) := by decide +kernel
theorem dX5_cellOf_28 : decode cX5_cellOf 28 = .ok (.bipush 102, 2) := by decide +kernel
theorem dX5_cellOf_30 : decode cX5_cellOf 30 = .ok (.if_icmp .gt 10, 3) := by decide +kernel
theorem dX5_cellOf_33 : decode cX5_cellOf 33 = .ok (.iload_n 0, 1) := by decide +kernel
theorem dX5_cellOf_34 : decode cX5_cellOf 34 = .ok (.bipush 97, 2) := by decide +kernel
theorem dX5_cellOf_36 : decode cX5_cellOf 36 = .ok (.isub, 1) := by decide +kernel
theorem dX5_cellOf_37 : decode cX5_cellOf 37 = .ok (.goto 4, 3) := by decide +kernel
theorem dX5_cellOf_40 : decode cX5_cellOf 40 = .ok (.iconst (-1), 1) := by decide +kernel
theorem dX5_cellOf_41 : decode cX5_cellOf 41 = .ok (.ireturn, 1) := by decide +kernel
theorem dX5_sumOp_0 : decode cX5_sumOp 0 = .ok (.iload_n 0, 1) := by decide +kernel
theorem dX5_sumOp_1 : decode cX5_sumOp 1 = .ok (.lookupswitch 44 #[(43, 35), (45, 38), (124, 41)], 35) := by decide +kernel
theorem dX5_sumOp_36 : decode cX5_sumOp 36 = .ok (.bipush 10, 2) := by decide +kernel
theorem dX5_sumOp_38 : decode cX5_sumOp 38 = .ok (.ireturn, 1) := by decide +kernel
theorem dX5_sumOp_39 : decode cX5_sumOp 39 = .ok (.bipush 11, 2) := by decide +kernel
theorem dX5_sumOp_41 : decode cX5_sumOp 41 = .ok (.ireturn, 1) := by decide +kernel
theorem dX5_sumOp_42 : decode cX5_sumOp 42 = .ok (.bipush 12, 2) := by decide +kernel
theorem dX5_sumOp_44 : decode cX5_sumOp 44 = .ok (.ireturn, 1) := by decide +kernel
theorem dX5_sumOp_45 : decode cX5_sumOp 45 = .ok (.iconst 0, 1) := by decide +kernel
theorem dX5_sumOp_46 : decode cX5_sumOp 46 = .ok (.ireturn, 1) := by decide +kernel
theorem dX5_productOp_0 : decode cX5_productOp 0 = .ok (.iload_n 0, 1) := by decide +kernel
theorem dX5_productOp_1 : decode cX5_productOp 1 = .ok (.lookupswitch 44 #[(38, 41), (42, 35), (47, 38)], 35) := by decide +kernel
theorem dX5_productOp_36 : decode cX5_productOp 36 = .ok (.bipush 13, 2) := by decide +kernel
theorem dX5_productOp_38 : decode cX5_productOp 38 = .ok (.ireturn, 1) := by decide +kernel
theorem dX5_productOp_39 : decode cX5_productOp 39 = .ok (.bipush 14, 2) := by decide +kernel
theorem dX5_productOp_41 : decode cX5_productOp 41 = .ok (.ireturn, 1) := by decide +kernel
theorem dX5_productOp_42 : decode cX5_productOp 42 = .ok (.bipush 15, 2) := by decide +kernel
theorem dX5_productOp_44 : decode cX5_productOp 44 = .ok (.ireturn, 1) := by decide +kernel
theorem dX5_productOp_45 : decode cX5_productOp 45 = .ok (.iconst 0, 1) := by decide +kernel
theorem dX5_productOp_46 : decode cX5_productOp 46 = .ok (.ireturn, 1) := by decide +kernel
theorem dX6_init_0 : decode cX6_init 0 = .ok (.aload_n 0, 1) := by decide +kernel
theorem dX6_init_1 : decode cX6_init 1 = .ok (.invokespecial 3, 3) := by decide +kernel
theorem dX6_init_4 : decode cX6_init 4 = .ok (.aload_n 0, 1) := by decide +kernel
theorem dX6_init_5 : decode cX6_init 5 = .ok (.iconst 0, 1) := by decide +kernel
theorem dX6_init_6 : decode cX6_init 6 = .ok (.iload_n 1, 1) := by decide +kernel
theorem dX6_init_7 : decode cX6_init 7 = .ok (.invokestatic 9, 3) := by decide +kernel
theorem dX6_init_10 : decode cX6_init 10 = .ok (.putfield 15, 3) := by decide +kernel
theorem dX6_init_13 : decode cX6_init 13 = .ok (.aload_n 0, 1) := by decide +kernel
theorem dX6_init_14 : decode cX6_init 14 = .ok (.aload_n 0, 1) := by decide +kernel
theorem dX6_init_15 : decode cX6_init 15 = .ok (.getfield 15, 3) := by decide +kernel
theorem dX6_init_18 : decode cX6_init 18 = .ok (.bipush 12, 2) := by decide +kernel
theorem dX6_init_20 : decode cX6_init 20 = .ok (.imul, 1) := by decide +kernel
theorem dX6_init_21 : decode cX6_init 21 = .ok (.newarray .int, 2) := by decide +kernel
theorem dX6_init_23 : decode cX6_init 23 = .ok (.putfield 21, 3) := by decide +kernel
theorem dX6_init_26 : decode cX6_init 26 = .ok (.aload_n 0, 1) := by decide +kernel
theorem dX6_init_27 : decode cX6_init 27 = .ok (.aload_n 0, 1) := by decide +kernel
theorem dX6_init_28 : decode cX6_init 28 = .ok (.getfield 15, 3) := by decide +kernel
theorem dX6_init_31 : decode cX6_init 31 = .ok (.newarray .int, 2) := by decide +kernel
theorem dX6_init_33 : decode cX6_init 33 = .ok (.putfield 25, 3) := by decide +kernel
theorem dX6_init_36 : decode cX6_init 36 = .ok (.return_, 1) := by decide +kernel
theorem dX6_size_0 : decode cX6_size 0 = .ok (.aload_n 0, 1) := by decide +kernel
theorem dX6_size_1 : decode cX6_size 1 = .ok (.getfield 28, 3) := by decide +kernel
theorem dX6_size_4 : decode cX6_size 4 = .ok (.ireturn, 1) := by decide +kernel
theorem dX6_isFull_0 : decode cX6_isFull 0 = .ok (.aload_n 0, 1) := by decide +kernel
theorem dX6_isFull_1 : decode cX6_isFull 1 = .ok (.getfield 28, 3) := by decide +kernel
theorem dX6_isFull_4 : decode cX6_isFull 4 = .ok (.aload_n 0, 1) := by decide +kernel
theorem dX6_isFull_5 : decode cX6_isFull 5 = .ok (.getfield 15, 3) := by decide +kernel
theorem dX6_isFull_8 : decode cX6_isFull 8 = .ok (.if_icmp .lt 7, 3) := by decide +kernel
theorem dX6_isFull_11 : decode cX6_isFull 11 = .ok (.iconst 1, 1) := by decide +kernel
theorem dX6_isFull_12 : decode cX6_isFull 12 = .ok (.goto 4, 3) := by decide +kernel
theorem dX6_isFull_15 : decode cX6_isFull 15 = .ok (.iconst 0, 1) := by decide +kernel
theorem dX6_isFull_16 : decode cX6_isFull 16 = .ok (.ireturn, 1) := by decide +kernel
theorem dX6_has_0 : decode cX6_has 0 = .ok (.iload_n 1, 1) := by decide +kernel
theorem dX6_has_1 : decode cX6_has 1 = .ok (.ifCond .lt 15, 3) := by decide +kernel
theorem dX6_has_4 : decode cX6_has 4 = .ok (.iload_n 1, 1) := by decide +kernel
theorem dX6_has_5 : decode cX6_has 5 = .ok (.aload_n 0, 1) := by decide +kernel
theorem dX6_has_6 : decode cX6_has 6 = .ok (.getfield 28, 3) := by decide +kernel
theorem dX6_has_9 : decode cX6_has 9 = .ok (.if_icmp .ge 7, 3) := by decide +kernel
theorem dX6_has_12 : decode cX6_has 12 = .ok (.iconst 1, 1) := by decide +kernel
theorem dX6_has_13 : decode cX6_has 13 = .ok (.goto 4, 3) := by decide +kernel
theorem dX6_has_16 : decode cX6_has 16 = .ok (.iconst 0, 1) := by decide +kernel
theorem dX6_has_17 : decode cX6_has 17 = .ok (.ireturn, 1) := by decide +kernel
theorem dX6_clear_0 : decode cX6_clear 0 = .ok (.aload_n 0, 1) := by decide +kernel
theorem dX6_clear_1 : decode cX6_clear 1 = .ok (.iconst 0, 1) := by decide +kernel
theorem dX6_clear_2 : decode cX6_clear 2 = .ok (.putfield 28, 3) := by decide +kernel
theorem dX6_clear_5 : decode cX6_clear 5 = .ok (.return_, 1) := by decide +kernel
theorem dX6_add_0 : decode cX6_add 0 = .ok (.aload_n 0, 1) := by decide +kernel
theorem dX6_add_1 : decode cX6_add 1 = .ok (.invokevirtual 31, 3) := by decide +kernel
theorem dX6_add_4 : decode cX6_add 4 = .ok (.ifCond .eq 6, 3) := by decide +kernel
theorem dX6_add_7 : decode cX6_add 7 = .ok (.bipush (-3), 2) := by decide +kernel
theorem dX6_add_9 : decode cX6_add 9 = .ok (.ireturn, 1) := by decide +kernel
theorem dX6_add_10 : decode cX6_add 10 = .ok (.iconst 0, 1) := by decide +kernel
theorem dX6_add_11 : decode cX6_add 11 = .ok (.iload_n 2, 1) := by decide +kernel
theorem dX6_add_12 : decode cX6_add 12 = .ok (.aload_n 1, 1) := by decide +kernel
theorem dX6_add_13 : decode cX6_add 13 = .ok (.arraylength, 1) := by decide +kernel
theorem dX6_add_14 : decode cX6_add 14 = .ok (.bipush 12, 2) := by decide +kernel
theorem dX6_add_16 : decode cX6_add 16 = .ok (.invokestatic 35, 3) := by decide +kernel
theorem dX6_add_19 : decode cX6_add 19 = .ok (.invokestatic 35, 3) := by decide +kernel
theorem dX6_add_22 : decode cX6_add 22 = .ok (.invokestatic 9, 3) := by decide +kernel
theorem dX6_add_25 : decode cX6_add 25 = .ok (.istore_n 3, 1) := by decide +kernel
theorem dX6_add_26 : decode cX6_add 26 = .ok (.aload_n 1, 1) := by decide +kernel
theorem dX6_add_27 : decode cX6_add 27 = .ok (.iconst 0, 1) := by decide +kernel
theorem dX6_add_28 : decode cX6_add 28 = .ok (.aload_n 0, 1) := by decide +kernel
theorem dX6_add_29 : decode cX6_add 29 = .ok (.getfield 21, 3) := by decide +kernel
theorem dX6_add_32 : decode cX6_add 32 = .ok (.aload_n 0, 1) := by decide +kernel
theorem dX6_add_33 : decode cX6_add 33 = .ok (.getfield 28, 3) := by decide +kernel
theorem dX6_add_36 : decode cX6_add 36 = .ok (.bipush 12, 2) := by decide +kernel
theorem dX6_add_38 : decode cX6_add 38 = .ok (.imul, 1) := by decide +kernel
theorem dX6_add_39 : decode cX6_add 39 = .ok (.iload_n 3, 1) := by decide +kernel
theorem dX6_add_40 : decode cX6_add 40 = .ok (.invokestatic 38, 3) := by decide +kernel
theorem dX6_add_43 : decode cX6_add 43 = .ok (.aload_n 0, 1) := by decide +kernel
theorem dX6_add_44 : decode cX6_add 44 = .ok (.getfield 25, 3) := by decide +kernel
theorem dX6_add_47 : decode cX6_add 47 = .ok (.aload_n 0, 1) := by decide +kernel
theorem dX6_add_48 : decode cX6_add 48 = .ok (.getfield 28, 3) := by decide +kernel
theorem dX6_add_51 : decode cX6_add 51 = .ok (.iload_n 3, 1) := by decide +kernel
theorem dX6_add_52 : decode cX6_add 52 = .ok (.iastore, 1) := by decide +kernel
theorem dX6_add_53 : decode cX6_add 53 = .ok (.aload_n 0, 1) := by decide +kernel
theorem dX6_add_54 : decode cX6_add 54 = .ok (.dup, 1) := by decide +kernel
theorem dX6_add_55 : decode cX6_add 55 = .ok (.getfield 28, 3) := by decide +kernel
theorem dX6_add_58 : decode cX6_add 58 = .ok (.iconst 1, 1) := by decide +kernel
theorem dX6_add_59 : decode cX6_add 59 = .ok (.iadd, 1) := by decide +kernel
theorem dX6_add_60 : decode cX6_add 60 = .ok (.putfield 28, 3) := by decide +kernel
theorem dX6_add_63 : decode cX6_add 63 = .ok (.aload_n 0, 1) := by decide +kernel
theorem dX6_add_64 : decode cX6_add 64 = .ok (.getfield 28, 3) := by decide +kernel
theorem dX6_add_67 : decode cX6_add 67 = .ok (.iconst 1, 1) := by decide +kernel
theorem dX6_add_68 : decode cX6_add 68 = .ok (.isub, 1) := by decide +kernel
theorem dX6_add_69 : decode cX6_add 69 = .ok (.ireturn, 1) := by decide +kernel
theorem dX6_copy_0 : decode cX6_copy 0 = .ok (.aload_n 0, 1) := by decide +kernel
theorem dX6_copy_1 : decode cX6_copy 1 = .ok (.iload_n 1, 1) := by decide +kernel
theorem dX6_copy_2 : decode cX6_copy 2 = .ok (.invokevirtual 44, 3) := by decide +kernel
theorem dX6_copy_5 : decode cX6_copy 5 = .ok (.ifCond .eq 14, 3) := by decide +kernel
theorem dX6_copy_8 : decode cX6_copy 8 = .ok (.aload_n 2, 1) := by decide +kernel
theorem dX6_copy_9 : decode cX6_copy 9 = .ok (.arraylength, 1) := by decide +kernel
theorem dX6_copy_10 : decode cX6_copy 10 = .ok (.aload_n 0, 1) := by decide +kernel
theorem dX6_copy_11 : decode cX6_copy 11 = .ok (.getfield 25, 3) := by decide +kernel
theorem dX6_copy_14 : decode cX6_copy 14 = .ok (.iload_n 1, 1) := by decide +kernel
theorem dX6_copy_15 : decode cX6_copy 15 = .ok (.iaload, 1) := by decide +kernel
theorem dX6_copy_16 : decode cX6_copy 16 = .ok (.if_icmp .ge 5, 3) := by decide +kernel
theorem dX6_copy_19 : decode cX6_copy 19 = .ok (.iconst 0, 1) := by decide +kernel
theorem dX6_copy_20 : decode cX6_copy 20 = .ok (.ireturn, 1) := by decide +kernel
theorem dX6_copy_21 : decode cX6_copy 21 = .ok (.aload_n 0, 1) := by decide +kernel
theorem dX6_copy_22 : decode cX6_copy 22 = .ok (.getfield 21, 3) := by decide +kernel
theorem dX6_copy_25 : decode cX6_copy 25 = .ok (.iload_n 1, 1) := by decide +kernel
theorem dX6_copy_26 : decode cX6_copy 26 = .ok (.bipush 12, 2) := by decide +kernel
theorem dX6_copy_28 : decode cX6_copy 28 = .ok (.imul, 1) := by decide +kernel
theorem dX6_copy_29 : decode cX6_copy 29 = .ok (.aload_n 2, 1) := by decide +kernel
theorem dX6_copy_30 : decode cX6_copy 30 = .ok (.iconst 0, 1) := by decide +kernel
theorem dX6_copy_31 : decode cX6_copy 31 = .ok (.aload_n 0, 1) := by decide +kernel
theorem dX6_copy_32 : decode cX6_copy 32 = .ok (.getfield 25, 3) := by decide +kernel
theorem dX6_copy_35 : decode cX6_copy 35 = .ok (.iload_n 1, 1) := by decide +kernel
theorem dX6_copy_36 : decode cX6_copy 36 = .ok (.iaload, 1) := by decide +kernel
theorem dX6_copy_37 : decode cX6_copy 37 = .ok (.invokestatic 38, 3) := by decide +kernel
theorem dX6_copy_40 : decode cX6_copy 40 = .ok (.aload_n 0, 1) := by decide +kernel
theorem dX6_copy_41 : decode cX6_copy 41 = .ok (.getfield 25, 3) := by decide +kernel
theorem dX6_copy_44 : decode cX6_copy 44 = .ok (.iload_n 1, 1) := by decide +kernel
theorem dX6_copy_45 : decode cX6_copy 45 = .ok (.iaload, 1) := by decide +kernel
theorem dX6_copy_46 : decode cX6_copy 46 = .ok (.ireturn, 1) := by decide +kernel
theorem dX6_tell_0 : decode cX6_tell 0 = .ok (.aload_n 0, 1) := by decide +kernel
theorem dX6_tell_1 : decode cX6_tell 1 = .ok (.iload_n 1, 1) := by decide +kernel
theorem dX6_tell_2 : decode cX6_tell 2 = .ok (.invokevirtual 44, 3) := by decide +kernel
theorem dX6_tell_5 : decode cX6_tell 5 = .ok (.ifCond .eq 18, 3) := by decide +kernel
theorem dX6_tell_8 : decode cX6_tell 8 = .ok (.iload_n 2, 1) := by decide +kernel
theorem dX6_tell_9 : decode cX6_tell 9 = .ok (.iconst (-1), 1) := by decide +kernel
theorem dX6_tell_10 : decode cX6_tell 10 = .ok (.if_icmp .lt 13, 3) := by decide +kernel
theorem dX6_tell_13 : decode cX6_tell 13 = .ok (.iload_n 2, 1) := by decide +kernel
theorem dX6_tell_14 : decode cX6_tell 14 = .ok (.aload_n 0, 1) := by decide +kernel
theorem dX6_tell_15 : decode cX6_tell 15 = .ok (.getfield 25, 3) := by decide +kernel
theorem dX6_tell_18 : decode cX6_tell 18 = .ok (.iload_n 1, 1) := by decide +kernel
theorem dX6_tell_19 : decode cX6_tell 19 = .ok (.iaload, 1) := by decide +kernel
theorem dX6_tell_20 : decode cX6_tell 20 = .ok (.if_icmp .lt 5, 3) := by decide +kernel
theorem dX6_tell_23 : decode cX6_tell 23 = .ok (.iconst (-1), 1) := by decide +kernel
theorem dX6_tell_24 : decode cX6_tell 24 = .ok (.ireturn, 1) := by decide +kernel
theorem dX6_tell_25 : decode cX6_tell 25 = .ok (.iload_n 2, 1) := by decide +kernel
theorem dX6_tell_26 : decode cX6_tell 26 = .ok (.iconst (-1), 1) := by decide +kernel
theorem dX6_tell_27 : decode cX6_tell 27 = .ok (.if_icmp .ne 12, 3) := by decide +kernel
theorem dX6_tell_30 : decode cX6_tell 30 = .ok (.aload_n 0, 1) := by decide +kernel
theorem dX6_tell_31 : decode cX6_tell 31 = .ok (.getfield 25, 3) := by decide +kernel
theorem dX6_tell_34 : decode cX6_tell 34 = .ok (.iload_n 1, 1) := by decide +kernel
theorem dX6_tell_35 : decode cX6_tell 35 = .ok (.iaload, 1) := by decide +kernel
theorem dX6_tell_36 : decode cX6_tell 36 = .ok (.goto 14, 3) := by decide +kernel
theorem dX6_tell_39 : decode cX6_tell 39 = .ok (.aload_n 0, 1) := by decide +kernel
theorem dX6_tell_40 : decode cX6_tell 40 = .ok (.getfield 21, 3) := by decide +kernel
theorem dX6_tell_43 : decode cX6_tell 43 = .ok (.iload_n 1, 1) := by decide +kernel
theorem dX6_tell_44 : decode cX6_tell 44 = .ok (.bipush 12, 2) := by decide +kernel
theorem dX6_tell_46 : decode cX6_tell 46 = .ok (.imul, 1) := by decide +kernel
theorem dX6_tell_47 : decode cX6_tell 47 = .ok (.iload_n 2, 1) := by decide +kernel
theorem dX6_tell_48 : decode cX6_tell 48 = .ok (.iadd, 1) := by decide +kernel
theorem dX6_tell_49 : decode cX6_tell 49 = .ok (.iaload, 1) := by decide +kernel
theorem dX6_tell_50 : decode cX6_tell 50 = .ok (.ireturn, 1) := by decide +kernel
theorem dX7_init_0 : decode cX7_init 0 = .ok (.aload_n 0, 1) := by decide +kernel
theorem dX7_init_1 : decode cX7_init 1 = .ok (.invokespecial 3, 3) := by decide +kernel
theorem dX7_init_4 : decode cX7_init 4 = .ok (.aload_n 0, 1) := by decide +kernel
theorem dX7_init_5 : decode cX7_init 5 = .ok (.new 9, 3) := by decide +kernel
theorem dX7_init_8 : decode cX7_init 8 = .ok (.dup, 1) := by decide +kernel
theorem dX7_init_9 : decode cX7_init 9 = .ok (.invokespecial 11, 3) := by decide +kernel
theorem dX7_init_12 : decode cX7_init 12 = .ok (.putfield 12, 3) := by decide +kernel
theorem dX7_init_15 : decode cX7_init 15 = .ok (.aload_n 0, 1) := by decide +kernel
theorem dX7_init_16 : decode cX7_init 16 = .ok (.bipush 30, 2) := by decide +kernel
theorem dX7_init_18 : decode cX7_init 18 = .ok (.anewarray 18, 3) := by decide +kernel
theorem dX7_init_21 : decode cX7_init 21 = .ok (.putfield 20, 3) := by decide +kernel
theorem dX7_init_24 : decode cX7_init 24 = .ok (.aload_n 0, 1) := by decide +kernel
theorem dX7_init_25 : decode cX7_init 25 = .ok (.bipush 12, 2) := by decide +kernel
theorem dX7_init_27 : decode cX7_init 27 = .ok (.newarray .int, 2) := by decide +kernel
theorem dX7_init_29 : decode cX7_init 29 = .ok (.putfield 24, 3) := by decide +kernel
theorem dX7_init_32 : decode cX7_init 32 = .ok (.aload_n 0, 1) := by decide +kernel
theorem dX7_init_33 : decode cX7_init 33 = .ok (.aload_n 1, 1) := by decide +kernel
theorem dX7_init_34 : decode cX7_init 34 = .ok (.putfield 28, 3) := by decide +kernel
theorem dX7_init_37 : decode cX7_init 37 = .ok (.return_, 1) := by decide +kernel
theorem dX7_choiceCount_0 : decode cX7_choiceCount 0 = .ok (.aload_n 0, 1) := by decide +kernel
theorem dX7_choiceCount_1 : decode cX7_choiceCount 1 = .ok (.getfield 32, 3) := by decide +kernel
theorem dX7_choiceCount_4 : decode cX7_choiceCount 4 = .ok (.ireturn, 1) := by decide +kernel
theorem dX7_addChoice_0 : decode cX7_addChoice 0 = .ok (.aload_n 0, 1) := by decide +kernel
theorem dX7_addChoice_1 : decode cX7_addChoice 1 = .ok (.getfield 32, 3) := by decide +kernel
theorem dX7_addChoice_4 : decode cX7_addChoice 4 = .ok (.bipush 30, 2) := by decide +kernel
theorem dX7_addChoice_6 : decode cX7_addChoice 6 = .ok (.if_icmp .ge 23, 3) := by decide +kernel
theorem dX7_addChoice_9 : decode cX7_addChoice 9 = .ok (.aload_n 0, 1) := by decide +kernel
theorem dX7_addChoice_10 : decode cX7_addChoice 10 = .ok (.getfield 20, 3) := by decide +kernel
theorem dX7_addChoice_13 : decode cX7_addChoice 13 = .ok (.aload_n 0, 1) := by decide +kernel
theorem dX7_addChoice_14 : decode cX7_addChoice 14 = .ok (.getfield 32, 3) := by decide +kernel
theorem dX7_addChoice_17 : decode cX7_addChoice 17 = .ok (.aload_n 1, 1) := by decide +kernel
theorem dX7_addChoice_18 : decode cX7_addChoice 18 = .ok (.aastore, 1) := by decide +kernel
theorem dX7_addChoice_19 : decode cX7_addChoice 19 = .ok (.aload_n 0, 1) := by decide +kernel
theorem dX7_addChoice_20 : decode cX7_addChoice 20 = .ok (.dup, 1) := by decide +kernel
theorem dX7_addChoice_21 : decode cX7_addChoice 21 = .ok (.getfield 32, 3) := by decide +kernel
theorem dX7_addChoice_24 : decode cX7_addChoice 24 = .ok (.iconst 1, 1) := by decide +kernel
theorem dX7_addChoice_25 : decode cX7_addChoice 25 = .ok (.iadd, 1) := by decide +kernel
theorem dX7_addChoice_26 : decode cX7_addChoice 26 = .ok (.putfield 32, 3) := by decide +kernel
theorem dX7_addChoice_29 : decode cX7_addChoice 29 = .ok (.return_, 1) := by decide +kernel
theorem dX7_dropChoices_0 : decode cX7_dropChoices 0 = .ok (.aload_n 0, 1) := by decide +kernel
theorem dX7_dropChoices_1 : decode cX7_dropChoices 1 = .ok (.iconst 0, 1) := by decide +kernel
theorem dX7_dropChoices_2 : decode cX7_dropChoices 2 = .ok (.putfield 32, 3) := by decide +kernel
theorem dX7_dropChoices_5 : decode cX7_dropChoices 5 = .ok (.return_, 1) := by decide +kernel
theorem dX7_statesSeen_0 : decode cX7_statesSeen 0 = .ok (.aload_n 0, 1) := by decide +kernel
theorem dX7_statesSeen_1 : decode cX7_statesSeen 1 = .ok (.getfield 36, 3) := by decide +kernel
theorem dX7_statesSeen_4 : decode cX7_statesSeen 4 = .ok (.ireturn, 1) := by decide +kernel
theorem dX7_doAll_0 : decode cX7_doAll 0 = .ok (.aload_n 0, 1) := by decide +kernel
theorem dX7_doAll_1 : decode cX7_doAll 1 = .ok (.getfield 28, 3) := by decide +kernel
theorem dX7_doAll_4 : decode cX7_doAll 4 = .ok (.invokevirtual 39, 3) := by decide +kernel
theorem dX7_doAll_7 : decode cX7_doAll 7 = .ok (.iconst 0, 1) := by decide +kernel
theorem dX7_doAll_8 : decode cX7_doAll 8 = .ok (.istore_n 3, 1) := by decide +kernel
theorem dX7_doAll_9 : decode cX7_doAll 9 = .ok (.iload_n 3, 1) := by decide +kernel
theorem dX7_doAll_10 : decode cX7_doAll 10 = .ok (.iload_n 2, 1) := by decide +kernel
theorem dX7_doAll_11 : decode cX7_doAll 11 = .ok (.if_icmp .ge 30, 3) := by decide +kernel
theorem dX7_doAll_14 : decode cX7_doAll 14 = .ok (.iload_n 3, 1) := by decide +kernel
theorem dX7_doAll_15 : decode cX7_doAll 15 = .ok (.aload_n 1, 1) := by decide +kernel
theorem dX7_doAll_16 : decode cX7_doAll 16 = .ok (.arraylength, 1) := by decide +kernel
theorem dX7_doAll_17 : decode cX7_doAll 17 = .ok (.if_icmp .ge 24, 3) := by decide +kernel
theorem dX7_doAll_20 : decode cX7_doAll 20 = .ok (.aload_n 0, 1) := by decide +kernel
theorem dX7_doAll_21 : decode cX7_doAll 21 = .ok (.getfield 28, 3) := by decide +kernel
theorem dX7_doAll_24 : decode cX7_doAll 24 = .ok (.aload_n 0, 1) := by decide +kernel
theorem dX7_doAll_25 : decode cX7_doAll 25 = .ok (.aload_n 1, 1) := by decide +kernel
theorem dX7_doAll_26 : decode cX7_doAll 26 = .ok (.iload_n 3, 1) := by decide +kernel
theorem dX7_doAll_27 : decode cX7_doAll 27 = .ok (.iaload, 1) := by decide +kernel
theorem dX7_doAll_28 : decode cX7_doAll 28 = .ok (.invokevirtual 44, 3) := by decide +kernel
theorem dX7_doAll_31 : decode cX7_doAll 31 = .ok (.invokevirtual 48, 3) := by decide +kernel
theorem dX7_doAll_34 : decode cX7_doAll 34 = .ok (.pop, 1) := by decide +kernel
theorem dX7_doAll_35 : decode cX7_doAll 35 = .ok (.iinc 3 1, 3) := by decide +kernel
theorem dX7_doAll_38 : decode cX7_doAll 38 = .ok (.goto (-29), 3) := by decide +kernel
theorem dX7_doAll_41 : decode cX7_doAll 41 = .ok (.return_, 1) := by decide +kernel
theorem dX7_breaksAt_0 : decode cX7_breaksAt 0 = .ok (.aload_n 0, 1) := by decide +kernel
theorem dX7_breaksAt_1 : decode cX7_breaksAt 1 = .ok (.getfield 28, 3) := by decide +kernel
theorem dX7_breaksAt_4 : decode cX7_breaksAt 4 = .ok (.invokevirtual 39, 3) := by decide +kernel
theorem dX7_breaksAt_7 : decode cX7_breaksAt 7 = .ok (.iconst 0, 1) := by decide +kernel
theorem dX7_breaksAt_8 : decode cX7_breaksAt 8 = .ok (.istore 4, 2) := by decide +kernel
theorem dX7_breaksAt_10 : decode cX7_breaksAt 10 = .ok (.iload 4, 2) := by decide +kernel
theorem dX7_breaksAt_12 : decode cX7_breaksAt 12 = .ok (.iload_n 2, 1) := by decide +kernel
theorem dX7_breaksAt_13 : decode cX7_breaksAt 13 = .ok (.if_icmp .ge 46, 3) := by decide +kernel
theorem dX7_breaksAt_16 : decode cX7_breaksAt 16 = .ok (.iload 4, 2) := by decide +kernel
theorem dX7_breaksAt_18 : decode cX7_breaksAt 18 = .ok (.aload_n 1, 1) := by decide +kernel
theorem dX7_breaksAt_19 : decode cX7_breaksAt 19 = .ok (.arraylength, 1) := by decide +kernel
theorem dX7_breaksAt_20 : decode cX7_breaksAt 20 = .ok (.if_icmp .ge 39, 3) := by decide +kernel
theorem dX7_breaksAt_23 : decode cX7_breaksAt 23 = .ok (.aload_n 0, 1) := by decide +kernel
theorem dX7_breaksAt_24 : decode cX7_breaksAt 24 = .ok (.getfield 28, 3) := by decide +kernel
theorem dX7_breaksAt_27 : decode cX7_breaksAt 27 = .ok (.aload_n 0, 1) := by decide +kernel
theorem dX7_breaksAt_28 : decode cX7_breaksAt 28 = .ok (.aload_n 1, 1) := by decide +kernel
theorem dX7_breaksAt_29 : decode cX7_breaksAt 29 = .ok (.iload 4, 2) := by decide +kernel
theorem dX7_breaksAt_31 : decode cX7_breaksAt 31 = .ok (.iaload, 1) := by decide +kernel
theorem dX7_breaksAt_32 : decode cX7_breaksAt 32 = .ok (.invokevirtual 44, 3) := by decide +kernel
theorem dX7_breaksAt_35 : decode cX7_breaksAt 35 = .ok (.invokevirtual 48, 3) := by decide +kernel
theorem dX7_breaksAt_38 : decode cX7_breaksAt 38 = .ok (.pop, 1) := by decide +kernel
theorem dX7_breaksAt_39 : decode cX7_breaksAt 39 = .ok (.aload_n 0, 1) := by decide +kernel
theorem dX7_breaksAt_40 : decode cX7_breaksAt 40 = .ok (.getfield 28, 3) := by decide +kernel
theorem dX7_breaksAt_43 : decode cX7_breaksAt 43 = .ok (.aload_n 3, 1) := by decide +kernel
theorem dX7_breaksAt_44 : decode cX7_breaksAt 44 = .ok (.invokevirtual 52, 3) := by decide +kernel
theorem dX7_breaksAt_47 : decode cX7_breaksAt 47 = .ok (.ifCond .ne 6, 3) := by decide +kernel
theorem dX7_breaksAt_50 : decode cX7_breaksAt 50 = .ok (.iload 4, 2) := by decide +kernel
theorem dX7_breaksAt_52 : decode cX7_breaksAt 52 = .ok (.ireturn, 1) := by decide +kernel
theorem dX7_breaksAt_53 : decode cX7_breaksAt 53 = .ok (.iinc 4 1, 3) := by decide +kernel
theorem dX7_breaksAt_56 : decode cX7_breaksAt 56 = .ok (.goto (-46), 3) := by decide +kernel
theorem dX7_breaksAt_59 : decode cX7_breaksAt 59 = .ok (.bipush (-2), 2) := by decide +kernel
theorem dX7_breaksAt_61 : decode cX7_breaksAt 61 = .ok (.ireturn, 1) := by decide +kernel
theorem dX7_makeLeast_0 : decode cX7_makeLeast 0 = .ok (.iload_n 2, 1) := by decide +kernel
theorem dX7_makeLeast_1 : decode cX7_makeLeast 1 = .ok (.aload_n 1, 1) := by decide +kernel
theorem dX7_makeLeast_2 : decode cX7_makeLeast 2 = .ok (.arraylength, 1) := by decide +kernel
theorem dX7_makeLeast_3 : decode cX7_makeLeast 3 = .ok (.bipush 12, 2) := by decide +kernel
theorem dX7_makeLeast_5 : decode cX7_makeLeast 5 = .ok (.invokestatic 56, 3) := by decide +kernel
theorem dX7_makeLeast_8 : decode cX7_makeLeast 8 = .ok (.invokestatic 56, 3) := by decide +kernel
theorem dX7_makeLeast_11 : decode cX7_makeLeast 11 = .ok (.istore 4, 2) := by decide +kernel
theorem dX7_makeLeast_13 : decode cX7_makeLeast 13 = .ok (.iconst 0, 1) := by decide +kernel
theorem dX7_makeLeast_14 : decode cX7_makeLeast 14 = .ok (.istore 5, 2) := by decide +kernel
theorem dX7_makeLeast_16 : decode cX7_makeLeast 16 = .ok (.iload 5, 2) := by decide +kernel
theorem dX7_makeLeast_18 : decode cX7_makeLeast 18 = .ok (.bipush 12, 2) := by decide +kernel
theorem dX7_makeLeast_20 : decode cX7_makeLeast 20 = .ok (.if_icmp .ge 89, 3) := by decide +kernel
theorem dX7_makeLeast_23 : decode cX7_makeLeast 23 = .ok (.iload 4, 2) := by decide +kernel
theorem dX7_makeLeast_25 : decode cX7_makeLeast 25 = .ok (.istore 6, 2) := by decide +kernel
theorem dX7_makeLeast_27 : decode cX7_makeLeast 27 = .ok (.iload 4, 2) := by decide +kernel
theorem dX7_makeLeast_29 : decode cX7_makeLeast 29 = .ok (.iconst 1, 1) := by decide +kernel
theorem dX7_makeLeast_30 : decode cX7_makeLeast 30 = .ok (.isub, 1) := by decide +kernel
theorem dX7_makeLeast_31 : decode cX7_makeLeast 31 = .ok (.istore 7, 2) := by decide +kernel
theorem dX7_makeLeast_33 : decode cX7_makeLeast 33 = .ok (.iload 7, 2) := by decide +kernel
theorem dX7_makeLeast_35 : decode cX7_makeLeast 35 = .ok (.ifCond .lt 58, 3) := by decide +kernel
theorem dX7_makeLeast_38 : decode cX7_makeLeast 38 = .ok (.aload_n 0, 1) := by decide +kernel
theorem dX7_makeLeast_39 : decode cX7_makeLeast 39 = .ok (.aload_n 1, 1) := by decide +kernel
theorem dX7_makeLeast_40 : decode cX7_makeLeast 40 = .ok (.iload 4, 2) := by decide +kernel
theorem dX7_makeLeast_42 : decode cX7_makeLeast 42 = .ok (.iload 7, 2) := by decide +kernel
theorem dX7_makeLeast_44 : decode cX7_makeLeast 44 = .ok (.invokevirtual 62, 3) := by decide +kernel
theorem dX7_makeLeast_47 : decode cX7_makeLeast 47 = .ok (.aload_n 0, 1) := by decide +kernel
theorem dX7_makeLeast_48 : decode cX7_makeLeast 48 = .ok (.aload_n 0, 1) := by decide +kernel
theorem dX7_makeLeast_49 : decode cX7_makeLeast 49 = .ok (.getfield 24, 3) := by decide +kernel
theorem dX7_makeLeast_52 : decode cX7_makeLeast 52 = .ok (.iload 4, 2) := by decide +kernel
theorem dX7_makeLeast_54 : decode cX7_makeLeast 54 = .ok (.iconst 1, 1) := by decide +kernel
theorem dX7_makeLeast_55 : decode cX7_makeLeast 55 = .ok (.isub, 1) := by decide +kernel
theorem dX7_makeLeast_56 : decode cX7_makeLeast 56 = .ok (.aload_n 3, 1) := by decide +kernel
theorem dX7_makeLeast_57 : decode cX7_makeLeast 57 = .ok (.invokevirtual 66, 3) := by decide +kernel
theorem dX7_makeLeast_60 : decode cX7_makeLeast 60 = .ok (.istore 8, 2) := by decide +kernel
theorem dX7_makeLeast_62 : decode cX7_makeLeast 62 = .ok (.iload 8, 2) := by decide +kernel
theorem dX7_makeLeast_64 : decode cX7_makeLeast 64 = .ok (.bipush (-2), 2) := by decide +kernel
theorem dX7_makeLeast_66 : decode cX7_makeLeast 66 = .ok (.if_icmp .eq 21, 3) := by decide +kernel
theorem dX7_makeLeast_69 : decode cX7_makeLeast 69 = .ok (.iload 8, 2) := by decide +kernel
theorem dX7_makeLeast_71 : decode cX7_makeLeast 71 = .ok (.iconst 1, 1) := by decide +kernel
theorem dX7_makeLeast_72 : decode cX7_makeLeast 72 = .ok (.iadd, 1) := by decide +kernel
theorem dX7_makeLeast_73 : decode cX7_makeLeast 73 = .ok (.istore 4, 2) := by decide +kernel
theorem dX7_makeLeast_75 : decode cX7_makeLeast 75 = .ok (.aload_n 0, 1) := by decide +kernel
theorem dX7_makeLeast_76 : decode cX7_makeLeast 76 = .ok (.getfield 24, 3) := by decide +kernel
theorem dX7_makeLeast_79 : decode cX7_makeLeast 79 = .ok (.iconst 0, 1) := by decide +kernel
theorem dX7_makeLeast_80 : decode cX7_makeLeast 80 = .ok (.aload_n 1, 1) := by decide +kernel
theorem dX7_makeLeast_81 : decode cX7_makeLeast 81 = .ok (.iconst 0, 1) := by decide +kernel
theorem dX7_makeLeast_82 : decode cX7_makeLeast 82 = .ok (.iload 4, 2) := by decide +kernel
theorem dX7_makeLeast_84 : decode cX7_makeLeast 84 = .ok (.invokestatic 70, 3) := by decide +kernel
theorem dX7_makeLeast_87 : decode cX7_makeLeast 87 = .ok (.iinc 7 (-1), 3) := by decide +kernel
theorem dX7_makeLeast_90 : decode cX7_makeLeast 90 = .ok (.goto (-57), 3) := by decide +kernel
theorem dX7_makeLeast_93 : decode cX7_makeLeast 93 = .ok (.iload 4, 2) := by decide +kernel
theorem dX7_makeLeast_95 : decode cX7_makeLeast 95 = .ok (.iload 6, 2) := by decide +kernel
theorem dX7_makeLeast_97 : decode cX7_makeLeast 97 = .ok (.if_icmp .ne 6, 3) := by decide +kernel
theorem dX7_makeLeast_100 : decode cX7_makeLeast 100 = .ok (.goto 9, 3) := by decide +kernel
theorem dX7_makeLeast_103 : decode cX7_makeLeast 103 = .ok (.iinc 5 1, 3) := by decide +kernel
theorem dX7_makeLeast_106 : decode cX7_makeLeast 106 = .ok (.goto (-90), 3) := by decide +kernel
theorem dX7_makeLeast_109 : decode cX7_makeLeast 109 = .ok (.iload 4, 2) := by decide +kernel
theorem dX7_makeLeast_111 : decode cX7_makeLeast 111 = .ok (.ireturn, 1) := by decide +kernel
theorem dX7_seek_0 : decode cX7_seek 0 = .ok (.aload_n 0, 1) := by decide +kernel
theorem dX7_seek_1 : decode cX7_seek 1 = .ok (.getfield 12, 3) := by decide +kernel
theorem dX7_seek_4 : decode cX7_seek 4 = .ok (.invokevirtual 76, 3) := by decide +kernel
theorem dX7_seek_7 : decode cX7_seek 7 = .ok (.aload_n 0, 1) := by decide +kernel
theorem dX7_seek_8 : decode cX7_seek 8 = .ok (.getfield 28, 3) := by decide +kernel
theorem dX7_seek_11 : decode cX7_seek 11 = .ok (.invokevirtual 39, 3) := by decide +kernel
theorem dX7_seek_14 : decode cX7_seek 14 = .ok (.aload_n 0, 1) := by decide +kernel
theorem dX7_seek_15 : decode cX7_seek 15 = .ok (.getfield 12, 3) := by decide +kernel
theorem dX7_seek_18 : decode cX7_seek 18 = .ok (.aload_n 0, 1) := by decide +kernel
theorem dX7_seek_19 : decode cX7_seek 19 = .ok (.getfield 28, 3) := by decide +kernel
theorem dX7_seek_22 : decode cX7_seek 22 = .ok (.aload_n 0, 1) := by decide +kernel
theorem dX7_seek_23 : decode cX7_seek 23 = .ok (.getfield 12, 3) := by decide +kernel
theorem dX7_seek_26 : decode cX7_seek 26 = .ok (.aload_n 0, 1) := by decide +kernel
theorem dX7_seek_27 : decode cX7_seek 27 = .ok (.getfield 28, 3) := by decide +kernel
theorem dX7_seek_30 : decode cX7_seek 30 = .ok (.invokevirtual 79, 3) := by decide +kernel
theorem dX7_seek_33 : decode cX7_seek 33 = .ok (.iconst (-1), 1) := by decide +kernel
theorem dX7_seek_34 : decode cX7_seek 34 = .ok (.iconst (-1), 1) := by decide +kernel
theorem dX7_seek_35 : decode cX7_seek 35 = .ok (.invokevirtual 83, 3) := by decide +kernel
theorem dX7_seek_38 : decode cX7_seek 38 = .ok (.aload_n 0, 1) := by decide +kernel
theorem dX7_seek_39 : decode cX7_seek 39 = .ok (.iconst 1, 1) := by decide +kernel
theorem dX7_seek_40 : decode cX7_seek 40 = .ok (.putfield 36, 3) := by decide +kernel
theorem dX7_seek_43 : decode cX7_seek 43 = .ok (.iconst 0, 1) := by decide +kernel
theorem dX7_seek_44 : decode cX7_seek 44 = .ok (.istore 4, 2) := by decide +kernel
theorem dX7_seek_46 : decode cX7_seek 46 = .ok (.iload 4, 2) := by decide +kernel
theorem dX7_seek_48 : decode cX7_seek 48 = .ok (.sipush 400, 3) := by decide +kernel
theorem dX7_seek_51 : decode cX7_seek 51 = .ok (.if_icmp .ge 179, 3) := by decide +kernel
theorem dX7_seek_54 : decode cX7_seek 54 = .ok (.iload 4, 2) := by decide +kernel
theorem dX7_seek_56 : decode cX7_seek 56 = .ok (.aload_n 0, 1) := by decide +kernel
theorem dX7_seek_57 : decode cX7_seek 57 = .ok (.getfield 12, 3) := by decide +kernel
theorem dX7_seek_60 : decode cX7_seek 60 = .ok (.invokevirtual 87, 3) := by decide +kernel
theorem dX7_seek_63 : decode cX7_seek 63 = .ok (.if_icmp .ge 167, 3) := by decide +kernel
theorem dX7_seek_66 : decode cX7_seek 66 = .ok (.aload_n 0, 1) := by decide +kernel
theorem dX7_seek_67 : decode cX7_seek 67 = .ok (.getfield 12, 3) := by decide +kernel
theorem dX7_seek_70 : decode cX7_seek 70 = .ok (.iload 4, 2) := by decide +kernel
theorem dX7_seek_72 : decode cX7_seek 72 = .ok (.invokevirtual 91, 3) := by decide +kernel
theorem dX7_seek_75 : decode cX7_seek 75 = .ok (.iconst 1, 1) := by decide +kernel
theorem dX7_seek_76 : decode cX7_seek 76 = .ok (.iadd, 1) := by decide +kernel
theorem dX7_seek_77 : decode cX7_seek 77 = .ok (.iload_n 2, 1) := by decide +kernel
theorem dX7_seek_78 : decode cX7_seek 78 = .ok (.if_icmp .ge 7, 3) := by decide +kernel
theorem dX7_seek_81 : decode cX7_seek 81 = .ok (.iconst 1, 1) := by decide +kernel
theorem dX7_seek_82 : decode cX7_seek 82 = .ok (.goto 4, 3) := by decide +kernel
theorem dX7_seek_85 : decode cX7_seek 85 = .ok (.iconst 0, 1) := by decide +kernel
theorem dX7_seek_86 : decode cX7_seek 86 = .ok (.istore 5, 2) := by decide +kernel
theorem dX7_seek_88 : decode cX7_seek 88 = .ok (.iconst 0, 1) := by decide +kernel
theorem dX7_seek_89 : decode cX7_seek 89 = .ok (.istore 6, 2) := by decide +kernel
theorem dX7_seek_91 : decode cX7_seek 91 = .ok (.iload 6, 2) := by decide +kernel
theorem dX7_seek_93 : decode cX7_seek 93 = .ok (.aload_n 0, 1) := by decide +kernel
theorem dX7_seek_94 : decode cX7_seek 94 = .ok (.getfield 32, 3) := by decide +kernel
theorem dX7_seek_97 : decode cX7_seek 97 = .ok (.if_icmp .ge 127, 3) := by decide +kernel
theorem dX7_seek_100 : decode cX7_seek 100 = .ok (.aload_n 0, 1) := by decide +kernel
theorem dX7_seek_101 : decode cX7_seek 101 = .ok (.getfield 12, 3) := by decide +kernel
theorem dX7_seek_104 : decode cX7_seek 104 = .ok (.iload 4, 2) := by decide +kernel
theorem dX7_seek_106 : decode cX7_seek 106 = .ok (.aload_n 0, 1) := by decide +kernel
theorem dX7_seek_107 : decode cX7_seek 107 = .ok (.getfield 28, 3) := by decide +kernel
theorem dX7_seek_110 : decode cX7_seek 110 = .ok (.invokevirtual 95, 3) := by decide +kernel
theorem dX7_seek_113 : decode cX7_seek 113 = .ok (.aload_n 0, 1) := by decide +kernel
theorem dX7_seek_114 : decode cX7_seek 114 = .ok (.getfield 28, 3) := by decide +kernel
theorem dX7_seek_117 : decode cX7_seek 117 = .ok (.aload_n 0, 1) := by decide +kernel
theorem dX7_seek_118 : decode cX7_seek 118 = .ok (.iload 6, 2) := by decide +kernel
theorem dX7_seek_120 : decode cX7_seek 120 = .ok (.invokevirtual 44, 3) := by decide +kernel
theorem dX7_seek_123 : decode cX7_seek 123 = .ok (.invokevirtual 48, 3) := by decide +kernel
theorem dX7_seek_126 : decode cX7_seek 126 = .ok (.pop, 1) := by decide +kernel
theorem dX7_seek_127 : decode cX7_seek 127 = .ok (.aload_n 0, 1) := by decide +kernel
theorem dX7_seek_128 : decode cX7_seek 128 = .ok (.getfield 28, 3) := by decide +kernel
theorem dX7_seek_131 : decode cX7_seek 131 = .ok (.aload_n 1, 1) := by decide +kernel
theorem dX7_seek_132 : decode cX7_seek 132 = .ok (.invokevirtual 52, 3) := by decide +kernel
theorem dX7_seek_135 : decode cX7_seek 135 = .ok (.ifCond .ne 16, 3) := by decide +kernel
theorem dX7_seek_138 : decode cX7_seek 138 = .ok (.aload_n 0, 1) := by decide +kernel
theorem dX7_seek_139 : decode cX7_seek 139 = .ok (.getfield 12, 3) := by decide +kernel
theorem dX7_seek_142 : decode cX7_seek 142 = .ok (.iload 4, 2) := by decide +kernel
theorem dX7_seek_144 : decode cX7_seek 144 = .ok (.iload 6, 2) := by decide +kernel
theorem dX7_seek_146 : decode cX7_seek 146 = .ok (.aload_n 3, 1) := by decide +kernel
theorem dX7_seek_147 : decode cX7_seek 147 = .ok (.invokevirtual 99, 3) := by decide +kernel
theorem dX7_seek_150 : decode cX7_seek 150 = .ok (.ireturn, 1) := by decide +kernel
theorem dX7_seek_151 : decode cX7_seek 151 = .ok (.iload 5, 2) := by decide +kernel
theorem dX7_seek_153 : decode cX7_seek 153 = .ok (.ifCond .eq 17, 3) := by decide +kernel
theorem dX7_seek_156 : decode cX7_seek 156 = .ok (.aload_n 0, 1) := by decide +kernel
theorem dX7_seek_157 : decode cX7_seek 157 = .ok (.getfield 12, 3) := by decide +kernel
theorem dX7_seek_160 : decode cX7_seek 160 = .ok (.aload_n 0, 1) := by decide +kernel
theorem dX7_seek_161 : decode cX7_seek 161 = .ok (.getfield 28, 3) := by decide +kernel
theorem dX7_seek_164 : decode cX7_seek 164 = .ok (.invokevirtual 79, 3) := by decide +kernel
theorem dX7_seek_167 : decode cX7_seek 167 = .ok (.goto 4, 3) := by decide +kernel
theorem dX7_seek_170 : decode cX7_seek 170 = .ok (.iconst (-1), 1) := by decide +kernel
theorem dX7_seek_171 : decode cX7_seek 171 = .ok (.istore 7, 2) := by decide +kernel
theorem dX7_seek_173 : decode cX7_seek 173 = .ok (.iload 7, 2) := by decide +kernel
theorem dX7_seek_175 : decode cX7_seek 175 = .ok (.ifCond .lt 43, 3) := by decide +kernel
theorem dX7_seek_178 : decode cX7_seek 178 = .ok (.aload_n 0, 1) := by decide +kernel
theorem dX7_seek_179 : decode cX7_seek 179 = .ok (.dup, 1) := by decide +kernel
theorem dX7_seek_180 : decode cX7_seek 180 = .ok (.getfield 36, 3) := by decide +kernel
theorem dX7_seek_183 : decode cX7_seek 183 = .ok (.iconst 1, 1) := by decide +kernel
theorem dX7_seek_184 : decode cX7_seek 184 = .ok (.iadd, 1) := by decide +kernel
theorem dX7_seek_185 : decode cX7_seek 185 = .ok (.putfield 36, 3) := by decide +kernel
theorem dX7_seek_188 : decode cX7_seek 188 = .ok (.aload_n 0, 1) := by decide +kernel
theorem dX7_seek_189 : decode cX7_seek 189 = .ok (.getfield 12, 3) := by decide +kernel
theorem dX7_seek_192 : decode cX7_seek 192 = .ok (.invokevirtual 103, 3) := by decide +kernel
theorem dX7_seek_195 : decode cX7_seek 195 = .ok (.ifCond .eq 6, 3) := by decide +kernel
theorem dX7_seek_198 : decode cX7_seek 198 = .ok (.bipush (-2), 2) := by decide +kernel
theorem dX7_seek_200 : decode cX7_seek 200 = .ok (.ireturn, 1) := by decide +kernel
theorem dX7_seek_201 : decode cX7_seek 201 = .ok (.aload_n 0, 1) := by decide +kernel
theorem dX7_seek_202 : decode cX7_seek 202 = .ok (.getfield 12, 3) := by decide +kernel
theorem dX7_seek_205 : decode cX7_seek 205 = .ok (.aload_n 0, 1) := by decide +kernel
theorem dX7_seek_206 : decode cX7_seek 206 = .ok (.getfield 28, 3) := by decide +kernel
theorem dX7_seek_209 : decode cX7_seek 209 = .ok (.iload 7, 2) := by decide +kernel
theorem dX7_seek_211 : decode cX7_seek 211 = .ok (.iload 4, 2) := by decide +kernel
theorem dX7_seek_213 : decode cX7_seek 213 = .ok (.iload 6, 2) := by decide +kernel
theorem dX7_seek_215 : decode cX7_seek 215 = .ok (.invokevirtual 83, 3) := by decide +kernel
theorem dX7_seek_218 : decode cX7_seek 218 = .ok (.iinc 6 1, 3) := by decide +kernel
theorem dX7_seek_221 : decode cX7_seek 221 = .ok (.goto (-130), 3) := by decide +kernel
theorem dX7_seek_224 : decode cX7_seek 224 = .ok (.iinc 4 1, 3) := by decide +kernel
theorem dX7_seek_227 : decode cX7_seek 227 = .ok (.goto (-181), 3) := by decide +kernel
theorem dX7_seek_230 : decode cX7_seek 230 = .ok (.iconst 0, 1) := by decide +kernel
theorem dX7_seek_231 : decode cX7_seek 231 = .ok (.ireturn, 1) := by decide +kernel
theorem dX7_tryWithout_0 : decode cX7_tryWithout 0 = .ok (.iload_n 3, 1) := by decide +kernel
theorem dX7_tryWithout_1 : decode cX7_tryWithout 1 = .ok (.ifCond .lt 51, 3) := by decide +kernel
theorem dX7_tryWithout_4 : decode cX7_tryWithout 4 = .ok (.iload_n 3, 1) := by decide +kernel
theorem dX7_tryWithout_5 : decode cX7_tryWithout 5 = .ok (.iload_n 2, 1) := by decide +kernel
theorem dX7_tryWithout_6 : decode cX7_tryWithout 6 = .ok (.if_icmp .ge 46, 3) := by decide +kernel
theorem dX7_tryWithout_9 : decode cX7_tryWithout 9 = .ok (.iload_n 2, 1) := by decide +kernel
theorem dX7_tryWithout_10 : decode cX7_tryWithout 10 = .ok (.aload_n 1, 1) := by decide +kernel
theorem dX7_tryWithout_11 : decode cX7_tryWithout 11 = .ok (.arraylength, 1) := by decide +kernel
theorem dX7_tryWithout_12 : decode cX7_tryWithout 12 = .ok (.if_icmp .gt 40, 3) := by decide +kernel
theorem dX7_tryWithout_15 : decode cX7_tryWithout 15 = .ok (.iload_n 2, 1) := by decide +kernel
theorem dX7_tryWithout_16 : decode cX7_tryWithout 16 = .ok (.aload_n 0, 1) := by decide +kernel
theorem dX7_tryWithout_17 : decode cX7_tryWithout 17 = .ok (.getfield 24, 3) := by decide +kernel
theorem dX7_tryWithout_20 : decode cX7_tryWithout 20 = .ok (.arraylength, 1) := by decide +kernel
theorem dX7_tryWithout_21 : decode cX7_tryWithout 21 = .ok (.if_icmp .gt 31, 3) := by decide +kernel
theorem dX7_tryWithout_24 : decode cX7_tryWithout 24 = .ok (.aload_n 1, 1) := by decide +kernel
theorem dX7_tryWithout_25 : decode cX7_tryWithout 25 = .ok (.iconst 0, 1) := by decide +kernel
theorem dX7_tryWithout_26 : decode cX7_tryWithout 26 = .ok (.aload_n 0, 1) := by decide +kernel
theorem dX7_tryWithout_27 : decode cX7_tryWithout 27 = .ok (.getfield 24, 3) := by decide +kernel
theorem dX7_tryWithout_30 : decode cX7_tryWithout 30 = .ok (.iconst 0, 1) := by decide +kernel
theorem dX7_tryWithout_31 : decode cX7_tryWithout 31 = .ok (.iload_n 3, 1) := by decide +kernel
theorem dX7_tryWithout_32 : decode cX7_tryWithout 32 = .ok (.invokestatic 70, 3) := by decide +kernel
theorem dX7_tryWithout_35 : decode cX7_tryWithout 35 = .ok (.aload_n 1, 1) := by decide +kernel
theorem dX7_tryWithout_36 : decode cX7_tryWithout 36 = .ok (.iload_n 3, 1) := by decide +kernel
theorem dX7_tryWithout_37 : decode cX7_tryWithout 37 = .ok (.iconst 1, 1) := by decide +kernel
theorem dX7_tryWithout_38 : decode cX7_tryWithout 38 = .ok (.iadd, 1) := by decide +kernel
theorem dX7_tryWithout_39 : decode cX7_tryWithout 39 = .ok (.aload_n 0, 1) := by decide +kernel
theorem dX7_tryWithout_40 : decode cX7_tryWithout 40 = .ok (.getfield 24, 3) := by decide +kernel
theorem dX7_tryWithout_43 : decode cX7_tryWithout 43 = .ok (.iload_n 3, 1) := by decide +kernel
theorem dX7_tryWithout_44 : decode cX7_tryWithout 44 = .ok (.iload_n 2, 1) := by decide +kernel
theorem dX7_tryWithout_45 : decode cX7_tryWithout 45 = .ok (.iconst 1, 1) := by decide +kernel
theorem dX7_tryWithout_46 : decode cX7_tryWithout 46 = .ok (.isub, 1) := by decide +kernel
theorem dX7_tryWithout_47 : decode cX7_tryWithout 47 = .ok (.iload_n 3, 1) := by decide +kernel
theorem dX7_tryWithout_48 : decode cX7_tryWithout 48 = .ok (.isub, 1) := by decide +kernel
theorem dX7_tryWithout_49 : decode cX7_tryWithout 49 = .ok (.invokestatic 70, 3) := by decide +kernel
theorem dX7_tryWithout_52 : decode cX7_tryWithout 52 = .ok (.return_, 1) := by decide +kernel
theorem dX7_choiceAt_0 : decode cX7_choiceAt 0 = .ok (.iload_n 1, 1) := by decide +kernel
theorem dX7_choiceAt_1 : decode cX7_choiceAt 1 = .ok (.ifCond .lt 20, 3) := by decide +kernel
theorem dX7_choiceAt_4 : decode cX7_choiceAt 4 = .ok (.iload_n 1, 1) := by decide +kernel
theorem dX7_choiceAt_5 : decode cX7_choiceAt 5 = .ok (.aload_n 0, 1) := by decide +kernel
theorem dX7_choiceAt_6 : decode cX7_choiceAt 6 = .ok (.getfield 32, 3) := by decide +kernel
theorem dX7_choiceAt_9 : decode cX7_choiceAt 9 = .ok (.if_icmp .ge 12, 3) := by decide +kernel
theorem dX7_choiceAt_12 : decode cX7_choiceAt 12 = .ok (.aload_n 0, 1) := by decide +kernel
theorem dX7_choiceAt_13 : decode cX7_choiceAt 13 = .ok (.getfield 20, 3) := by decide +kernel
theorem dX7_choiceAt_16 : decode cX7_choiceAt 16 = .ok (.iload_n 1, 1) := by decide +kernel
theorem dX7_choiceAt_17 : decode cX7_choiceAt 17 = .ok (.aaload, 1) := by decide +kernel
theorem dX7_choiceAt_18 : decode cX7_choiceAt 18 = .ok (.goto 4, 3) := by decide +kernel
theorem dX7_choiceAt_21 : decode cX7_choiceAt 21 = .ok (.aconst_null, 1) := by decide +kernel
theorem dX7_choiceAt_22 : decode cX7_choiceAt 22 = .ok (.areturn, 1) := by decide +kernel
theorem dX8_init_0 : decode cX8_init 0 = .ok (.aload_n 0, 1) := by decide +kernel
theorem dX8_init_1 : decode cX8_init 1 = .ok (.invokespecial 3, 3) := by decide +kernel
theorem dX8_init_4 : decode cX8_init 4 = .ok (.aload_n 0, 1) := by decide +kernel
theorem dX8_init_5 : decode cX8_init 5 = .ok (.sipush 208, 3) := by decide +kernel
theorem dX8_init_8 : decode cX8_init 8 = .ok (.newarray .byte, 2) := by decide +kernel
theorem dX8_init_10 : decode cX8_init 10 = .ok (.putfield 11, 3) := by decide +kernel
theorem dX8_init_13 : decode cX8_init 13 = .ok (.return_, 1) := by decide +kernel
theorem dX8_isPlain_0 : decode cX8_isPlain 0 = .ok (.bipush 24, 2) := by decide +kernel
theorem dX8_isPlain_2 : decode cX8_isPlain 2 = .ok (.istore_n 1, 1) := by decide +kernel
theorem dX8_isPlain_3 : decode cX8_isPlain 3 = .ok (.iload_n 1, 1) := by decide +kernel
theorem dX8_isPlain_4 : decode cX8_isPlain 4 = .ok (.ifCond .lt 31, 3) := by decide +kernel
theorem dX8_isPlain_7 : decode cX8_isPlain 7 = .ok (.iload_n 0, 1) := by decide +kernel
theorem dX8_isPlain_8 : decode cX8_isPlain 8 = .ok (.iload_n 1, 1) := by decide +kernel
theorem dX8_isPlain_9 : decode cX8_isPlain 9 = .ok (.iushr, 1) := by decide +kernel
theorem dX8_isPlain_10 : decode cX8_isPlain 10 = .ok (.sipush 255, 3) := by decide +kernel
theorem dX8_isPlain_13 : decode cX8_isPlain 13 = .ok (.iand, 1) := by decide +kernel
theorem dX8_isPlain_14 : decode cX8_isPlain 14 = .ok (.istore_n 2, 1) := by decide +kernel
theorem dX8_isPlain_15 : decode cX8_isPlain 15 = .ok (.iload_n 2, 1) := by decide +kernel
theorem dX8_isPlain_16 : decode cX8_isPlain 16 = .ok (.bipush 32, 2) := by decide +kernel
theorem dX8_isPlain_18 : decode cX8_isPlain 18 = .ok (.if_icmp .lt 9, 3) := by decide +kernel
theorem dX8_isPlain_21 : decode cX8_isPlain 21 = .ok (.iload_n 2, 1) := by decide +kernel
theorem dX8_isPlain_22 : decode cX8_isPlain 22 = .ok (.bipush 126, 2) := by decide +kernel
theorem dX8_isPlain_24 : decode cX8_isPlain 24 = .ok (.if_icmp .le 5, 3) := by decide +kernel
theorem dX8_isPlain_27 : decode cX8_isPlain 27 = .ok (.iconst 0, 1) := by decide +kernel
theorem dX8_isPlain_28 : decode cX8_isPlain 28 = .ok (.ireturn, 1) := by decide +kernel
theorem dX8_isPlain_29 : decode cX8_isPlain 29 = .ok (.iinc 1 (-8), 3) := by decide +kernel
theorem dX8_isPlain_32 : decode cX8_isPlain 32 = .ok (.goto (-29), 3) := by decide +kernel
theorem dX8_isPlain_35 : decode cX8_isPlain 35 = .ok (.iconst 1, 1) := by decide +kernel
theorem dX8_isPlain_36 : decode cX8_isPlain 36 = .ok (.ireturn, 1) := by decide +kernel
theorem dX8_hasRoomFor_0 : decode cX8_hasRoomFor 0 = .ok (.aload_n 0, 1) := by decide +kernel
theorem dX8_hasRoomFor_1 : decode cX8_hasRoomFor 1 = .ok (.getfield 15, 3) := by decide +kernel
theorem dX8_hasRoomFor_4 : decode cX8_hasRoomFor 4 = .ok (.iload_n 1, 1) := by decide +kernel
theorem dX8_hasRoomFor_5 : decode cX8_hasRoomFor 5 = .ok (.iadd, 1) := by decide +kernel
theorem dX8_hasRoomFor_6 : decode cX8_hasRoomFor 6 = .ok (.sipush 208, 3) := by decide +kernel
theorem dX8_hasRoomFor_9 : decode cX8_hasRoomFor 9 = .ok (.if_icmp .gt 7, 3) := by decide +kernel
theorem dX8_hasRoomFor_12 : decode cX8_hasRoomFor 12 = .ok (.iconst 1, 1) := by decide +kernel
theorem dX8_hasRoomFor_13 : decode cX8_hasRoomFor 13 = .ok (.goto 4, 3) := by decide +kernel
theorem dX8_hasRoomFor_16 : decode cX8_hasRoomFor 16 = .ok (.iconst 0, 1) := by decide +kernel
theorem dX8_hasRoomFor_17 : decode cX8_hasRoomFor 17 = .ok (.ireturn, 1) := by decide +kernel
theorem dX8_append_0 : decode cX8_append 0 = .ok (.bipush 24, 2) := by decide +kernel
theorem dX8_append_2 : decode cX8_append 2 = .ok (.istore_n 2, 1) := by decide +kernel
theorem dX8_append_3 : decode cX8_append 3 = .ok (.iload_n 2, 1) := by decide +kernel
theorem dX8_append_4 : decode cX8_append 4 = .ok (.ifCond .lt 42, 3) := by decide +kernel
theorem dX8_append_7 : decode cX8_append 7 = .ok (.aload_n 0, 1) := by decide +kernel
theorem dX8_append_8 : decode cX8_append 8 = .ok (.getfield 15, 3) := by decide +kernel
theorem dX8_append_11 : decode cX8_append 11 = .ok (.sipush 208, 3) := by decide +kernel
theorem dX8_append_14 : decode cX8_append 14 = .ok (.if_icmp .ge 32, 3) := by decide +kernel
theorem dX8_append_17 : decode cX8_append 17 = .ok (.aload_n 0, 1) := by decide +kernel
theorem dX8_append_18 : decode cX8_append 18 = .ok (.getfield 11, 3) := by decide +kernel
theorem dX8_append_21 : decode cX8_append 21 = .ok (.aload_n 0, 1) := by decide +kernel
theorem dX8_append_22 : decode cX8_append 22 = .ok (.getfield 15, 3) := by decide +kernel
theorem dX8_append_25 : decode cX8_append 25 = .ok (.iload_n 1, 1) := by decide +kernel
theorem dX8_append_26 : decode cX8_append 26 = .ok (.iload_n 2, 1) := by decide +kernel
theorem dX8_append_27 : decode cX8_append 27 = .ok (.iushr, 1) := by decide +kernel
theorem dX8_append_28 : decode cX8_append 28 = .ok (.i2b, 1) := by decide +kernel
theorem dX8_append_29 : decode cX8_append 29 = .ok (.bastore, 1) := by decide +kernel
theorem dX8_append_30 : decode cX8_append 30 = .ok (.aload_n 0, 1) := by decide +kernel
theorem dX8_append_31 : decode cX8_append 31 = .ok (.dup, 1) := by decide +kernel
theorem dX8_append_32 : decode cX8_append 32 = .ok (.getfield 15, 3) := by decide +kernel
theorem dX8_append_35 : decode cX8_append 35 = .ok (.iconst 1, 1) := by decide +kernel
theorem dX8_append_36 : decode cX8_append 36 = .ok (.iadd, 1) := by decide +kernel
theorem dX8_append_37 : decode cX8_append 37 = .ok (.putfield 15, 3) := by decide +kernel
theorem dX8_append_40 : decode cX8_append 40 = .ok (.iinc 2 (-8), 3) := by decide +kernel
theorem dX8_append_43 : decode cX8_append 43 = .ok (.goto (-40), 3) := by decide +kernel
theorem dX8_append_46 : decode cX8_append 46 = .ok (.return_, 1) := by decide +kernel
theorem dX8_drop_0 : decode cX8_drop 0 = .ok (.aload_n 0, 1) := by decide +kernel
theorem dX8_drop_1 : decode cX8_drop 1 = .ok (.iconst 0, 1) := by decide +kernel
theorem dX8_drop_2 : decode cX8_drop 2 = .ok (.aload_n 0, 1) := by decide +kernel
theorem dX8_drop_3 : decode cX8_drop 3 = .ok (.getfield 15, 3) := by decide +kernel
theorem dX8_drop_6 : decode cX8_drop 6 = .ok (.iload_n 1, 1) := by decide +kernel
theorem dX8_drop_7 : decode cX8_drop 7 = .ok (.isub, 1) := by decide +kernel
theorem dX8_drop_8 : decode cX8_drop 8 = .ok (.invokestatic 19, 3) := by decide +kernel
theorem dX8_drop_11 : decode cX8_drop 11 = .ok (.putfield 15, 3) := by decide +kernel
theorem dX8_drop_14 : decode cX8_drop 14 = .ok (.return_, 1) := by decide +kernel
theorem dX8_length_0 : decode cX8_length 0 = .ok (.aload_n 0, 1) := by decide +kernel
theorem dX8_length_1 : decode cX8_length 1 = .ok (.getfield 15, 3) := by decide +kernel
theorem dX8_length_4 : decode cX8_length 4 = .ok (.ireturn, 1) := by decide +kernel
theorem dX8_place_0 : decode cX8_place 0 = .ok (.aload_n 0, 1) := by decide +kernel
theorem dX8_place_1 : decode cX8_place 1 = .ok (.getfield 25, 3) := by decide +kernel
theorem dX8_place_4 : decode cX8_place 4 = .ok (.ireturn, 1) := by decide +kernel
theorem dX8_token_0 : decode cX8_token 0 = .ok (.aload_n 0, 1) := by decide +kernel
theorem dX8_token_1 : decode cX8_token 1 = .ok (.getfield 28, 3) := by decide +kernel
theorem dX8_token_4 : decode cX8_token 4 = .ok (.ireturn, 1) := by decide +kernel
theorem dX8_number_0 : decode cX8_number 0 = .ok (.aload_n 0, 1) := by decide +kernel
theorem dX8_number_1 : decode cX8_number 1 = .ok (.getfield 31, 3) := by decide +kernel
theorem dX8_number_4 : decode cX8_number 4 = .ok (.ireturn, 1) := by decide +kernel
theorem dX8_open_0 : decode cX8_open 0 = .ok (.aload_n 0, 1) := by decide +kernel
theorem dX8_open_1 : decode cX8_open 1 = .ok (.iconst 0, 1) := by decide +kernel
theorem dX8_open_2 : decode cX8_open 2 = .ok (.putfield 34, 3) := by decide +kernel
theorem dX8_open_5 : decode cX8_open 5 = .ok (.aload_n 0, 1) := by decide +kernel
theorem dX8_open_6 : decode cX8_open 6 = .ok (.invokevirtual 37, 3) := by decide +kernel
theorem dX8_open_9 : decode cX8_open 9 = .ok (.return_, 1) := by decide +kernel
theorem dX8_next_0 : decode cX8_next 0 = .ok (.aload_n 0, 1) := by decide +kernel
theorem dX8_next_1 : decode cX8_next 1 = .ok (.getfield 34, 3) := by decide +kernel
theorem dX8_next_4 : decode cX8_next 4 = .ok (.istore_n 1, 1) := by decide +kernel
theorem dX8_next_5 : decode cX8_next 5 = .ok (.iload_n 1, 1) := by decide +kernel
theorem dX8_next_6 : decode cX8_next 6 = .ok (.aload_n 0, 1) := by decide +kernel
theorem dX8_next_7 : decode cX8_next 7 = .ok (.getfield 15, 3) := by decide +kernel
theorem dX8_next_10 : decode cX8_next 10 = .ok (.if_icmp .ge 20, 3) := by decide +kernel
theorem dX8_next_13 : decode cX8_next 13 = .ok (.aload_n 0, 1) := by decide +kernel
theorem dX8_next_14 : decode cX8_next 14 = .ok (.getfield 11, 3) := by decide +kernel
theorem dX8_next_17 : decode cX8_next 17 = .ok (.iload_n 1, 1) := by decide +kernel
theorem dX8_next_18 : decode cX8_next 18 = .ok (.baload, 1) := by decide +kernel
theorem dX8_next_19 : decode cX8_next 19 = .ok (.bipush 32, 2) := by decide +kernel
theorem dX8_next_21 : decode cX8_next 21 = .ok (.if_icmp .ne 9, 3) := by decide +kernel
theorem dX8_next_24 : decode cX8_next 24 = .ok (.iinc 1 1, 3) := by decide +kernel
theorem dX8_next_27 : decode cX8_next 27 = .ok (.goto (-22), 3) := by decide +kernel
theorem dX8_next_30 : decode cX8_next 30 = .ok (.aload_n 0, 1) := by decide +kernel
theorem dX8_next_31 : decode cX8_next 31 = .ok (.iload_n 1, 1) := by decide +kernel
theorem dX8_next_32 : decode cX8_next 32 = .ok (.putfield 25, 3) := by decide +kernel
theorem dX8_next_35 : decode cX8_next 35 = .ok (.aload_n 0, 1) := by decide +kernel
theorem dX8_next_36 : decode cX8_next 36 = .ok (.iload_n 1, 1) := by decide +kernel
theorem dX8_next_37 : decode cX8_next 37 = .ok (.putfield 34, 3) := by decide +kernel
theorem dX8_next_40 : decode cX8_next 40 = .ok (.iload_n 1, 1) := by decide +kernel
theorem dX8_next_41 : decode cX8_next 41 = .ok (.aload_n 0, 1) := by decide +kernel
theorem dX8_next_42 : decode cX8_next 42 = .ok (.getfield 15, 3) := by decide +kernel
theorem dX8_next_45 : decode cX8_next 45 = .ok (.if_icmp .lt 11, 3) := by decide +kernel
theorem dX8_next_48 : decode cX8_next 48 = .ok (.aload_n 0, 1) := by decide +kernel
theorem dX8_next_49 : decode cX8_next 49 = .ok (.iconst 0, 1) := by decide +kernel
theorem dX8_next_50 : decode cX8_next 50 = .ok (.putfield 28, 3) := by decide +kernel
theorem dX8_next_53 : decode cX8_next 53 = .ok (.goto 78, 3) := by decide +kernel
theorem dX8_next_56 : decode cX8_next 56 = .ok (.aload_n 0, 1) := by decide +kernel
theorem dX8_next_57 : decode cX8_next 57 = .ok (.getfield 11, 3) := by decide +kernel
theorem dX8_next_60 : decode cX8_next 60 = .ok (.iload_n 1, 1) := by decide +kernel
theorem dX8_next_61 : decode cX8_next 61 = .ok (.baload, 1) := by decide +kernel
theorem dX8_next_62 : decode cX8_next 62 = .ok (.invokestatic 40, 3) := by decide +kernel
theorem dX8_next_65 : decode cX8_next 65 = .ok (.ifCond .eq 10, 3) := by decide +kernel
theorem dX8_next_68 : decode cX8_next 68 = .ok (.aload_n 0, 1) := by decide +kernel
theorem dX8_next_69 : decode cX8_next 69 = .ok (.invokevirtual 44, 3) := by decide +kernel
theorem dX8_next_72 : decode cX8_next 72 = .ok (.goto 59, 3) := by decide +kernel
theorem dX8_next_75 : decode cX8_next 75 = .ok (.aload_n 0, 1) := by decide +kernel
theorem dX8_next_76 : decode cX8_next 76 = .ok (.getfield 11, 3) := by decide +kernel
theorem dX8_next_79 : decode cX8_next 79 = .ok (.iload_n 1, 1) := by decide +kernel
theorem dX8_next_80 : decode cX8_next 80 = .ok (.baload, 1) := by decide +kernel
theorem dX8_next_81 : decode cX8_next 81 = .ok (.invokestatic 47, 3) := by decide +kernel
theorem dX8_next_84 : decode cX8_next 84 = .ok (.ifCond .eq 10, 3) := by decide +kernel
theorem dX8_next_87 : decode cX8_next 87 = .ok (.aload_n 0, 1) := by decide +kernel
theorem dX8_next_88 : decode cX8_next 88 = .ok (.invokevirtual 50, 3) := by decide +kernel
theorem dX8_next_91 : decode cX8_next 91 = .ok (.goto 40, 3) := by decide +kernel
theorem dX8_next_94 : decode cX8_next 94 = .ok (.aload_n 0, 1) := by decide +kernel
theorem dX8_next_95 : decode cX8_next 95 = .ok (.iload_n 1, 1) := by decide +kernel
theorem dX8_next_96 : decode cX8_next 96 = .ok (.iconst 1, 1) := by decide +kernel
theorem dX8_next_97 : decode cX8_next 97 = .ok (.iadd, 1) := by decide +kernel
theorem dX8_next_98 : decode cX8_next 98 = .ok (.putfield 34, 3) := by decide +kernel
theorem dX8_next_101 : decode cX8_next 101 = .ok (.aload_n 0, 1) := by decide +kernel
theorem dX8_next_102 : decode cX8_next 102 = .ok (.ldc 53, 2) := by decide +kernel
theorem dX8_next_104 : decode cX8_next 104 = .ok (.aload_n 0, 1) := by decide +kernel
theorem dX8_next_105 : decode cX8_next 105 = .ok (.getfield 11, 3) := by decide +kernel
theorem dX8_next_108 : decode cX8_next 108 = .ok (.iload_n 1, 1) := by decide +kernel
theorem dX8_next_109 : decode cX8_next 109 = .ok (.baload, 1) := by decide +kernel
theorem dX8_next_110 : decode cX8_next 110 = .ok (.i2c, 1) := by decide +kernel
theorem dX8_next_111 : decode cX8_next 111 = .ok (.invokevirtual 55, 3) := by decide +kernel
theorem dX8_next_114 : decode cX8_next 114 = .ok (.ifCond .lt 12, 3) := by decide +kernel
theorem dX8_next_117 : decode cX8_next 117 = .ok (.aload_n 0, 1) := by decide +kernel
theorem dX8_next_118 : decode cX8_next 118 = .ok (.getfield 11, 3) := by decide +kernel
theorem dX8_next_121 : decode cX8_next 121 = .ok (.iload_n 1, 1) := by decide +kernel
theorem dX8_next_122 : decode cX8_next 122 = .ok (.baload, 1) := by decide +kernel
