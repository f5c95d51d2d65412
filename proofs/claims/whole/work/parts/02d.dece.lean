theorem dX11_keep_44 : decode cX11_keep 44 = .ok (.iload_n 2, 1) := by decide +kernel
theorem dX11_keep_45 : decode cX11_keep 45 = .ok (.iadd, 1) := by decide +kernel
theorem dX11_keep_46 : decode cX11_keep 46 = .ok (.aload_n 0, 1) := by decide +kernel
theorem dX11_keep_47 : decode cX11_keep 47 = .ok (.getfield 16, 3) := by decide +kernel
theorem dX11_keep_50 : decode cX11_keep 50 = .ok (.sipush 4200, 3) := by decide +kernel
theorem dX11_keep_53 : decode cX11_keep 53 = .ok (.iload_n 2, 1) := by decide +kernel
theorem dX11_keep_54 : decode cX11_keep 54 = .ok (.iadd, 1) := by decide +kernel
theorem dX11_keep_55 : decode cX11_keep 55 = .ok (.iaload, 1) := by decide +kernel
theorem dX11_keep_56 : decode cX11_keep 56 = .ok (.iastore, 1) := by decide +kernel
theorem dX11_keep_57 : decode cX11_keep 57 = .ok (.aload_n 0, 1) := by decide +kernel
theorem dX11_keep_58 : decode cX11_keep 58 = .ok (.getfield 19, 3) := by decide +kernel
theorem dX11_keep_61 : decode cX11_keep 61 = .ok (.sipush 300, 3) := by decide +kernel
theorem dX11_keep_64 : decode cX11_keep 64 = .ok (.iload_n 1, 1) := by decide +kernel
theorem dX11_keep_65 : decode cX11_keep 65 = .ok (.imul, 1) := by decide +kernel
theorem dX11_keep_66 : decode cX11_keep 66 = .ok (.iload_n 2, 1) := by decide +kernel
theorem dX11_keep_67 : decode cX11_keep 67 = .ok (.iadd, 1) := by decide +kernel
theorem dX11_keep_68 : decode cX11_keep 68 = .ok (.aload_n 0, 1) := by decide +kernel
theorem dX11_keep_69 : decode cX11_keep 69 = .ok (.getfield 19, 3) := by decide +kernel
theorem dX11_keep_72 : decode cX11_keep 72 = .ok (.sipush 4200, 3) := by decide +kernel
theorem dX11_keep_75 : decode cX11_keep 75 = .ok (.iload_n 2, 1) := by decide +kernel
theorem dX11_keep_76 : decode cX11_keep 76 = .ok (.iadd, 1) := by decide +kernel
theorem dX11_keep_77 : decode cX11_keep 77 = .ok (.iaload, 1) := by decide +kernel
theorem dX11_keep_78 : decode cX11_keep 78 = .ok (.iastore, 1) := by decide +kernel
theorem dX11_keep_79 : decode cX11_keep 79 = .ok (.iinc 2 1, 3) := by decide +kernel
theorem dX11_keep_82 : decode cX11_keep 82 = .ok (.goto (-80), 3) := by decide +kernel
theorem dX11_keep_85 : decode cX11_keep 85 = .ok (.aload_n 0, 1) := by decide +kernel
theorem dX11_keep_86 : decode cX11_keep 86 = .ok (.getfield 22, 3) := by decide +kernel
theorem dX11_keep_89 : decode cX11_keep 89 = .ok (.iload_n 1, 1) := by decide +kernel
theorem dX11_keep_90 : decode cX11_keep 90 = .ok (.aload_n 0, 1) := by decide +kernel
theorem dX11_keep_91 : decode cX11_keep 91 = .ok (.getfield 22, 3) := by decide +kernel
theorem dX11_keep_94 : decode cX11_keep 94 = .ok (.bipush 14, 2) := by decide +kernel
theorem dX11_keep_96 : decode cX11_keep 96 = .ok (.iaload, 1) := by decide +kernel
theorem dX11_keep_97 : decode cX11_keep 97 = .ok (.iastore, 1) := by decide +kernel
theorem dX11_keep_98 : decode cX11_keep 98 = .ok (.return_, 1) := by decide +kernel
theorem dX11_method_0 : decode cX11_method 0 = .ok (.iload_n 1, 1) := by decide +kernel
theorem dX11_method_1 : decode cX11_method 1 = .ok (.i2l, 1) := by decide +kernel
theorem dX11_method_2 : decode cX11_method 2 = .ok (.lconst 0, 1) := by decide +kernel
theorem dX11_method_3 : decode cX11_method 3 = .ok (.ldc2_w 231, 3) := by decide +kernel
theorem dX11_method_6 : decode cX11_method 6 = .ok (.invokestatic 117, 3) := by decide +kernel
theorem dX11_method_9 : decode cX11_method 9 = .ok (.ifCond .ne 5, 3) := by decide +kernel
theorem dX11_method_12 : decode cX11_method 12 = .ok (.iconst (-1), 1) := by decide +kernel
theorem dX11_method_13 : decode cX11_method 13 = .ok (.ireturn, 1) := by decide +kernel
theorem dX11_method_14 : decode cX11_method 14 = .ok (.aload_n 0, 1) := by decide +kernel
theorem dX11_method_15 : decode cX11_method 15 = .ok (.invokevirtual 233, 3) := by decide +kernel
theorem dX11_method_18 : decode cX11_method 18 = .ok (.aload_n 0, 1) := by decide +kernel
theorem dX11_method_19 : decode cX11_method 19 = .ok (.iconst 0, 1) := by decide +kernel
theorem dX11_method_20 : decode cX11_method 20 = .ok (.putfield 213, 3) := by decide +kernel
theorem dX11_method_23 : decode cX11_method 23 = .ok (.aload_n 0, 1) := by decide +kernel
theorem dX11_method_24 : decode cX11_method 24 = .ok (.iconst 0, 1) := by decide +kernel
theorem dX11_method_25 : decode cX11_method 25 = .ok (.putfield 228, 3) := by decide +kernel
theorem dX11_method_28 : decode cX11_method 28 = .ok (.aload_n 0, 1) := by decide +kernel
theorem dX11_method_29 : decode cX11_method 29 = .ok (.iconst 0, 1) := by decide +kernel
theorem dX11_method_30 : decode cX11_method 30 = .ok (.putfield 222, 3) := by decide +kernel
theorem dX11_method_33 : decode cX11_method 33 = .ok (.aload_n 0, 1) := by decide +kernel
theorem dX11_method_34 : decode cX11_method 34 = .ok (.getfield 166, 3) := by decide +kernel
theorem dX11_method_37 : decode cX11_method 37 = .ok (.ifCond .ne 82, 3) := by decide +kernel
theorem dX11_method_40 : decode cX11_method 40 = .ok (.aload_n 0, 1) := by decide +kernel
theorem dX11_method_41 : decode cX11_method 41 = .ok (.getfield 151, 3) := by decide +kernel
theorem dX11_method_44 : decode cX11_method 44 = .ok (.ifCond .ne 10, 3) := by decide +kernel
theorem dX11_method_47 : decode cX11_method 47 = .ok (.aload_n 0, 1) := by decide +kernel
theorem dX11_method_48 : decode cX11_method 48 = .ok (.getfield 228, 3) := by decide +kernel
theorem dX11_method_51 : decode cX11_method 51 = .ok (.ifCond .le 68, 3) := by decide +kernel
theorem dX11_method_54 : decode cX11_method 54 = .ok (.aload_n 0, 1) := by decide +kernel
theorem dX11_method_55 : decode cX11_method 55 = .ok (.getfield 151, 3) := by decide +kernel
theorem dX11_method_58 : decode cX11_method 58 = .ok (.bipush 125, 2) := by decide +kernel
theorem dX11_method_60 : decode cX11_method 60 = .ok (.if_icmp .ne 52, 3) := by decide +kernel
theorem dX11_method_63 : decode cX11_method 63 = .ok (.aload_n 0, 1) := by decide +kernel
theorem dX11_method_64 : decode cX11_method 64 = .ok (.getfield 228, 3) := by decide +kernel
theorem dX11_method_67 : decode cX11_method 67 = .ok (.ifCond .le 45, 3) := by decide +kernel
theorem dX11_method_70 : decode cX11_method 70 = .ok (.aload_n 0, 1) := by decide +kernel
theorem dX11_method_71 : decode cX11_method 71 = .ok (.dup, 1) := by decide +kernel
theorem dX11_method_72 : decode cX11_method 72 = .ok (.getfield 228, 3) := by decide +kernel
theorem dX11_method_75 : decode cX11_method 75 = .ok (.iconst 1, 1) := by decide +kernel
theorem dX11_method_76 : decode cX11_method 76 = .ok (.isub, 1) := by decide +kernel
theorem dX11_method_77 : decode cX11_method 77 = .ok (.putfield 228, 3) := by decide +kernel
theorem dX11_method_80 : decode cX11_method 80 = .ok (.aload_n 0, 1) := by decide +kernel
theorem dX11_method_81 : decode cX11_method 81 = .ok (.getfield 19, 3) := by decide +kernel
theorem dX11_method_84 : decode cX11_method 84 = .ok (.sipush 4200, 3) := by decide +kernel
theorem dX11_method_87 : decode cX11_method 87 = .ok (.aload_n 0, 1) := by decide +kernel
theorem dX11_method_88 : decode cX11_method 88 = .ok (.getfield 35, 3) := by decide +kernel
theorem dX11_method_91 : decode cX11_method 91 = .ok (.aload_n 0, 1) := by decide +kernel
theorem dX11_method_92 : decode cX11_method 92 = .ok (.getfield 228, 3) := by decide +kernel
theorem dX11_method_95 : decode cX11_method 95 = .ok (.iaload, 1) := by decide +kernel
theorem dX11_method_96 : decode cX11_method 96 = .ok (.iadd, 1) := by decide +kernel
theorem dX11_method_97 : decode cX11_method 97 = .ok (.aload_n 0, 1) := by decide +kernel
theorem dX11_method_98 : decode cX11_method 98 = .ok (.getfield 22, 3) := by decide +kernel
theorem dX11_method_101 : decode cX11_method 101 = .ok (.bipush 14, 2) := by decide +kernel
theorem dX11_method_103 : decode cX11_method 103 = .ok (.iaload, 1) := by decide +kernel
theorem dX11_method_104 : decode cX11_method 104 = .ok (.iastore, 1) := by decide +kernel
theorem dX11_method_105 : decode cX11_method 105 = .ok (.aload_n 0, 1) := by decide +kernel
theorem dX11_method_106 : decode cX11_method 106 = .ok (.invokevirtual 170, 3) := by decide +kernel
theorem dX11_method_109 : decode cX11_method 109 = .ok (.goto (-76), 3) := by decide +kernel
theorem dX11_method_112 : decode cX11_method 112 = .ok (.aload_n 0, 1) := by decide +kernel
theorem dX11_method_113 : decode cX11_method 113 = .ok (.invokevirtual 236, 3) := by decide +kernel
theorem dX11_method_116 : decode cX11_method 116 = .ok (.goto (-83), 3) := by decide +kernel
theorem dX11_method_119 : decode cX11_method 119 = .ok (.aload_n 0, 1) := by decide +kernel
theorem dX11_method_120 : decode cX11_method 120 = .ok (.invokevirtual 239, 3) := by decide +kernel
theorem dX11_method_123 : decode cX11_method 123 = .ok (.istore_n 2, 1) := by decide +kernel
theorem dX11_method_124 : decode cX11_method 124 = .ok (.iload_n 2, 1) := by decide +kernel
theorem dX11_method_125 : decode cX11_method 125 = .ok (.ifCond .ge 5, 3) := by decide +kernel
theorem dX11_method_128 : decode cX11_method 128 = .ok (.iload_n 2, 1) := by decide +kernel
theorem dX11_method_129 : decode cX11_method 129 = .ok (.ireturn, 1) := by decide +kernel
theorem dX11_method_130 : decode cX11_method 130 = .ok (.aload_n 0, 1) := by decide +kernel
theorem dX11_method_131 : decode cX11_method 131 = .ok (.iload_n 1, 1) := by decide +kernel
theorem dX11_method_132 : decode cX11_method 132 = .ok (.invokevirtual 242, 3) := by decide +kernel
theorem dX11_method_135 : decode cX11_method 135 = .ok (.aload_n 0, 1) := by decide +kernel
theorem dX11_method_136 : decode cX11_method 136 = .ok (.getfield 28, 3) := by decide +kernel
theorem dX11_method_139 : decode cX11_method 139 = .ok (.iload_n 1, 1) := by decide +kernel
theorem dX11_method_140 : decode cX11_method 140 = .ok (.iconst 1, 1) := by decide +kernel
theorem dX11_method_141 : decode cX11_method 141 = .ok (.bastore, 1) := by decide +kernel
theorem dX11_method_142 : decode cX11_method 142 = .ok (.aload_n 0, 1) := by decide +kernel
theorem dX11_method_143 : decode cX11_method 143 = .ok (.getfield 25, 3) := by decide +kernel
theorem dX11_method_146 : decode cX11_method 146 = .ok (.iload_n 1, 1) := by decide +kernel
theorem dX11_method_147 : decode cX11_method 147 = .ok (.iconst 2, 1) := by decide +kernel
theorem dX11_method_148 : decode cX11_method 148 = .ok (.aload_n 0, 1) := by decide +kernel
theorem dX11_method_149 : decode cX11_method 149 = .ok (.getfield 222, 3) := by decide +kernel
theorem dX11_method_152 : decode cX11_method 152 = .ok (.imul, 1) := by decide +kernel
theorem dX11_method_153 : decode cX11_method 153 = .ok (.iastore, 1) := by decide +kernel
theorem dX11_method_154 : decode cX11_method 154 = .ok (.bipush 24, 2) := by decide +kernel
theorem dX11_method_156 : decode cX11_method 156 = .ok (.iload_n 1, 1) := by decide +kernel
theorem dX11_method_157 : decode cX11_method 157 = .ok (.imul, 1) := by decide +kernel
theorem dX11_method_158 : decode cX11_method 158 = .ok (.istore_n 3, 1) := by decide +kernel
theorem dX11_method_159 : decode cX11_method 159 = .ok (.iload_n 3, 1) := by decide +kernel
theorem dX11_method_160 : decode cX11_method 160 = .ok (.bipush 24, 2) := by decide +kernel
theorem dX11_method_162 : decode cX11_method 162 = .ok (.iload_n 1, 1) := by decide +kernel
theorem dX11_method_163 : decode cX11_method 163 = .ok (.imul, 1) := by decide +kernel
theorem dX11_method_164 : decode cX11_method 164 = .ok (.bipush 24, 2) := by decide +kernel
theorem dX11_method_166 : decode cX11_method 166 = .ok (.iadd, 1) := by decide +kernel
theorem dX11_method_167 : decode cX11_method 167 = .ok (.if_icmp .ge 16, 3) := by decide +kernel
theorem dX11_method_170 : decode cX11_method 170 = .ok (.aload_n 0, 1) := by decide +kernel
theorem dX11_method_171 : decode cX11_method 171 = .ok (.getfield 53, 3) := by decide +kernel
theorem dX11_method_174 : decode cX11_method 174 = .ok (.iload_n 3, 1) := by decide +kernel
theorem dX11_method_175 : decode cX11_method 175 = .ok (.iconst 0, 1) := by decide +kernel
theorem dX11_method_176 : decode cX11_method 176 = .ok (.bastore, 1) := by decide +kernel
theorem dX11_method_177 : decode cX11_method 177 = .ok (.iinc 3 1, 3) := by decide +kernel
theorem dX11_method_180 : decode cX11_method 180 = .ok (.goto (-21), 3) := by decide +kernel
theorem dX11_method_183 : decode cX11_method 183 = .ok (.aload_n 0, 1) := by decide +kernel
theorem dX11_method_184 : decode cX11_method 184 = .ok (.getfield 213, 3) := by decide +kernel
theorem dX11_method_187 : decode cX11_method 187 = .ok (.ireturn, 1) := by decide +kernel
theorem dX11_rule_0 : decode cX11_rule 0 = .ok (.aload_n 0, 1) := by decide +kernel
theorem dX11_rule_1 : decode cX11_rule 1 = .ok (.invokevirtual 233, 3) := by decide +kernel
theorem dX11_rule_4 : decode cX11_rule 4 = .ok (.aload_n 0, 1) := by decide +kernel
theorem dX11_rule_5 : decode cX11_rule 5 = .ok (.iconst 1, 1) := by decide +kernel
theorem dX11_rule_6 : decode cX11_rule 6 = .ok (.invokevirtual 218, 3) := by decide +kernel
theorem dX11_rule_9 : decode cX11_rule 9 = .ok (.aload_n 0, 1) := by decide +kernel
theorem dX11_rule_10 : decode cX11_rule 10 = .ok (.aload_n 0, 1) := by decide +kernel
theorem dX11_rule_11 : decode cX11_rule 11 = .ok (.getfield 166, 3) := by decide +kernel
theorem dX11_rule_14 : decode cX11_rule 14 = .ok (.ifCond .ne 10, 3) := by decide +kernel
theorem dX11_rule_17 : decode cX11_rule 17 = .ok (.aload_n 0, 1) := by decide +kernel
theorem dX11_rule_18 : decode cX11_rule 18 = .ok (.getfield 151, 3) := by decide +kernel
theorem dX11_rule_21 : decode cX11_rule 21 = .ok (.ifCond .eq 7, 3) := by decide +kernel
theorem dX11_rule_24 : decode cX11_rule 24 = .ok (.iconst 1, 1) := by decide +kernel
theorem dX11_rule_25 : decode cX11_rule 25 = .ok (.goto 4, 3) := by decide +kernel
theorem dX11_rule_28 : decode cX11_rule 28 = .ok (.iconst 0, 1) := by decide +kernel
theorem dX11_rule_29 : decode cX11_rule 29 = .ok (.putfield 166, 3) := by decide +kernel
theorem dX11_rule_32 : decode cX11_rule 32 = .ok (.aload_n 0, 1) := by decide +kernel
theorem dX11_rule_33 : decode cX11_rule 33 = .ok (.invokevirtual 239, 3) := by decide +kernel
theorem dX11_rule_36 : decode cX11_rule 36 = .ok (.istore_n 1, 1) := by decide +kernel
theorem dX11_rule_37 : decode cX11_rule 37 = .ok (.iload_n 1, 1) := by decide +kernel
theorem dX11_rule_38 : decode cX11_rule 38 = .ok (.ifCond .ge 5, 3) := by decide +kernel
theorem dX11_rule_41 : decode cX11_rule 41 = .ok (.iload_n 1, 1) := by decide +kernel
theorem dX11_rule_42 : decode cX11_rule 42 = .ok (.ireturn, 1) := by decide +kernel
theorem dX11_rule_43 : decode cX11_rule 43 = .ok (.aload_n 0, 1) := by decide +kernel
theorem dX11_rule_44 : decode cX11_rule 44 = .ok (.getfield 245, 3) := by decide +kernel
theorem dX11_rule_47 : decode cX11_rule 47 = .ok (.bipush 8, 2) := by decide +kernel
theorem dX11_rule_49 : decode cX11_rule 49 = .ok (.if_icmp .ne 6, 3) := by decide +kernel
theorem dX11_rule_52 : decode cX11_rule 52 = .ok (.bipush (-3), 2) := by decide +kernel
theorem dX11_rule_54 : decode cX11_rule 54 = .ok (.ireturn, 1) := by decide +kernel
theorem dX11_rule_55 : decode cX11_rule 55 = .ok (.aload_n 0, 1) := by decide +kernel
theorem dX11_rule_56 : decode cX11_rule 56 = .ok (.bipush 6, 2) := by decide +kernel
theorem dX11_rule_58 : decode cX11_rule 58 = .ok (.aload_n 0, 1) := by decide +kernel
theorem dX11_rule_59 : decode cX11_rule 59 = .ok (.getfield 245, 3) := by decide +kernel
theorem dX11_rule_62 : decode cX11_rule 62 = .ok (.iadd, 1) := by decide +kernel
theorem dX11_rule_63 : decode cX11_rule 63 = .ok (.invokevirtual 242, 3) := by decide +kernel
theorem dX11_rule_66 : decode cX11_rule 66 = .ok (.aload_n 0, 1) := by decide +kernel
theorem dX11_rule_67 : decode cX11_rule 67 = .ok (.dup, 1) := by decide +kernel
theorem dX11_rule_68 : decode cX11_rule 68 = .ok (.getfield 245, 3) := by decide +kernel
theorem dX11_rule_71 : decode cX11_rule 71 = .ok (.iconst 1, 1) := by decide +kernel
theorem dX11_rule_72 : decode cX11_rule 72 = .ok (.iadd, 1) := by decide +kernel
theorem dX11_rule_73 : decode cX11_rule 73 = .ok (.putfield 245, 3) := by decide +kernel
theorem dX11_rule_76 : decode cX11_rule 76 = .ok (.aload_n 0, 1) := by decide +kernel
theorem dX11_rule_77 : decode cX11_rule 77 = .ok (.getfield 245, 3) := by decide +kernel
theorem dX11_rule_80 : decode cX11_rule 80 = .ok (.iconst 1, 1) := by decide +kernel
theorem dX11_rule_81 : decode cX11_rule 81 = .ok (.isub, 1) := by decide +kernel
theorem dX11_rule_82 : decode cX11_rule 82 = .ok (.ireturn, 1) := by decide +kernel
theorem dX11_load_0 : decode cX11_load 0 = .ok (.iconst 0, 1) := by decide +kernel
theorem dX11_load_1 : decode cX11_load 1 = .ok (.istore_n 3, 1) := by decide +kernel
theorem dX11_load_2 : decode cX11_load 2 = .ok (.iload_n 3, 1) := by decide +kernel
theorem dX11_load_3 : decode cX11_load 3 = .ok (.bipush 19, 2) := by decide +kernel
theorem dX11_load_5 : decode cX11_load 5 = .ok (.if_icmp .ge 23, 3) := by decide +kernel
theorem dX11_load_8 : decode cX11_load 8 = .ok (.aload_n 0, 1) := by decide +kernel
theorem dX11_load_9 : decode cX11_load 9 = .ok (.getfield 38, 3) := by decide +kernel
theorem dX11_load_12 : decode cX11_load 12 = .ok (.iload_n 3, 1) := by decide +kernel
theorem dX11_load_13 : decode cX11_load 13 = .ok (.aload_n 1, 1) := by decide +kernel
theorem dX11_load_14 : decode cX11_load 14 = .ok (.bipush 19, 2) := by decide +kernel
theorem dX11_load_16 : decode cX11_load 16 = .ok (.iload_n 2, 1) := by decide +kernel
theorem dX11_load_17 : decode cX11_load 17 = .ok (.imul, 1) := by decide +kernel
theorem dX11_load_18 : decode cX11_load 18 = .ok (.iload_n 3, 1) := by decide +kernel
theorem dX11_load_19 : decode cX11_load 19 = .ok (.iadd, 1) := by decide +kernel
theorem dX11_load_20 : decode cX11_load 20 = .ok (.iaload, 1) := by decide +kernel
theorem dX11_load_21 : decode cX11_load 21 = .ok (.iastore, 1) := by decide +kernel
theorem dX11_load_22 : decode cX11_load 22 = .ok (.iinc 3 1, 3) := by decide +kernel
theorem dX11_load_25 : decode cX11_load 25 = .ok (.goto (-23), 3) := by decide +kernel
theorem dX11_load_28 : decode cX11_load 28 = .ok (.return_, 1) := by decide +kernel
theorem dX11_save_0 : decode cX11_save 0 = .ok (.iconst 0, 1) := by decide +kernel
theorem dX11_save_1 : decode cX11_save 1 = .ok (.istore_n 3, 1) := by decide +kernel
theorem dX11_save_2 : decode cX11_save 2 = .ok (.iload_n 3, 1) := by decide +kernel
theorem dX11_save_3 : decode cX11_save 3 = .ok (.bipush 19, 2) := by decide +kernel
theorem dX11_save_5 : decode cX11_save 5 = .ok (.if_icmp .ge 23, 3) := by decide +kernel
theorem dX11_save_8 : decode cX11_save 8 = .ok (.aload_n 1, 1) := by decide +kernel
theorem dX11_save_9 : decode cX11_save 9 = .ok (.bipush 19, 2) := by decide +kernel
theorem dX11_save_11 : decode cX11_save 11 = .ok (.iload_n 2, 1) := by decide +kernel
theorem dX11_save_12 : decode cX11_save 12 = .ok (.imul, 1) := by decide +kernel
theorem dX11_save_13 : decode cX11_save 13 = .ok (.iload_n 3, 1) := by decide +kernel
theorem dX11_save_14 : decode cX11_save 14 = .ok (.iadd, 1) := by decide +kernel
theorem dX11_save_15 : decode cX11_save 15 = .ok (.aload_n 0, 1) := by decide +kernel
theorem dX11_save_16 : decode cX11_save 16 = .ok (.getfield 38, 3) := by decide +kernel
theorem dX11_save_19 : decode cX11_save 19 = .ok (.iload_n 3, 1) := by decide +kernel
theorem dX11_save_20 : decode cX11_save 20 = .ok (.iaload, 1) := by decide +kernel
theorem dX11_save_21 : decode cX11_save 21 = .ok (.iastore, 1) := by decide +kernel
theorem dX11_save_22 : decode cX11_save 22 = .ok (.iinc 3 1, 3) := by decide +kernel
theorem dX11_save_25 : decode cX11_save 25 = .ok (.goto (-23), 3) := by decide +kernel
theorem dX11_save_28 : decode cX11_save 28 = .ok (.return_, 1) := by decide +kernel
theorem dX11_toStart_0 : decode cX11_toStart 0 = .ok (.iconst 0, 1) := by decide +kernel
theorem dX11_toStart_1 : decode cX11_toStart 1 = .ok (.istore_n 1, 1) := by decide +kernel
theorem dX11_toStart_2 : decode cX11_toStart 2 = .ok (.iload_n 1, 1) := by decide +kernel
theorem dX11_toStart_3 : decode cX11_toStart 3 = .ok (.bipush 19, 2) := by decide +kernel
theorem dX11_toStart_5 : decode cX11_toStart 5 = .ok (.if_icmp .ge 42, 3) := by decide +kernel
theorem dX11_toStart_8 : decode cX11_toStart 8 = .ok (.aload_n 0, 1) := by decide +kernel
theorem dX11_toStart_9 : decode cX11_toStart 9 = .ok (.getfield 38, 3) := by decide +kernel
theorem dX11_toStart_12 : decode cX11_toStart 12 = .ok (.iload_n 1, 1) := by decide +kernel
theorem dX11_toStart_13 : decode cX11_toStart 13 = .ok (.iload_n 1, 1) := by decide +kernel
theorem dX11_toStart_14 : decode cX11_toStart 14 = .ok (.i2l, 1) := by decide +kernel
theorem dX11_toStart_15 : decode cX11_toStart 15 = .ok (.ldc2_w 248, 3) := by decide +kernel
theorem dX11_toStart_18 : decode cX11_toStart 18 = .ok (.ldc2_w 250, 3) := by decide +kernel
theorem dX11_toStart_21 : decode cX11_toStart 21 = .ok (.invokestatic 117, 3) := by decide +kernel
theorem dX11_toStart_24 : decode cX11_toStart 24 = .ok (.ifCond .eq 15, 3) := by decide +kernel
theorem dX11_toStart_27 : decode cX11_toStart 27 = .ok (.aload_n 0, 1) := by decide +kernel
theorem dX11_toStart_28 : decode cX11_toStart 28 = .ok (.getfield 44, 3) := by decide +kernel
theorem dX11_toStart_31 : decode cX11_toStart 31 = .ok (.iload_n 1, 1) := by decide +kernel
theorem dX11_toStart_32 : decode cX11_toStart 32 = .ok (.bipush 14, 2) := by decide +kernel
theorem dX11_toStart_34 : decode cX11_toStart 34 = .ok (.isub, 1) := by decide +kernel
theorem dX11_toStart_35 : decode cX11_toStart 35 = .ok (.iaload, 1) := by decide +kernel
theorem dX11_toStart_36 : decode cX11_toStart 36 = .ok (.goto 4, 3) := by decide +kernel
theorem dX11_toStart_39 : decode cX11_toStart 39 = .ok (.iconst 0, 1) := by decide +kernel
theorem dX11_toStart_40 : decode cX11_toStart 40 = .ok (.iastore, 1) := by decide +kernel
theorem dX11_toStart_41 : decode cX11_toStart 41 = .ok (.iinc 1 1, 3) := by decide +kernel
theorem dX11_toStart_44 : decode cX11_toStart 44 = .ok (.goto (-42), 3) := by decide +kernel
theorem dX11_toStart_47 : decode cX11_toStart 47 = .ok (.return_, 1) := by decide +kernel
theorem dX11_push_0 : decode cX11_push 0 = .ok (.aload_n 0, 1) := by decide +kernel
theorem dX11_push_1 : decode cX11_push 1 = .ok (.aload_n 0, 1) := by decide +kernel
theorem dX11_push_2 : decode cX11_push 2 = .ok (.getfield 252, 3) := by decide +kernel
theorem dX11_push_5 : decode cX11_push 5 = .ok (.ifCond .ne 16, 3) := by decide +kernel
theorem dX11_push_8 : decode cX11_push 8 = .ok (.lload_n 1, 1) := by decide +kernel
theorem dX11_push_9 : decode cX11_push 9 = .ok (.ldc2_w 255, 3) := by decide +kernel
theorem dX11_push_12 : decode cX11_push 12 = .ok (.ldc2_w 257, 3) := by decide +kernel
theorem dX11_push_15 : decode cX11_push 15 = .ok (.invokestatic 117, 3) := by decide +kernel
theorem dX11_push_18 : decode cX11_push 18 = .ok (.ifCond .ne 7, 3) := by decide +kernel
theorem dX11_push_21 : decode cX11_push 21 = .ok (.iconst 1, 1) := by decide +kernel
theorem dX11_push_22 : decode cX11_push 22 = .ok (.goto 4, 3) := by decide +kernel
theorem dX11_push_25 : decode cX11_push 25 = .ok (.iconst 0, 1) := by decide +kernel
theorem dX11_push_26 : decode cX11_push 26 = .ok (.putfield 252, 3) := by decide +kernel
theorem dX11_push_29 : decode cX11_push 29 = .ok (.aload_n 0, 1) := by decide +kernel
theorem dX11_push_30 : decode cX11_push 30 = .ok (.getfield 56, 3) := by decide +kernel
theorem dX11_push_33 : decode cX11_push 33 = .ok (.aload_n 0, 1) := by decide +kernel
theorem dX11_push_34 : decode cX11_push 34 = .ok (.getfield 259, 3) := by decide +kernel
theorem dX11_push_37 : decode cX11_push 37 = .ok (.lload_n 1, 1) := by decide +kernel
theorem dX11_push_38 : decode cX11_push 38 = .ok (.l2i, 1) := by decide +kernel
theorem dX11_push_39 : decode cX11_push 39 = .ok (.iastore, 1) := by decide +kernel
theorem dX11_push_40 : decode cX11_push 40 = .ok (.aload_n 0, 1) := by decide +kernel
theorem dX11_push_41 : decode cX11_push 41 = .ok (.dup, 1) := by decide +kernel
theorem dX11_push_42 : decode cX11_push 42 = .ok (.getfield 259, 3) := by decide +kernel
theorem dX11_push_45 : decode cX11_push 45 = .ok (.iconst 1, 1) := by decide +kernel
theorem dX11_push_46 : decode cX11_push 46 = .ok (.iadd, 1) := by decide +kernel
theorem dX11_push_47 : decode cX11_push 47 = .ok (.putfield 259, 3) := by decide +kernel
theorem dX11_push_50 : decode cX11_push 50 = .ok (.return_, 1) := by decide +kernel
theorem dX11_pop_0 : decode cX11_pop 0 = .ok (.aload_n 0, 1) := by decide +kernel
theorem dX11_pop_1 : decode cX11_pop 1 = .ok (.dup, 1) := by decide +kernel
theorem dX11_pop_2 : decode cX11_pop 2 = .ok (.getfield 259, 3) := by decide +kernel
theorem dX11_pop_5 : decode cX11_pop 5 = .ok (.iconst 1, 1) := by decide +kernel
theorem dX11_pop_6 : decode cX11_pop 6 = .ok (.isub, 1) := by decide +kernel
theorem dX11_pop_7 : decode cX11_pop 7 = .ok (.putfield 259, 3) := by decide +kernel
theorem dX11_pop_10 : decode cX11_pop 10 = .ok (.aload_n 0, 1) := by decide +kernel
theorem dX11_pop_11 : decode cX11_pop 11 = .ok (.getfield 56, 3) := by decide +kernel
theorem dX11_pop_14 : decode cX11_pop 14 = .ok (.aload_n 0, 1) := by decide +kernel
theorem dX11_pop_15 : decode cX11_pop 15 = .ok (.getfield 259, 3) := by decide +kernel
theorem dX11_pop_18 : decode cX11_pop 18 = .ok (.iaload, 1) := by decide +kernel
theorem dX11_pop_19 : decode cX11_pop 19 = .ok (.ireturn, 1) := by decide +kernel
theorem dX11_reckon_0 : decode cX11_reckon 0 = .ok (.iload_n 1, 1) := by decide +kernel
theorem dX11_reckon_1 : decode cX11_reckon 1 = .ok (.tableswitch 244 1 10 #[55, 64, 104, 114, 124, 133, 148, 195, 212, 231], 55) := by decide +kernel
theorem dX11_reckon_56 : decode cX11_reckon 56 = .ok (.aload_n 0, 1) := by decide +kernel
theorem dX11_reckon_57 : decode cX11_reckon 57 = .ok (.iload_n 2, 1) := by decide +kernel
theorem dX11_reckon_58 : decode cX11_reckon 58 = .ok (.i2l, 1) := by decide +kernel
theorem dX11_reckon_59 : decode cX11_reckon 59 = .ok (.invokevirtual 262, 3) := by decide +kernel
theorem dX11_reckon_62 : decode cX11_reckon 62 = .ok (.goto 202, 3) := by decide +kernel
theorem dX11_reckon_65 : decode cX11_reckon 65 = .ok (.aload_n 0, 1) := by decide +kernel
theorem dX11_reckon_66 : decode cX11_reckon 66 = .ok (.aload_n 0, 1) := by decide +kernel
theorem dX11_reckon_67 : decode cX11_reckon 67 = .ok (.getfield 38, 3) := by decide +kernel
theorem dX11_reckon_70 : decode cX11_reckon 70 = .ok (.iload_n 2, 1) := by decide +kernel
theorem dX11_reckon_71 : decode cX11_reckon 71 = .ok (.bipush 6, 2) := by decide +kernel
theorem dX11_reckon_73 : decode cX11_reckon 73 = .ok (.if_icmp .ge 7, 3) := by decide +kernel
theorem dX11_reckon_76 : decode cX11_reckon 76 = .ok (.iload_n 2, 1) := by decide +kernel
theorem dX11_reckon_77 : decode cX11_reckon 77 = .ok (.goto 20, 3) := by decide +kernel
theorem dX11_reckon_80 : decode cX11_reckon 80 = .ok (.iload_n 2, 1) := by decide +kernel
theorem dX11_reckon_81 : decode cX11_reckon 81 = .ok (.bipush 6, 2) := by decide +kernel
theorem dX11_reckon_83 : decode cX11_reckon 83 = .ok (.if_icmp .ne 10, 3) := by decide +kernel
theorem dX11_reckon_86 : decode cX11_reckon 86 = .ok (.bipush 6, 2) := by decide +kernel
theorem dX11_reckon_88 : decode cX11_reckon 88 = .ok (.iload_n 3, 1) := by decide +kernel
theorem dX11_reckon_89 : decode cX11_reckon 89 = .ok (.iadd, 1) := by decide +kernel
theorem dX11_reckon_90 : decode cX11_reckon 90 = .ok (.goto 7, 3) := by decide +kernel
theorem dX11_reckon_93 : decode cX11_reckon 93 = .ok (.bipush 10, 2) := by decide +kernel
theorem dX11_reckon_95 : decode cX11_reckon 95 = .ok (.iload_n 3, 1) := by decide +kernel
theorem dX11_reckon_96 : decode cX11_reckon 96 = .ok (.iadd, 1) := by decide +kernel
theorem dX11_reckon_97 : decode cX11_reckon 97 = .ok (.iaload, 1) := by decide +kernel
theorem dX11_reckon_98 : decode cX11_reckon 98 = .ok (.i2l, 1) := by decide +kernel
theorem dX11_reckon_99 : decode cX11_reckon 99 = .ok (.invokevirtual 262, 3) := by decide +kernel
theorem dX11_reckon_102 : decode cX11_reckon 102 = .ok (.goto 162, 3) := by decide +kernel
theorem dX11_reckon_105 : decode cX11_reckon 105 = .ok (.aload_n 0, 1) := by decide +kernel
theorem dX11_reckon_106 : decode cX11_reckon 106 = .ok (.iload 4, 2) := by decide +kernel
theorem dX11_reckon_108 : decode cX11_reckon 108 = .ok (.i2l, 1) := by decide +kernel
theorem dX11_reckon_109 : decode cX11_reckon 109 = .ok (.invokevirtual 262, 3) := by decide +kernel
theorem dX11_reckon_112 : decode cX11_reckon 112 = .ok (.goto 152, 3) := by decide +kernel
theorem dX11_reckon_115 : decode cX11_reckon 115 = .ok (.aload_n 0, 1) := by decide +kernel
theorem dX11_reckon_116 : decode cX11_reckon 116 = .ok (.iload 5, 2) := by decide +kernel
theorem dX11_reckon_118 : decode cX11_reckon 118 = .ok (.i2l, 1) := by decide +kernel
theorem dX11_reckon_119 : decode cX11_reckon 119 = .ok (.invokevirtual 262, 3) := by decide +kernel
theorem dX11_reckon_122 : decode cX11_reckon 122 = .ok (.goto 142, 3) := by decide +kernel
theorem dX11_reckon_125 : decode cX11_reckon 125 = .ok (.aload_n 0, 1) := by decide +kernel
theorem dX11_reckon_126 : decode cX11_reckon 126 = .ok (.iload_n 3, 1) := by decide +kernel
theorem dX11_reckon_127 : decode cX11_reckon 127 = .ok (.i2l, 1) := by decide +kernel
theorem dX11_reckon_128 : decode cX11_reckon 128 = .ok (.invokevirtual 262, 3) := by decide +kernel
theorem dX11_reckon_131 : decode cX11_reckon 131 = .ok (.goto 133, 3) := by decide +kernel
theorem dX11_reckon_134 : decode cX11_reckon 134 = .ok (.aload_n 0, 1) := by decide +kernel
theorem dX11_reckon_135 : decode cX11_reckon 135 = .ok (.aload_n 0, 1) := by decide +kernel
theorem dX11_reckon_136 : decode cX11_reckon 136 = .ok (.getfield 38, 3) := by decide +kernel
theorem dX11_reckon_139 : decode cX11_reckon 139 = .ok (.bipush 18, 2) := by decide +kernel
theorem dX11_reckon_141 : decode cX11_reckon 141 = .ok (.iaload, 1) := by decide +kernel
theorem dX11_reckon_142 : decode cX11_reckon 142 = .ok (.i2l, 1) := by decide +kernel
theorem dX11_reckon_143 : decode cX11_reckon 143 = .ok (.invokevirtual 262, 3) := by decide +kernel
theorem dX11_reckon_146 : decode cX11_reckon 146 = .ok (.goto 118, 3) := by decide +kernel
theorem dX11_reckon_149 : decode cX11_reckon 149 = .ok (.lconst 0, 1) := by decide +kernel
theorem dX11_reckon_150 : decode cX11_reckon 150 = .ok (.lstore 6, 2) := by decide +kernel
theorem dX11_reckon_152 : decode cX11_reckon 152 = .ok (.iconst 0, 1) := by decide +kernel
theorem dX11_reckon_153 : decode cX11_reckon 153 = .ok (.istore 8, 2) := by decide +kernel
theorem dX11_reckon_155 : decode cX11_reckon 155 = .ok (.iload 8, 2) := by decide +kernel
theorem dX11_reckon_157 : decode cX11_reckon 157 = .ok (.iconst 4, 1) := by decide +kernel
theorem dX11_reckon_158 : decode cX11_reckon 158 = .ok (.if_icmp .ge 29, 3) := by decide +kernel
theorem dX11_reckon_161 : decode cX11_reckon 161 = .ok (.lload 6, 2) := by decide +kernel
theorem dX11_reckon_163 : decode cX11_reckon 163 = .ok (.aload_n 0, 1) := by decide +kernel
theorem dX11_reckon_164 : decode cX11_reckon 164 = .ok (.getfield 38, 3) := by decide +kernel
theorem dX11_reckon_167 : decode cX11_reckon 167 = .ok (.bipush 6, 2) := by decide +kernel
theorem dX11_reckon_169 : decode cX11_reckon 169 = .ok (.iconst 4, 1) := by decide +kernel
theorem dX11_reckon_170 : decode cX11_reckon 170 = .ok (.iload_n 2, 1) := by decide +kernel
theorem dX11_reckon_171 : decode cX11_reckon 171 = .ok (.imul, 1) := by decide +kernel
theorem dX11_reckon_172 : decode cX11_reckon 172 = .ok (.iadd, 1) := by decide +kernel
theorem dX11_reckon_173 : decode cX11_reckon 173 = .ok (.iload 8, 2) := by decide +kernel
theorem dX11_reckon_175 : decode cX11_reckon 175 = .ok (.iadd, 1) := by decide +kernel
theorem dX11_reckon_176 : decode cX11_reckon 176 = .ok (.iaload, 1) := by decide +kernel
theorem dX11_reckon_177 : decode cX11_reckon 177 = .ok (.i2l, 1) := by decide +kernel
theorem dX11_reckon_178 : decode cX11_reckon 178 = .ok (.ladd, 1) := by decide +kernel
theorem dX11_reckon_179 : decode cX11_reckon 179 = .ok (.lstore 6, 2) := by decide +kernel
theorem dX11_reckon_181 : decode cX11_reckon 181 = .ok (.iinc 8 1, 3) := by decide +kernel
theorem dX11_reckon_184 : decode cX11_reckon 184 = .ok (.goto (-29), 3) := by decide +kernel
theorem dX11_reckon_187 : decode cX11_reckon 187 = .ok (.aload_n 0, 1) := by decide +kernel
theorem dX11_reckon_188 : decode cX11_reckon 188 = .ok (.lload 6, 2) := by decide +kernel
theorem dX11_reckon_190 : decode cX11_reckon 190 = .ok (.invokevirtual 262, 3) := by decide +kernel
theorem dX11_reckon_193 : decode cX11_reckon 193 = .ok (.goto 71, 3) := by decide +kernel
theorem dX11_reckon_196 : decode cX11_reckon 196 = .ok (.aload_n 0, 1) := by decide +kernel
theorem dX11_reckon_197 : decode cX11_reckon 197 = .ok (.aload_n 0, 1) := by decide +kernel
theorem dX11_reckon_198 : decode cX11_reckon 198 = .ok (.getfield 38, 3) := by decide +kernel
theorem dX11_reckon_201 : decode cX11_reckon 201 = .ok (.bipush 14, 2) := by decide +kernel
theorem dX11_reckon_203 : decode cX11_reckon 203 = .ok (.iload_n 2, 1) := by decide +kernel
theorem dX11_reckon_204 : decode cX11_reckon 204 = .ok (.iadd, 1) := by decide +kernel
theorem dX11_reckon_205 : decode cX11_reckon 205 = .ok (.iaload, 1) := by decide +kernel
theorem dX11_reckon_206 : decode cX11_reckon 206 = .ok (.i2l, 1) := by decide +kernel
theorem dX11_reckon_207 : decode cX11_reckon 207 = .ok (.invokevirtual 262, 3) := by decide +kernel
theorem dX11_reckon_210 : decode cX11_reckon 210 = .ok (.goto 54, 3) := by decide +kernel
theorem dX11_reckon_213 : decode cX11_reckon 213 = .ok (.aload_n 0, 1) := by decide +kernel
theorem dX11_reckon_214 : decode cX11_reckon 214 = .ok (.aload_n 0, 1) := by decide +kernel
theorem dX11_reckon_215 : decode cX11_reckon 215 = .ok (.invokevirtual 266, 3) := by decide +kernel
theorem dX11_reckon_218 : decode cX11_reckon 218 = .ok (.ifCond .ne 7, 3) := by decide +kernel
theorem dX11_reckon_221 : decode cX11_reckon 221 = .ok (.lconst 1, 1) := by decide +kernel
theorem dX11_reckon_222 : decode cX11_reckon 222 = .ok (.goto 4, 3) := by decide +kernel
theorem dX11_reckon_225 : decode cX11_reckon 225 = .ok (.lconst 0, 1) := by decide +kernel
theorem dX11_reckon_226 : decode cX11_reckon 226 = .ok (.invokevirtual 262, 3) := by decide +kernel
theorem dX11_reckon_229 : decode cX11_reckon 229 = .ok (.goto 35, 3) := by decide +kernel
theorem dX11_reckon_232 : decode cX11_reckon 232 = .ok (.aload_n 0, 1) := by decide +kernel
theorem dX11_reckon_233 : decode cX11_reckon 233 = .ok (.aload_n 0, 1) := by decide +kernel
theorem dX11_reckon_234 : decode cX11_reckon 234 = .ok (.invokevirtual 266, 3) := by decide +kernel
theorem dX11_reckon_237 : decode cX11_reckon 237 = .ok (.ineg, 1) := by decide +kernel
theorem dX11_reckon_238 : decode cX11_reckon 238 = .ok (.i2l, 1) := by decide +kernel
theorem dX11_reckon_239 : decode cX11_reckon 239 = .ok (.invokevirtual 262, 3) := by decide +kernel
theorem dX11_reckon_242 : decode cX11_reckon 242 = .ok (.goto 22, 3) := by decide +kernel
theorem dX11_reckon_245 : decode cX11_reckon 245 = .ok (.aload_n 0, 1) := by decide +kernel
theorem dX11_reckon_246 : decode cX11_reckon 246 = .ok (.invokevirtual 266, 3) := by decide +kernel
theorem dX11_reckon_249 : decode cX11_reckon 249 = .ok (.i2l, 1) := by decide +kernel
theorem dX11_reckon_250 : decode cX11_reckon 250 = .ok (.lstore 8, 2) := by decide +kernel
theorem dX11_reckon_252 : decode cX11_reckon 252 = .ok (.aload_n 0, 1) := by decide +kernel
theorem dX11_reckon_253 : decode cX11_reckon 253 = .ok (.iload_n 1, 1) := by decide +kernel
theorem dX11_reckon_254 : decode cX11_reckon 254 = .ok (.aload_n 0, 1) := by decide +kernel
theorem dX11_reckon_255 : decode cX11_reckon 255 = .ok (.invokevirtual 266, 3) := by decide +kernel
theorem dX11_reckon_258 : decode cX11_reckon 258 = .ok (.i2l, 1) := by decide +kernel
theorem dX11_reckon_259 : decode cX11_reckon 259 = .ok (.lload 8, 2) := by decide +kernel
theorem dX11_reckon_261 : decode cX11_reckon 261 = .ok (.invokevirtual 269, 3) := by decide +kernel
theorem dX11_reckon_264 : decode cX11_reckon 264 = .ok (.return_, 1) := by decide +kernel
theorem dX11_two_0 : decode cX11_two 0 = .ok (.iload_n 1, 1) := by decide +kernel
theorem dX11_two_1 : decode cX11_two 1 = .ok (.tableswitch 190 11 17 #[43, 54, 121, 65, 76, 146, 171], 43) := by decide +kernel
theorem dX11_two_44 : decode cX11_two 44 = .ok (.aload_n 0, 1) := by decide +kernel
theorem dX11_two_45 : decode cX11_two 45 = .ok (.lload_n 2, 1) := by decide +kernel
theorem dX11_two_46 : decode cX11_two 46 = .ok (.lload 4, 2) := by decide +kernel
theorem dX11_two_48 : decode cX11_two 48 = .ok (.ladd, 1) := by decide +kernel
theorem dX11_two_49 : decode cX11_two 49 = .ok (.invokevirtual 262, 3) := by decide +kernel
theorem dX11_two_52 : decode cX11_two 52 = .ok (.goto 155, 3) := by decide +kernel
theorem dX11_two_55 : decode cX11_two 55 = .ok (.aload_n 0, 1) := by decide +kernel
theorem dX11_two_56 : decode cX11_two 56 = .ok (.lload_n 2, 1) := by decide +kernel
theorem dX11_two_57 : decode cX11_two 57 = .ok (.lload 4, 2) := by decide +kernel
theorem dX11_two_59 : decode cX11_two 59 = .ok (.lsub, 1) := by decide +kernel
theorem dX11_two_60 : decode cX11_two 60 = .ok (.invokevirtual 262, 3) := by decide +kernel
theorem dX11_two_63 : decode cX11_two 63 = .ok (.goto 144, 3) := by decide +kernel
theorem dX11_two_66 : decode cX11_two 66 = .ok (.aload_n 0, 1) := by decide +kernel
theorem dX11_two_67 : decode cX11_two 67 = .ok (.lload_n 2, 1) := by decide +kernel
theorem dX11_two_68 : decode cX11_two 68 = .ok (.lload 4, 2) := by decide +kernel
theorem dX11_two_70 : decode cX11_two 70 = .ok (.lmul, 1) := by decide +kernel
theorem dX11_two_71 : decode cX11_two 71 = .ok (.invokevirtual 262, 3) := by decide +kernel
theorem dX11_two_74 : decode cX11_two 74 = .ok (.goto 133, 3) := by decide +kernel
theorem dX11_two_77 : decode cX11_two 77 = .ok (.aload_n 0, 1) := by decide +kernel
theorem dX11_two_78 : decode cX11_two 78 = .ok (.aload_n 0, 1) := by decide +kernel
theorem dX11_two_79 : decode cX11_two 79 = .ok (.getfield 252, 3) := by decide +kernel
theorem dX11_two_82 : decode cX11_two 82 = .ok (.ifCond .ne 10, 3) := by decide +kernel
theorem dX11_two_85 : decode cX11_two 85 = .ok (.lload 4, 2) := by decide +kernel
theorem dX11_two_87 : decode cX11_two 87 = .ok (.lconst 0, 1) := by decide +kernel
theorem dX11_two_88 : decode cX11_two 88 = .ok (.lcmp, 1) := by decide +kernel
theorem dX11_two_89 : decode cX11_two 89 = .ok (.ifCond .ne 7, 3) := by decide +kernel
theorem dX11_two_92 : decode cX11_two 92 = .ok (.iconst 1, 1) := by decide +kernel
theorem dX11_two_93 : decode cX11_two 93 = .ok (.goto 4, 3) := by decide +kernel
theorem dX11_two_96 : decode cX11_two 96 = .ok (.iconst 0, 1) := by decide +kernel
theorem dX11_two_97 : decode cX11_two 97 = .ok (.putfield 252, 3) := by decide +kernel
theorem dX11_two_100 : decode cX11_two 100 = .ok (.aload_n 0, 1) := by decide +kernel
theorem dX11_two_101 : decode cX11_two 101 = .ok (.lload 4, 2) := by decide +kernel
theorem dX11_two_103 : decode cX11_two 103 = .ok (.lconst 0, 1) := by decide +kernel
theorem dX11_two_104 : decode cX11_two 104 = .ok (.lcmp, 1) := by decide +kernel
theorem dX11_two_105 : decode cX11_two 105 = .ok (.ifCond .ne 7, 3) := by decide +kernel
theorem dX11_two_108 : decode cX11_two 108 = .ok (.lconst 0, 1) := by decide +kernel
theorem dX11_two_109 : decode cX11_two 109 = .ok (.goto 7, 3) := by decide +kernel
theorem dX11_two_112 : decode cX11_two 112 = .ok (.lload_n 2, 1) := by decide +kernel
theorem dX11_two_113 : decode cX11_two 113 = .ok (.lload 4, 2) := by decide +kernel
theorem dX11_two_115 : decode cX11_two 115 = .ok (.ldiv, 1) := by decide +kernel
theorem dX11_two_116 : decode cX11_two 116 = .ok (.invokevirtual 262, 3) := by decide +kernel
theorem dX11_two_119 : decode cX11_two 119 = .ok (.goto 88, 3) := by decide +kernel
theorem dX11_two_122 : decode cX11_two 122 = .ok (.aload_n 0, 1) := by decide +kernel
theorem dX11_two_123 : decode cX11_two 123 = .ok (.lload_n 2, 1) := by decide +kernel
theorem dX11_two_124 : decode cX11_two 124 = .ok (.lconst 0, 1) := by decide +kernel
theorem dX11_two_125 : decode cX11_two 125 = .ok (.lcmp, 1) := by decide +kernel
theorem dX11_two_126 : decode cX11_two 126 = .ok (.ifCond .ne 10, 3) := by decide +kernel
theorem dX11_two_129 : decode cX11_two 129 = .ok (.lload 4, 2) := by decide +kernel
theorem dX11_two_131 : decode cX11_two 131 = .ok (.lconst 0, 1) := by decide +kernel
theorem dX11_two_132 : decode cX11_two 132 = .ok (.lcmp, 1) := by decide +kernel
theorem dX11_two_133 : decode cX11_two 133 = .ok (.ifCond .eq 7, 3) := by decide +kernel
theorem dX11_two_136 : decode cX11_two 136 = .ok (.lconst 1, 1) := by decide +kernel
theorem dX11_two_137 : decode cX11_two 137 = .ok (.goto 4, 3) := by decide +kernel
theorem dX11_two_140 : decode cX11_two 140 = .ok (.lconst 0, 1) := by decide +kernel
theorem dX11_two_141 : decode cX11_two 141 = .ok (.invokevirtual 262, 3) := by decide +kernel
theorem dX11_two_144 : decode cX11_two 144 = .ok (.goto 63, 3) := by decide +kernel
theorem dX11_two_147 : decode cX11_two 147 = .ok (.aload_n 0, 1) := by decide +kernel
theorem dX11_two_148 : decode cX11_two 148 = .ok (.lload_n 2, 1) := by decide +kernel
theorem dX11_two_149 : decode cX11_two 149 = .ok (.lconst 0, 1) := by decide +kernel
theorem dX11_two_150 : decode cX11_two 150 = .ok (.lcmp, 1) := by decide +kernel
theorem dX11_two_151 : decode cX11_two 151 = .ok (.ifCond .eq 14, 3) := by decide +kernel
theorem dX11_two_154 : decode cX11_two 154 = .ok (.lload 4, 2) := by decide +kernel
theorem dX11_two_156 : decode cX11_two 156 = .ok (.lconst 0, 1) := by decide +kernel
theorem dX11_two_157 : decode cX11_two 157 = .ok (.lcmp, 1) := by decide +kernel
theorem dX11_two_158 : decode cX11_two 158 = .ok (.ifCond .eq 7, 3) := by decide +kernel
theorem dX11_two_161 : decode cX11_two 161 = .ok (.lconst 1, 1) := by decide +kernel
theorem dX11_two_162 : decode cX11_two 162 = .ok (.goto 4, 3) := by decide +kernel
theorem dX11_two_165 : decode cX11_two 165 = .ok (.lconst 0, 1) := by decide +kernel
theorem dX11_two_166 : decode cX11_two 166 = .ok (.invokevirtual 262, 3) := by decide +kernel
theorem dX11_two_169 : decode cX11_two 169 = .ok (.goto 38, 3) := by decide +kernel
theorem dX11_two_172 : decode cX11_two 172 = .ok (.aload_n 0, 1) := by decide +kernel
theorem dX11_two_173 : decode cX11_two 173 = .ok (.lload_n 2, 1) := by decide +kernel
theorem dX11_two_174 : decode cX11_two 174 = .ok (.lload 4, 2) := by decide +kernel
theorem dX11_two_176 : decode cX11_two 176 = .ok (.lcmp, 1) := by decide +kernel
theorem dX11_two_177 : decode cX11_two 177 = .ok (.ifCond .ge 7, 3) := by decide +kernel
theorem dX11_two_180 : decode cX11_two 180 = .ok (.lconst 1, 1) := by decide +kernel
theorem dX11_two_181 : decode cX11_two 181 = .ok (.goto 4, 3) := by decide +kernel
theorem dX11_two_184 : decode cX11_two 184 = .ok (.lconst 0, 1) := by decide +kernel
theorem dX11_two_185 : decode cX11_two 185 = .ok (.invokevirtual 262, 3) := by decide +kernel
theorem dX11_two_188 : decode cX11_two 188 = .ok (.goto 19, 3) := by decide +kernel
theorem dX11_two_191 : decode cX11_two 191 = .ok (.aload_n 0, 1) := by decide +kernel
theorem dX11_two_192 : decode cX11_two 192 = .ok (.lload_n 2, 1) := by decide +kernel
theorem dX11_two_193 : decode cX11_two 193 = .ok (.lload 4, 2) := by decide +kernel
theorem dX11_two_195 : decode cX11_two 195 = .ok (.lcmp, 1) := by decide +kernel
theorem dX11_two_196 : decode cX11_two 196 = .ok (.ifCond .ne 7, 3) := by decide +kernel
theorem dX11_two_199 : decode cX11_two 199 = .ok (.lconst 1, 1) := by decide +kernel
theorem dX11_two_200 : decode cX11_two 200 = .ok (.goto 4, 3) := by decide +kernel
theorem dX11_two_203 : decode cX11_two 203 = .ok (.lconst 0, 1) := by decide +kernel
theorem dX11_two_204 : decode cX11_two 204 = .ok (.invokevirtual 262, 3) := by decide +kernel
theorem dX11_two_207 : decode cX11_two 207 = .ok (.return_, 1) := by decide +kernel
theorem dX11_enter_0 : decode cX11_enter 0 = .ok (.aload_n 0, 1) := by decide +kernel
theorem dX11_enter_1 : decode cX11_enter 1 = .ok (.getfield 28, 3) := by decide +kernel
theorem dX11_enter_4 : decode cX11_enter 4 = .ok (.iload_n 2, 1) := by decide +kernel
theorem dX11_enter_5 : decode cX11_enter 5 = .ok (.baload, 1) := by decide +kernel
theorem dX11_enter_6 : decode cX11_enter 6 = .ok (.ifCond .eq 17, 3) := by decide +kernel
theorem dX11_enter_9 : decode cX11_enter 9 = .ok (.aload_n 0, 1) := by decide +kernel
theorem dX11_enter_10 : decode cX11_enter 10 = .ok (.getfield 38, 3) := by decide +kernel
theorem dX11_enter_13 : decode cX11_enter 13 = .ok (.bipush 14, 2) := by decide +kernel
theorem dX11_enter_15 : decode cX11_enter 15 = .ok (.iload_n 1, 1) := by decide +kernel
theorem dX11_enter_16 : decode cX11_enter 16 = .ok (.iadd, 1) := by decide +kernel
theorem dX11_enter_17 : decode cX11_enter 17 = .ok (.iaload, 1) := by decide +kernel
theorem dX11_enter_18 : decode cX11_enter 18 = .ok (.iload 4, 2) := by decide +kernel
theorem dX11_enter_20 : decode cX11_enter 20 = .ok (.if_icmp .ge 5, 3) := by decide +kernel
theorem dX11_enter_23 : decode cX11_enter 23 = .ok (.iconst 0, 1) := by decide +kernel
theorem dX11_enter_24 : decode cX11_enter 24 = .ok (.ireturn, 1) := by decide +kernel
theorem dX11_enter_25 : decode cX11_enter 25 = .ok (.aload_n 0, 1) := by decide +kernel
theorem dX11_enter_26 : decode cX11_enter 26 = .ok (.getfield 273, 3) := by decide +kernel
theorem dX11_enter_29 : decode cX11_enter 29 = .ok (.istore 5, 2) := by decide +kernel
theorem dX11_enter_31 : decode cX11_enter 31 = .ok (.aload_n 0, 1) := by decide +kernel
theorem dX11_enter_32 : decode cX11_enter 32 = .ok (.aload_n 0, 1) := by decide +kernel
theorem dX11_enter_33 : decode cX11_enter 33 = .ok (.getfield 71, 3) := by decide +kernel
theorem dX11_enter_36 : decode cX11_enter 36 = .ok (.iload 5, 2) := by decide +kernel
theorem dX11_enter_38 : decode cX11_enter 38 = .ok (.invokevirtual 276, 3) := by decide +kernel
theorem dX11_enter_41 : decode cX11_enter 41 = .ok (.aload_n 0, 1) := by decide +kernel
theorem dX11_enter_42 : decode cX11_enter 42 = .ok (.dup, 1) := by decide +kernel
theorem dX11_enter_43 : decode cX11_enter 43 = .ok (.getfield 273, 3) := by decide +kernel
theorem dX11_enter_46 : decode cX11_enter 46 = .ok (.iconst 1, 1) := by decide +kernel
theorem dX11_enter_47 : decode cX11_enter 47 = .ok (.iadd, 1) := by decide +kernel
theorem dX11_enter_48 : decode cX11_enter 48 = .ok (.putfield 273, 3) := by decide +kernel
theorem dX11_enter_51 : decode cX11_enter 51 = .ok (.aload_n 0, 1) := by decide +kernel
theorem dX11_enter_52 : decode cX11_enter 52 = .ok (.getfield 59, 3) := by decide +kernel
theorem dX11_enter_55 : decode cX11_enter 55 = .ok (.iload 5, 2) := by decide +kernel
theorem dX11_enter_57 : decode cX11_enter 57 = .ok (.iconst 0, 1) := by decide +kernel
theorem dX11_enter_58 : decode cX11_enter 58 = .ok (.iastore, 1) := by decide +kernel
theorem dX11_enter_59 : decode cX11_enter 59 = .ok (.aload_n 0, 1) := by decide +kernel
theorem dX11_enter_60 : decode cX11_enter 60 = .ok (.getfield 62, 3) := by decide +kernel
theorem dX11_enter_63 : decode cX11_enter 63 = .ok (.iload 5, 2) := by decide +kernel
theorem dX11_enter_65 : decode cX11_enter 65 = .ok (.iload_n 2, 1) := by decide +kernel
theorem dX11_enter_66 : decode cX11_enter 66 = .ok (.iastore, 1) := by decide +kernel
theorem dX11_enter_67 : decode cX11_enter 67 = .ok (.aload_n 0, 1) := by decide +kernel
theorem dX11_enter_68 : decode cX11_enter 68 = .ok (.getfield 65, 3) := by decide +kernel
theorem dX11_enter_71 : decode cX11_enter 71 = .ok (.iload 5, 2) := by decide +kernel
theorem dX11_enter_73 : decode cX11_enter 73 = .ok (.iload_n 3, 1) := by decide +kernel
theorem dX11_enter_74 : decode cX11_enter 74 = .ok (.iastore, 1) := by decide +kernel
theorem dX11_enter_75 : decode cX11_enter 75 = .ok (.aload_n 0, 1) := by decide +kernel
theorem dX11_enter_76 : decode cX11_enter 76 = .ok (.getfield 68, 3) := by decide +kernel
theorem dX11_enter_79 : decode cX11_enter 79 = .ok (.iload 5, 2) := by decide +kernel
theorem dX11_enter_81 : decode cX11_enter 81 = .ok (.iload 4, 2) := by decide +kernel
theorem dX11_enter_83 : decode cX11_enter 83 = .ok (.iastore, 1) := by decide +kernel
theorem dX11_enter_84 : decode cX11_enter 84 = .ok (.aload_n 0, 1) := by decide +kernel
theorem dX11_enter_85 : decode cX11_enter 85 = .ok (.getfield 38, 3) := by decide +kernel
theorem dX11_enter_88 : decode cX11_enter 88 = .ok (.bipush 14, 2) := by decide +kernel
theorem dX11_enter_90 : decode cX11_enter 90 = .ok (.iload_n 1, 1) := by decide +kernel
theorem dX11_enter_91 : decode cX11_enter 91 = .ok (.iadd, 1) := by decide +kernel
theorem dX11_enter_92 : decode cX11_enter 92 = .ok (.dup2, 1) := by decide +kernel
theorem dX11_enter_93 : decode cX11_enter 93 = .ok (.iaload, 1) := by decide +kernel
theorem dX11_enter_94 : decode cX11_enter 94 = .ok (.iload 4, 2) := by decide +kernel
theorem dX11_enter_96 : decode cX11_enter 96 = .ok (.isub, 1) := by decide +kernel
theorem dX11_enter_97 : decode cX11_enter 97 = .ok (.iastore, 1) := by decide +kernel
theorem dX11_enter_98 : decode cX11_enter 98 = .ok (.aload_n 0, 1) := by decide +kernel
theorem dX11_enter_99 : decode cX11_enter 99 = .ok (.getfield 38, 3) := by decide +kernel
theorem dX11_enter_102 : decode cX11_enter 102 = .ok (.bipush 18, 2) := by decide +kernel
theorem dX11_enter_104 : decode cX11_enter 104 = .ok (.dup2, 1) := by decide +kernel
theorem dX11_enter_105 : decode cX11_enter 105 = .ok (.iaload, 1) := by decide +kernel
theorem dX11_enter_106 : decode cX11_enter 106 = .ok (.iload 4, 2) := by decide +kernel
theorem dX11_enter_108 : decode cX11_enter 108 = .ok (.iadd, 1) := by decide +kernel
theorem dX11_enter_109 : decode cX11_enter 109 = .ok (.iastore, 1) := by decide +kernel
theorem dX11_enter_110 : decode cX11_enter 110 = .ok (.iconst 1, 1) := by decide +kernel
theorem dX11_enter_111 : decode cX11_enter 111 = .ok (.ireturn, 1) := by decide +kernel
theorem dX11_fail_0 : decode cX11_fail 0 = .ok (.aload_n 0, 1) := by decide +kernel
theorem dX11_fail_1 : decode cX11_fail 1 = .ok (.dup, 1) := by decide +kernel
theorem dX11_fail_2 : decode cX11_fail 2 = .ok (.getfield 273, 3) := by decide +kernel
theorem dX11_fail_5 : decode cX11_fail 5 = .ok (.iconst 1, 1) := by decide +kernel
theorem dX11_fail_6 : decode cX11_fail 6 = .ok (.isub, 1) := by decide +kernel
theorem dX11_fail_7 : decode cX11_fail 7 = .ok (.putfield 273, 3) := by decide +kernel
theorem dX11_fail_10 : decode cX11_fail 10 = .ok (.aload_n 0, 1) := by decide +kernel
theorem dX11_fail_11 : decode cX11_fail 11 = .ok (.aload_n 0, 1) := by decide +kernel
theorem dX11_fail_12 : decode cX11_fail 12 = .ok (.getfield 71, 3) := by decide +kernel
theorem dX11_fail_15 : decode cX11_fail 15 = .ok (.aload_n 0, 1) := by decide +kernel
theorem dX11_fail_16 : decode cX11_fail 16 = .ok (.getfield 273, 3) := by decide +kernel
theorem dX11_fail_19 : decode cX11_fail 19 = .ok (.invokevirtual 280, 3) := by decide +kernel
theorem dX11_fail_22 : decode cX11_fail 22 = .ok (.return_, 1) := by decide +kernel
theorem dX11_meet_0 : decode cX11_meet 0 = .ok (.aload_n 0, 1) := by decide +kernel
theorem dX11_meet_1 : decode cX11_meet 1 = .ok (.getfield 283, 3) := by decide +kernel
theorem dX11_meet_4 : decode cX11_meet 4 = .ok (.ifCond .eq 34, 3) := by decide +kernel
theorem dX11_meet_7 : decode cX11_meet 7 = .ok (.aload_n 0, 1) := by decide +kernel
theorem dX11_meet_8 : decode cX11_meet 8 = .ok (.getfield 53, 3) := by decide +kernel
theorem dX11_meet_11 : decode cX11_meet 11 = .ok (.bipush 24, 2) := by decide +kernel
theorem dX11_meet_13 : decode cX11_meet 13 = .ok (.iload_n 1, 1) := by decide +kernel
theorem dX11_meet_14 : decode cX11_meet 14 = .ok (.imul, 1) := by decide +kernel
theorem dX11_meet_15 : decode cX11_meet 15 = .ok (.iload_n 2, 1) := by decide +kernel
theorem dX11_meet_16 : decode cX11_meet 16 = .ok (.iadd, 1) := by decide +kernel
theorem dX11_meet_17 : decode cX11_meet 17 = .ok (.baload, 1) := by decide +kernel
theorem dX11_meet_18 : decode cX11_meet 18 = .ok (.ifCond .ne 20, 3) := by decide +kernel
theorem dX11_meet_21 : decode cX11_meet 21 = .ok (.aload_n 0, 1) := by decide +kernel
theorem dX11_meet_22 : decode cX11_meet 22 = .ok (.getfield 53, 3) := by decide +kernel
theorem dX11_meet_25 : decode cX11_meet 25 = .ok (.bipush 24, 2) := by decide +kernel
theorem dX11_meet_27 : decode cX11_meet 27 = .ok (.iload_n 1, 1) := by decide +kernel
theorem dX11_meet_28 : decode cX11_meet 28 = .ok (.imul, 1) := by decide +kernel
theorem dX11_meet_29 : decode cX11_meet 29 = .ok (.iload_n 2, 1) := by decide +kernel
theorem dX11_meet_30 : decode cX11_meet 30 = .ok (.iadd, 1) := by decide +kernel
theorem dX11_meet_31 : decode cX11_meet 31 = .ok (.iconst 1, 1) := by decide +kernel
theorem dX11_meet_32 : decode cX11_meet 32 = .ok (.bastore, 1) := by decide +kernel
theorem dX11_meet_33 : decode cX11_meet 33 = .ok (.aload_n 0, 1) := by decide +kernel
theorem dX11_meet_34 : decode cX11_meet 34 = .ok (.iconst 1, 1) := by decide +kernel
theorem dX11_meet_35 : decode cX11_meet 35 = .ok (.putfield 286, 3) := by decide +kernel
theorem dX11_meet_38 : decode cX11_meet 38 = .ok (.return_, 1) := by decide +kernel
theorem dX11_run_0 : decode cX11_run 0 = .ok (.aload_n 0, 1) := by decide +kernel
theorem dX11_run_1 : decode cX11_run 1 = .ok (.iconst 0, 1) := by decide +kernel
theorem dX11_run_2 : decode cX11_run 2 = .ok (.putfield 273, 3) := by decide +kernel
theorem dX11_run_5 : decode cX11_run 5 = .ok (.aload_n 0, 1) := by decide +kernel
theorem dX11_run_6 : decode cX11_run 6 = .ok (.iload_n 1, 1) := by decide +kernel
theorem dX11_run_7 : decode cX11_run 7 = .ok (.iload_n 2, 1) := by decide +kernel
theorem dX11_run_8 : decode cX11_run 8 = .ok (.iload_n 3, 1) := by decide +kernel
theorem dX11_run_9 : decode cX11_run 9 = .ok (.iload 4, 2) := by decide +kernel
theorem dX11_run_11 : decode cX11_run 11 = .ok (.invokevirtual 289, 3) := by decide +kernel
theorem dX11_run_14 : decode cX11_run 14 = .ok (.istore 5, 2) := by decide +kernel
theorem dX11_run_16 : decode cX11_run 16 = .ok (.aload_n 0, 1) := by decide +kernel
theorem dX11_run_17 : decode cX11_run 17 = .ok (.iconst 0, 1) := by decide +kernel
theorem dX11_run_18 : decode cX11_run 18 = .ok (.putfield 259, 3) := by decide +kernel
theorem dX11_run_21 : decode cX11_run 21 = .ok (.aload_n 0, 1) := by decide +kernel
theorem dX11_run_22 : decode cX11_run 22 = .ok (.iconst 0, 1) := by decide +kernel
theorem dX11_run_23 : decode cX11_run 23 = .ok (.putfield 252, 3) := by decide +kernel
theorem dX11_run_26 : decode cX11_run 26 = .ok (.aload_n 0, 1) := by decide +kernel
theorem dX11_run_27 : decode cX11_run 27 = .ok (.getfield 273, 3) := by decide +kernel
theorem dX11_run_30 : decode cX11_run 30 = .ok (.ifCond .le 176, 3) := by decide +kernel
theorem dX11_run_33 : decode cX11_run 33 = .ok (.aload_n 0, 1) := by decide +kernel
theorem dX11_run_34 : decode cX11_run 34 = .ok (.getfield 273, 3) := by decide +kernel
theorem dX11_run_37 : decode cX11_run 37 = .ok (.iconst 1, 1) := by decide +kernel
theorem dX11_run_38 : decode cX11_run 38 = .ok (.isub, 1) := by decide +kernel
theorem dX11_run_39 : decode cX11_run 39 = .ok (.istore 6, 2) := by decide +kernel
theorem dX11_run_41 : decode cX11_run 41 = .ok (.aload_n 0, 1) := by decide +kernel
theorem dX11_run_42 : decode cX11_run 42 = .ok (.getfield 62, 3) := by decide +kernel
theorem dX11_run_45 : decode cX11_run 45 = .ok (.iload 6, 2) := by decide +kernel
theorem dX11_run_47 : decode cX11_run 47 = .ok (.iaload, 1) := by decide +kernel
theorem dX11_run_48 : decode cX11_run 48 = .ok (.istore 7, 2) := by decide +kernel
theorem dX11_run_50 : decode cX11_run 50 = .ok (.aload_n 0, 1) := by decide +kernel
theorem dX11_run_51 : decode cX11_run 51 = .ok (.getfield 59, 3) := by decide +kernel
theorem dX11_run_54 : decode cX11_run 54 = .ok (.iload 6, 2) := by decide +kernel
theorem dX11_run_56 : decode cX11_run 56 = .ok (.iaload, 1) := by decide +kernel
theorem dX11_run_57 : decode cX11_run 57 = .ok (.aload_n 0, 1) := by decide +kernel
theorem dX11_run_58 : decode cX11_run 58 = .ok (.getfield 22, 3) := by decide +kernel
theorem dX11_run_61 : decode cX11_run 61 = .ok (.iload 7, 2) := by decide +kernel
theorem dX11_run_63 : decode cX11_run 63 = .ok (.iaload, 1) := by decide +kernel
theorem dX11_run_64 : decode cX11_run 64 = .ok (.if_icmp .ne 19, 3) := by decide +kernel
theorem dX11_run_67 : decode cX11_run 67 = .ok (.aload_n 0, 1) := by decide +kernel
theorem dX11_run_68 : decode cX11_run 68 = .ok (.dup, 1) := by decide +kernel
theorem dX11_run_69 : decode cX11_run 69 = .ok (.getfield 273, 3) := by decide +kernel
theorem dX11_run_72 : decode cX11_run 72 = .ok (.iconst 1, 1) := by decide +kernel
theorem dX11_run_73 : decode cX11_run 73 = .ok (.isub, 1) := by decide +kernel
theorem dX11_run_74 : decode cX11_run 74 = .ok (.putfield 273, 3) := by decide +kernel
theorem dX11_run_77 : decode cX11_run 77 = .ok (.iconst 1, 1) := by decide +kernel
theorem dX11_run_78 : decode cX11_run 78 = .ok (.istore 5, 2) := by decide +kernel
theorem dX11_run_80 : decode cX11_run 80 = .ok (.goto 123, 3) := by decide +kernel
theorem dX11_run_83 : decode cX11_run 83 = .ok (.sipush 300, 3) := by decide +kernel
theorem dX11_run_86 : decode cX11_run 86 = .ok (.iload 7, 2) := by decide +kernel
theorem dX11_run_88 : decode cX11_run 88 = .ok (.imul, 1) := by decide +kernel
theorem dX11_run_89 : decode cX11_run 89 = .ok (.aload_n 0, 1) := by decide +kernel
theorem dX11_run_90 : decode cX11_run 90 = .ok (.getfield 59, 3) := by decide +kernel
theorem dX11_run_93 : decode cX11_run 93 = .ok (.iload 6, 2) := by decide +kernel
theorem dX11_run_95 : decode cX11_run 95 = .ok (.iaload, 1) := by decide +kernel
theorem dX11_run_96 : decode cX11_run 96 = .ok (.iadd, 1) := by decide +kernel
theorem dX11_run_97 : decode cX11_run 97 = .ok (.istore 8, 2) := by decide +kernel
theorem dX11_run_99 : decode cX11_run 99 = .ok (.aload_n 0, 1) := by decide +kernel
theorem dX11_run_100 : decode cX11_run 100 = .ok (.getfield 59, 3) := by decide +kernel
theorem dX11_run_103 : decode cX11_run 103 = .ok (.iload 6, 2) := by decide +kernel
theorem dX11_run_105 : decode cX11_run 105 = .ok (.dup2, 1) := by decide +kernel
theorem dX11_run_106 : decode cX11_run 106 = .ok (.iaload, 1) := by decide +kernel
theorem dX11_run_107 : decode cX11_run 107 = .ok (.iconst 1, 1) := by decide +kernel
theorem dX11_run_108 : decode cX11_run 108 = .ok (.iadd, 1) := by decide +kernel
theorem dX11_run_109 : decode cX11_run 109 = .ok (.iastore, 1) := by decide +kernel
theorem dX11_run_110 : decode cX11_run 110 = .ok (.aload_n 0, 1) := by decide +kernel
theorem dX11_run_111 : decode cX11_run 111 = .ok (.getfield 13, 3) := by decide +kernel
theorem dX11_run_114 : decode cX11_run 114 = .ok (.iload 8, 2) := by decide +kernel
theorem dX11_run_116 : decode cX11_run 116 = .ok (.iaload, 1) := by decide +kernel
theorem dX11_run_117 : decode cX11_run 117 = .ok (.bipush 20, 2) := by decide +kernel
theorem dX11_run_119 : decode cX11_run 119 = .ok (.if_icmp .ge 63, 3) := by decide +kernel
theorem dX11_run_122 : decode cX11_run 122 = .ok (.aload_n 0, 1) := by decide +kernel
theorem dX11_run_123 : decode cX11_run 123 = .ok (.aload_n 0, 1) := by decide +kernel
theorem dX11_run_124 : decode cX11_run 124 = .ok (.getfield 13, 3) := by decide +kernel
theorem dX11_run_127 : decode cX11_run 127 = .ok (.iload 8, 2) := by decide +kernel
theorem dX11_run_129 : decode cX11_run 129 = .ok (.iaload, 1) := by decide +kernel
theorem dX11_run_130 : decode cX11_run 130 = .ok (.aload_n 0, 1) := by decide +kernel
theorem dX11_run_131 : decode cX11_run 131 = .ok (.getfield 16, 3) := by decide +kernel
theorem dX11_run_134 : decode cX11_run 134 = .ok (.iload 8, 2) := by decide +kernel
theorem dX11_run_136 : decode cX11_run 136 = .ok (.iaload, 1) := by decide +kernel
theorem dX11_run_137 : decode cX11_run 137 = .ok (.iload_n 1, 1) := by decide +kernel
theorem dX11_run_138 : decode cX11_run 138 = .ok (.aload_n 0, 1) := by decide +kernel
theorem dX11_run_139 : decode cX11_run 139 = .ok (.getfield 65, 3) := by decide +kernel
theorem dX11_run_142 : decode cX11_run 142 = .ok (.iload 6, 2) := by decide +kernel
theorem dX11_run_144 : decode cX11_run 144 = .ok (.iaload, 1) := by decide +kernel
theorem dX11_run_145 : decode cX11_run 145 = .ok (.aload_n 0, 1) := by decide +kernel
theorem dX11_run_146 : decode cX11_run 146 = .ok (.getfield 68, 3) := by decide +kernel
theorem dX11_run_149 : decode cX11_run 149 = .ok (.iload 6, 2) := by decide +kernel
theorem dX11_run_151 : decode cX11_run 151 = .ok (.iaload, 1) := by decide +kernel
theorem dX11_run_152 : decode cX11_run 152 = .ok (.invokevirtual 293, 3) := by decide +kernel
theorem dX11_run_155 : decode cX11_run 155 = .ok (.aload_n 0, 1) := by decide +kernel
theorem dX11_run_156 : decode cX11_run 156 = .ok (.getfield 252, 3) := by decide +kernel
theorem dX11_run_159 : decode cX11_run 159 = .ok (.ifCond .eq 44, 3) := by decide +kernel
theorem dX11_run_162 : decode cX11_run 162 = .ok (.aload_n 0, 1) := by decide +kernel
theorem dX11_run_163 : decode cX11_run 163 = .ok (.invokevirtual 297, 3) := by decide +kernel
theorem dX11_run_166 : decode cX11_run 166 = .ok (.iconst 0, 1) := by decide +kernel
theorem dX11_run_167 : decode cX11_run 167 = .ok (.istore 5, 2) := by decide +kernel
theorem dX11_run_169 : decode cX11_run 169 = .ok (.aload_n 0, 1) := by decide +kernel
theorem dX11_run_170 : decode cX11_run 170 = .ok (.iconst 0, 1) := by decide +kernel
theorem dX11_run_171 : decode cX11_run 171 = .ok (.putfield 252, 3) := by decide +kernel
theorem dX11_run_174 : decode cX11_run 174 = .ok (.aload_n 0, 1) := by decide +kernel
theorem dX11_run_175 : decode cX11_run 175 = .ok (.iconst 0, 1) := by decide +kernel
theorem dX11_run_176 : decode cX11_run 176 = .ok (.putfield 259, 3) := by decide +kernel
theorem dX11_run_179 : decode cX11_run 179 = .ok (.goto 24, 3) := by decide +kernel
theorem dX11_run_182 : decode cX11_run 182 = .ok (.aload_n 0, 1) := by decide +kernel
theorem dX11_run_183 : decode cX11_run 183 = .ok (.iload 8, 2) := by decide +kernel
theorem dX11_run_185 : decode cX11_run 185 = .ok (.iload 7, 2) := by decide +kernel
theorem dX11_run_187 : decode cX11_run 187 = .ok (.iload_n 1, 1) := by decide +kernel
theorem dX11_run_188 : decode cX11_run 188 = .ok (.iload 6, 2) := by decide +kernel
theorem dX11_run_190 : decode cX11_run 190 = .ok (.invokevirtual 300, 3) := by decide +kernel
theorem dX11_run_193 : decode cX11_run 193 = .ok (.ifCond .ne 10, 3) := by decide +kernel
theorem dX11_run_196 : decode cX11_run 196 = .ok (.aload_n 0, 1) := by decide +kernel
theorem dX11_run_197 : decode cX11_run 197 = .ok (.invokevirtual 297, 3) := by decide +kernel
theorem dX11_run_200 : decode cX11_run 200 = .ok (.iconst 0, 1) := by decide +kernel
theorem dX11_run_201 : decode cX11_run 201 = .ok (.istore 5, 2) := by decide +kernel
theorem dX11_run_203 : decode cX11_run 203 = .ok (.goto (-177), 3) := by decide +kernel
theorem dX11_run_206 : decode cX11_run 206 = .ok (.iload 5, 2) := by decide +kernel
theorem dX11_run_208 : decode cX11_run 208 = .ok (.ireturn, 1) := by decide +kernel
theorem dX11_act_0 : decode cX11_act 0 = .ok (.aload_n 0, 1) := by decide +kernel
theorem dX11_act_1 : decode cX11_act 1 = .ok (.invokevirtual 266, 3) := by decide +kernel
theorem dX11_act_4 : decode cX11_act 4 = .ok (.istore 5, 2) := by decide +kernel
theorem dX11_act_6 : decode cX11_act 6 = .ok (.aload_n 0, 1) := by decide +kernel
theorem dX11_act_7 : decode cX11_act 7 = .ok (.getfield 16, 3) := by decide +kernel
theorem dX11_act_10 : decode cX11_act 10 = .ok (.iload_n 1, 1) := by decide +kernel
theorem dX11_act_11 : decode cX11_act 11 = .ok (.iaload, 1) := by decide +kernel
theorem dX11_act_12 : decode cX11_act 12 = .ok (.istore 6, 2) := by decide +kernel
theorem dX11_act_14 : decode cX11_act 14 = .ok (.aload_n 0, 1) := by decide +kernel
theorem dX11_act_15 : decode cX11_act 15 = .ok (.getfield 13, 3) := by decide +kernel
theorem dX11_act_18 : decode cX11_act 18 = .ok (.iload_n 1, 1) := by decide +kernel
theorem dX11_act_19 : decode cX11_act 19 = .ok (.iaload, 1) := by decide +kernel
theorem dX11_act_20 : decode cX11_act 20 = .ok (.tableswitch 152 20 23 #[32, 113, 152, 63], 32) := by decide +kernel
theorem dX11_act_52 : decode cX11_act 52 = .ok (.aload_n 0, 1) := by decide +kernel
theorem dX11_act_53 : decode cX11_act 53 = .ok (.iload_n 2, 1) := by decide +kernel
theorem dX11_act_54 : decode cX11_act 54 = .ok (.iconst 2, 1) := by decide +kernel
theorem dX11_act_55 : decode cX11_act 55 = .ok (.iload 6, 2) := by decide +kernel
theorem dX11_act_57 : decode cX11_act 57 = .ok (.imul, 1) := by decide +kernel
theorem dX11_act_58 : decode cX11_act 58 = .ok (.iload 5, 2) := by decide +kernel
theorem dX11_act_60 : decode cX11_act 60 = .ok (.ifCond .eq 7, 3) := by decide +kernel
theorem dX11_act_63 : decode cX11_act 63 = .ok (.iconst 0, 1) := by decide +kernel
theorem dX11_act_64 : decode cX11_act 64 = .ok (.goto 4, 3) := by decide +kernel
theorem dX11_act_67 : decode cX11_act 67 = .ok (.iconst 1, 1) := by decide +kernel
theorem dX11_act_68 : decode cX11_act 68 = .ok (.iadd, 1) := by decide +kernel
theorem dX11_act_69 : decode cX11_act 69 = .ok (.invokevirtual 303, 3) := by decide +kernel
theorem dX11_act_72 : decode cX11_act 72 = .ok (.iload 5, 2) := by decide +kernel
theorem dX11_act_74 : decode cX11_act 74 = .ok (.ifCond .eq 7, 3) := by decide +kernel
theorem dX11_act_77 : decode cX11_act 77 = .ok (.iconst 1, 1) := by decide +kernel
theorem dX11_act_78 : decode cX11_act 78 = .ok (.goto 4, 3) := by decide +kernel
theorem dX11_act_81 : decode cX11_act 81 = .ok (.iconst 0, 1) := by decide +kernel
theorem dX11_act_82 : decode cX11_act 82 = .ok (.ireturn, 1) := by decide +kernel
theorem dX11_act_83 : decode cX11_act 83 = .ok (.aload_n 0, 1) := by decide +kernel
theorem dX11_act_84 : decode cX11_act 84 = .ok (.iload_n 2, 1) := by decide +kernel
theorem dX11_act_85 : decode cX11_act 85 = .ok (.iconst 2, 1) := by decide +kernel
theorem dX11_act_86 : decode cX11_act 86 = .ok (.iload 6, 2) := by decide +kernel
theorem dX11_act_88 : decode cX11_act 88 = .ok (.imul, 1) := by decide +kernel
theorem dX11_act_89 : decode cX11_act 89 = .ok (.iload 5, 2) := by decide +kernel
theorem dX11_act_91 : decode cX11_act 91 = .ok (.ifCond .eq 7, 3) := by decide +kernel
theorem dX11_act_94 : decode cX11_act 94 = .ok (.iconst 0, 1) := by decide +kernel
theorem dX11_act_95 : decode cX11_act 95 = .ok (.goto 4, 3) := by decide +kernel
theorem dX11_act_98 : decode cX11_act 98 = .ok (.iconst 1, 1) := by decide +kernel
theorem dX11_act_99 : decode cX11_act 99 = .ok (.iadd, 1) := by decide +kernel
theorem dX11_act_100 : decode cX11_act 100 = .ok (.invokevirtual 303, 3) := by decide +kernel
theorem dX11_act_103 : decode cX11_act 103 = .ok (.aload_n 0, 1) := by decide +kernel
theorem dX11_act_104 : decode cX11_act 104 = .ok (.getfield 59, 3) := by decide +kernel
theorem dX11_act_107 : decode cX11_act 107 = .ok (.iload 4, 2) := by decide +kernel
theorem dX11_act_109 : decode cX11_act 109 = .ok (.iload 5, 2) := by decide +kernel
theorem dX11_act_111 : decode cX11_act 111 = .ok (.ifCond .eq 13, 3) := by decide +kernel
theorem dX11_act_114 : decode cX11_act 114 = .ok (.aload_n 0, 1) := by decide +kernel
theorem dX11_act_115 : decode cX11_act 115 = .ok (.getfield 59, 3) := by decide +kernel
theorem dX11_act_118 : decode cX11_act 118 = .ok (.iload 4, 2) := by decide +kernel
theorem dX11_act_120 : decode cX11_act 120 = .ok (.iaload, 1) := by decide +kernel
theorem dX11_act_121 : decode cX11_act 121 = .ok (.goto 9, 3) := by decide +kernel
theorem dX11_act_124 : decode cX11_act 124 = .ok (.aload_n 0, 1) := by decide +kernel
theorem dX11_act_125 : decode cX11_act 125 = .ok (.getfield 19, 3) := by decide +kernel
theorem dX11_act_128 : decode cX11_act 128 = .ok (.iload_n 1, 1) := by decide +kernel
theorem dX11_act_129 : decode cX11_act 129 = .ok (.iaload, 1) := by decide +kernel
theorem dX11_act_130 : decode cX11_act 130 = .ok (.iastore, 1) := by decide +kernel
theorem dX11_act_131 : decode cX11_act 131 = .ok (.iconst 1, 1) := by decide +kernel
theorem dX11_act_132 : decode cX11_act 132 = .ok (.ireturn, 1) := by decide +kernel
theorem dX11_act_133 : decode cX11_act 133 = .ok (.aload_n 0, 1) := by decide +kernel
theorem dX11_act_134 : decode cX11_act 134 = .ok (.getfield 38, 3) := by decide +kernel
theorem dX11_act_137 : decode cX11_act 137 = .ok (.iload 6, 2) := by decide +kernel
theorem dX11_act_139 : decode cX11_act 139 = .ok (.bipush 6, 2) := by decide +kernel
theorem dX11_act_141 : decode cX11_act 141 = .ok (.if_icmp .ge 8, 3) := by decide +kernel
theorem dX11_act_144 : decode cX11_act 144 = .ok (.iload 6, 2) := by decide +kernel
theorem dX11_act_146 : decode cX11_act 146 = .ok (.goto 21, 3) := by decide +kernel
theorem dX11_act_149 : decode cX11_act 149 = .ok (.iload 6, 2) := by decide +kernel
theorem dX11_act_151 : decode cX11_act 151 = .ok (.bipush 6, 2) := by decide +kernel
theorem dX11_act_153 : decode cX11_act 153 = .ok (.if_icmp .ne 10, 3) := by decide +kernel
theorem dX11_act_156 : decode cX11_act 156 = .ok (.bipush 6, 2) := by decide +kernel
theorem dX11_act_158 : decode cX11_act 158 = .ok (.iload_n 3, 1) := by decide +kernel
theorem dX11_act_159 : decode cX11_act 159 = .ok (.iadd, 1) := by decide +kernel
theorem dX11_act_160 : decode cX11_act 160 = .ok (.goto 7, 3) := by decide +kernel
theorem dX11_act_163 : decode cX11_act 163 = .ok (.bipush 10, 2) := by decide +kernel
theorem dX11_act_165 : decode cX11_act 165 = .ok (.iload_n 3, 1) := by decide +kernel
theorem dX11_act_166 : decode cX11_act 166 = .ok (.iadd, 1) := by decide +kernel
theorem dX11_act_167 : decode cX11_act 167 = .ok (.iload 5, 2) := by decide +kernel
theorem dX11_act_169 : decode cX11_act 169 = .ok (.iastore, 1) := by decide +kernel
theorem dX11_act_170 : decode cX11_act 170 = .ok (.iconst 1, 1) := by decide +kernel
theorem dX11_act_171 : decode cX11_act 171 = .ok (.ireturn, 1) := by decide +kernel
theorem dX11_act_172 : decode cX11_act 172 = .ok (.iload 5, 2) := by decide +kernel
theorem dX11_act_174 : decode cX11_act 174 = .ok (.ifCond .lt 15, 3) := by decide +kernel
theorem dX11_act_177 : decode cX11_act 177 = .ok (.iload 5, 2) := by decide +kernel
theorem dX11_act_179 : decode cX11_act 179 = .ok (.aload_n 0, 1) := by decide +kernel
theorem dX11_act_180 : decode cX11_act 180 = .ok (.getfield 38, 3) := by decide +kernel
theorem dX11_act_183 : decode cX11_act 183 = .ok (.bipush 18, 2) := by decide +kernel
theorem dX11_act_185 : decode cX11_act 185 = .ok (.iaload, 1) := by decide +kernel
theorem dX11_act_186 : decode cX11_act 186 = .ok (.if_icmp .le 5, 3) := by decide +kernel
theorem dX11_act_189 : decode cX11_act 189 = .ok (.iconst 0, 1) := by decide +kernel
theorem dX11_act_190 : decode cX11_act 190 = .ok (.ireturn, 1) := by decide +kernel
theorem dX11_act_191 : decode cX11_act 191 = .ok (.aload_n 0, 1) := by decide +kernel
theorem dX11_act_192 : decode cX11_act 192 = .ok (.getfield 38, 3) := by decide +kernel
theorem dX11_act_195 : decode cX11_act 195 = .ok (.bipush 18, 2) := by decide +kernel
theorem dX11_act_197 : decode cX11_act 197 = .ok (.dup2, 1) := by decide +kernel
theorem dX11_act_198 : decode cX11_act 198 = .ok (.iaload, 1) := by decide +kernel
theorem dX11_act_199 : decode cX11_act 199 = .ok (.iload 5, 2) := by decide +kernel
theorem dX11_act_201 : decode cX11_act 201 = .ok (.isub, 1) := by decide +kernel
theorem dX11_act_202 : decode cX11_act 202 = .ok (.iastore, 1) := by decide +kernel
theorem dX11_act_203 : decode cX11_act 203 = .ok (.aload_n 0, 1) := by decide +kernel
theorem dX11_act_204 : decode cX11_act 204 = .ok (.getfield 38, 3) := by decide +kernel
theorem dX11_act_207 : decode cX11_act 207 = .ok (.bipush 14, 2) := by decide +kernel
theorem dX11_act_209 : decode cX11_act 209 = .ok (.iload_n 3, 1) := by decide +kernel
theorem dX11_act_210 : decode cX11_act 210 = .ok (.iadd, 1) := by decide +kernel
theorem dX11_act_211 : decode cX11_act 211 = .ok (.dup2, 1) := by decide +kernel
theorem dX11_act_212 : decode cX11_act 212 = .ok (.iaload, 1) := by decide +kernel
theorem dX11_act_213 : decode cX11_act 213 = .ok (.iload 5, 2) := by decide +kernel
theorem dX11_act_215 : decode cX11_act 215 = .ok (.iadd, 1) := by decide +kernel
theorem dX11_act_216 : decode cX11_act 216 = .ok (.iastore, 1) := by decide +kernel
theorem dX11_act_217 : decode cX11_act 217 = .ok (.aload_n 0, 1) := by decide +kernel
theorem dX11_act_218 : decode cX11_act 218 = .ok (.getfield 47, 3) := by decide +kernel
theorem dX11_act_221 : decode cX11_act 221 = .ok (.iload_n 3, 1) := by decide +kernel
theorem dX11_act_222 : decode cX11_act 222 = .ok (.iaload, 1) := by decide +kernel
theorem dX11_act_223 : decode cX11_act 223 = .ok (.ifCond .lt 31, 3) := by decide +kernel
theorem dX11_act_226 : decode cX11_act 226 = .ok (.aload_n 0, 1) := by decide +kernel
theorem dX11_act_227 : decode cX11_act 227 = .ok (.getfield 273, 3) := by decide +kernel
theorem dX11_act_230 : decode cX11_act 230 = .ok (.iconst 3, 1) := by decide +kernel
theorem dX11_act_231 : decode cX11_act 231 = .ok (.if_icmp .ge 23, 3) := by decide +kernel
theorem dX11_act_234 : decode cX11_act 234 = .ok (.aload_n 0, 1) := by decide +kernel
theorem dX11_act_235 : decode cX11_act 235 = .ok (.iload_n 3, 1) := by decide +kernel
theorem dX11_act_236 : decode cX11_act 236 = .ok (.aload_n 0, 1) := by decide +kernel
theorem dX11_act_237 : decode cX11_act 237 = .ok (.getfield 47, 3) := by decide +kernel
theorem dX11_act_240 : decode cX11_act 240 = .ok (.iload_n 3, 1) := by decide +kernel
theorem dX11_act_241 : decode cX11_act 241 = .ok (.iaload, 1) := by decide +kernel
theorem dX11_act_242 : decode cX11_act 242 = .ok (.aload_n 0, 1) := by decide +kernel
theorem dX11_act_243 : decode cX11_act 243 = .ok (.getfield 50, 3) := by decide +kernel
theorem dX11_act_246 : decode cX11_act 246 = .ok (.iload_n 3, 1) := by decide +kernel
theorem dX11_act_247 : decode cX11_act 247 = .ok (.iaload, 1) := by decide +kernel
theorem dX11_act_248 : decode cX11_act 248 = .ok (.iconst 0, 1) := by decide +kernel
theorem dX11_act_249 : decode cX11_act 249 = .ok (.invokevirtual 289, 3) := by decide +kernel
theorem dX11_act_252 : decode cX11_act 252 = .ok (.istore 7, 2) := by decide +kernel
theorem dX11_act_254 : decode cX11_act 254 = .ok (.iconst 1, 1) := by decide +kernel
theorem dX11_act_255 : decode cX11_act 255 = .ok (.ireturn, 1) := by decide +kernel
theorem dX11_isBroken_0 : decode cX11_isBroken 0 = .ok (.aload_n 0, 1) := by decide +kernel
theorem dX11_isBroken_1 : decode cX11_isBroken 1 = .ok (.iconst 0, 1) := by decide +kernel
theorem dX11_isBroken_2 : decode cX11_isBroken 2 = .ok (.putfield 259, 3) := by decide +kernel
theorem dX11_isBroken_5 : decode cX11_isBroken 5 = .ok (.aload_n 0, 1) := by decide +kernel
theorem dX11_isBroken_6 : decode cX11_isBroken 6 = .ok (.iconst 0, 1) := by decide +kernel
theorem dX11_isBroken_7 : decode cX11_isBroken 7 = .ok (.putfield 252, 3) := by decide +kernel
theorem dX11_isBroken_10 : decode cX11_isBroken 10 = .ok (.bipush 6, 2) := by decide +kernel
theorem dX11_isBroken_12 : decode cX11_isBroken 12 = .ok (.iload_n 1, 1) := by decide +kernel
theorem dX11_isBroken_13 : decode cX11_isBroken 13 = .ok (.iadd, 1) := by decide +kernel
theorem dX11_isBroken_14 : decode cX11_isBroken 14 = .ok (.istore_n 2, 1) := by decide +kernel
theorem dX11_isBroken_15 : decode cX11_isBroken 15 = .ok (.sipush 300, 3) := by decide +kernel
theorem dX11_isBroken_18 : decode cX11_isBroken 18 = .ok (.iload_n 2, 1) := by decide +kernel
theorem dX11_isBroken_19 : decode cX11_isBroken 19 = .ok (.imul, 1) := by decide +kernel
theorem dX11_isBroken_20 : decode cX11_isBroken 20 = .ok (.istore_n 3, 1) := by decide +kernel
theorem dX11_isBroken_21 : decode cX11_isBroken 21 = .ok (.iload_n 3, 1) := by decide +kernel
theorem dX11_isBroken_22 : decode cX11_isBroken 22 = .ok (.sipush 300, 3) := by decide +kernel
theorem dX11_isBroken_25 : decode cX11_isBroken 25 = .ok (.iload_n 2, 1) := by decide +kernel
theorem dX11_isBroken_26 : decode cX11_isBroken 26 = .ok (.imul, 1) := by decide +kernel
theorem dX11_isBroken_27 : decode cX11_isBroken 27 = .ok (.aload_n 0, 1) := by decide +kernel
theorem dX11_isBroken_28 : decode cX11_isBroken 28 = .ok (.getfield 22, 3) := by decide +kernel
theorem dX11_isBroken_31 : decode cX11_isBroken 31 = .ok (.iload_n 2, 1) := by decide +kernel
theorem dX11_isBroken_32 : decode cX11_isBroken 32 = .ok (.iaload, 1) := by decide +kernel
theorem dX11_isBroken_33 : decode cX11_isBroken 33 = .ok (.iadd, 1) := by decide +kernel
theorem dX11_isBroken_34 : decode cX11_isBroken 34 = .ok (.if_icmp .ge 35, 3) := by decide +kernel
theorem dX11_isBroken_37 : decode cX11_isBroken 37 = .ok (.aload_n 0, 1) := by decide +kernel
theorem dX11_isBroken_38 : decode cX11_isBroken 38 = .ok (.getfield 252, 3) := by decide +kernel
theorem dX11_isBroken_41 : decode cX11_isBroken 41 = .ok (.ifCond .ne 28, 3) := by decide +kernel
theorem dX11_isBroken_44 : decode cX11_isBroken 44 = .ok (.aload_n 0, 1) := by decide +kernel
theorem dX11_isBroken_45 : decode cX11_isBroken 45 = .ok (.aload_n 0, 1) := by decide +kernel
theorem dX11_isBroken_46 : decode cX11_isBroken 46 = .ok (.getfield 13, 3) := by decide +kernel
theorem dX11_isBroken_49 : decode cX11_isBroken 49 = .ok (.iload_n 3, 1) := by decide +kernel
theorem dX11_isBroken_50 : decode cX11_isBroken 50 = .ok (.iaload, 1) := by decide +kernel
theorem dX11_isBroken_51 : decode cX11_isBroken 51 = .ok (.aload_n 0, 1) := by decide +kernel
theorem dX11_isBroken_52 : decode cX11_isBroken 52 = .ok (.getfield 16, 3) := by decide +kernel
theorem dX11_isBroken_55 : decode cX11_isBroken 55 = .ok (.iload_n 3, 1) := by decide +kernel
theorem dX11_isBroken_56 : decode cX11_isBroken 56 = .ok (.iaload, 1) := by decide +kernel
theorem dX11_isBroken_57 : decode cX11_isBroken 57 = .ok (.iconst 0, 1) := by decide +kernel
theorem dX11_isBroken_58 : decode cX11_isBroken 58 = .ok (.iconst 0, 1) := by decide +kernel
theorem dX11_isBroken_59 : decode cX11_isBroken 59 = .ok (.iconst 0, 1) := by decide +kernel
theorem dX11_isBroken_60 : decode cX11_isBroken 60 = .ok (.invokevirtual 293, 3) := by decide +kernel
theorem dX11_isBroken_63 : decode cX11_isBroken 63 = .ok (.iinc 3 1, 3) := by decide +kernel
theorem dX11_isBroken_66 : decode cX11_isBroken 66 = .ok (.goto (-45), 3) := by decide +kernel
theorem dX11_isBroken_69 : decode cX11_isBroken 69 = .ok (.aload_n 0, 1) := by decide +kernel
theorem dX11_isBroken_70 : decode cX11_isBroken 70 = .ok (.getfield 252, 3) := by decide +kernel
theorem dX11_isBroken_73 : decode cX11_isBroken 73 = .ok (.ifCond .ne 10, 3) := by decide +kernel
theorem dX11_isBroken_76 : decode cX11_isBroken 76 = .ok (.aload_n 0, 1) := by decide +kernel
theorem dX11_isBroken_77 : decode cX11_isBroken 77 = .ok (.invokevirtual 266, 3) := by decide +kernel
theorem dX11_isBroken_80 : decode cX11_isBroken 80 = .ok (.ifCond .ne 7, 3) := by decide +kernel
theorem dX11_isBroken_83 : decode cX11_isBroken 83 = .ok (.iconst 1, 1) := by decide +kernel
theorem dX11_isBroken_84 : decode cX11_isBroken 84 = .ok (.goto 4, 3) := by decide +kernel
theorem dX11_isBroken_87 : decode cX11_isBroken 87 = .ok (.iconst 0, 1) := by decide +kernel
theorem dX11_isBroken_88 : decode cX11_isBroken 88 = .ok (.istore_n 3, 1) := by decide +kernel
theorem dX11_isBroken_89 : decode cX11_isBroken 89 = .ok (.aload_n 0, 1) := by decide +kernel
theorem dX11_isBroken_90 : decode cX11_isBroken 90 = .ok (.iconst 0, 1) := by decide +kernel
theorem dX11_isBroken_91 : decode cX11_isBroken 91 = .ok (.putfield 252, 3) := by decide +kernel
theorem dX11_isBroken_94 : decode cX11_isBroken 94 = .ok (.iload_n 3, 1) := by decide +kernel
theorem dX11_isBroken_95 : decode cX11_isBroken 95 = .ok (.ireturn, 1) := by decide +kernel
theorem dX11_isCall_0 : decode cX11_isCall 0 = .ok (.iload_n 0, 1) := by decide +kernel
theorem dX11_isCall_1 : decode cX11_isCall 1 = .ok (.i2l, 1) := by decide +kernel
theorem dX11_isCall_2 : decode cX11_isCall 2 = .ok (.lconst 0, 1) := by decide +kernel
theorem dX11_isCall_3 : decode cX11_isCall 3 = .ok (.ldc2_w 306, 3) := by decide +kernel
theorem dX11_isCall_6 : decode cX11_isCall 6 = .ok (.invokestatic 117, 3) := by decide +kernel
theorem dX11_isCall_9 : decode cX11_isCall 9 = .ok (.ifCond .eq 45, 3) := by decide +kernel
theorem dX11_isCall_12 : decode cX11_isCall 12 = .ok (.iload_n 1, 1) := by decide +kernel
theorem dX11_isCall_13 : decode cX11_isCall 13 = .ok (.i2l, 1) := by decide +kernel
theorem dX11_isCall_14 : decode cX11_isCall 14 = .ok (.lconst 0, 1) := by decide +kernel
theorem dX11_isCall_15 : decode cX11_isCall 15 = .ok (.ldc2_w 231, 3) := by decide +kernel
theorem dX11_isCall_18 : decode cX11_isCall 18 = .ok (.invokestatic 117, 3) := by decide +kernel
theorem dX11_isCall_21 : decode cX11_isCall 21 = .ok (.ifCond .eq 33, 3) := by decide +kernel
theorem dX11_isCall_24 : decode cX11_isCall 24 = .ok (.iload_n 2, 1) := by decide +kernel
theorem dX11_isCall_25 : decode cX11_isCall 25 = .ok (.i2l, 1) := by decide +kernel
theorem dX11_isCall_26 : decode cX11_isCall 26 = .ok (.ldc2_w 308, 3) := by decide +kernel
theorem dX11_isCall_29 : decode cX11_isCall 29 = .ok (.ldc2_w 310, 3) := by decide +kernel
theorem dX11_isCall_32 : decode cX11_isCall 32 = .ok (.invokestatic 117, 3) := by decide +kernel
theorem dX11_isCall_35 : decode cX11_isCall 35 = .ok (.ifCond .eq 19, 3) := by decide +kernel
theorem dX11_isCall_38 : decode cX11_isCall 38 = .ok (.iload_n 3, 1) := by decide +kernel
theorem dX11_isCall_39 : decode cX11_isCall 39 = .ok (.i2l, 1) := by decide +kernel
theorem dX11_isCall_40 : decode cX11_isCall 40 = .ok (.lconst 0, 1) := by decide +kernel
theorem dX11_isCall_41 : decode cX11_isCall 41 = .ok (.ldc2_w 310, 3) := by decide +kernel
theorem dX11_isCall_44 : decode cX11_isCall 44 = .ok (.invokestatic 117, 3) := by decide +kernel
theorem dX11_isCall_47 : decode cX11_isCall 47 = .ok (.ifCond .eq 7, 3) := by decide +kernel
theorem dX11_isCall_50 : decode cX11_isCall 50 = .ok (.iconst 1, 1) := by decide +kernel
theorem dX11_isCall_51 : decode cX11_isCall 51 = .ok (.goto 4, 3) := by decide +kernel
theorem dX11_isCall_54 : decode cX11_isCall 54 = .ok (.iconst 0, 1) := by decide +kernel
theorem dX11_isCall_55 : decode cX11_isCall 55 = .ok (.ireturn, 1) := by decide +kernel
theorem dX11_actor_0 : decode cX11_actor 0 = .ok (.iload_n 1, 1) := by decide +kernel
theorem dX11_actor_1 : decode cX11_actor 1 = .ok (.i2l, 1) := by decide +kernel
theorem dX11_actor_2 : decode cX11_actor 2 = .ok (.lconst 0, 1) := by decide +kernel
theorem dX11_actor_3 : decode cX11_actor 3 = .ok (.ldc2_w 306, 3) := by decide +kernel
theorem dX11_actor_6 : decode cX11_actor 6 = .ok (.invokestatic 117, 3) := by decide +kernel
theorem dX11_actor_9 : decode cX11_actor 9 = .ok (.ifCond .eq 48, 3) := by decide +kernel
theorem dX11_actor_12 : decode cX11_actor 12 = .ok (.iload_n 2, 1) := by decide +kernel
theorem dX11_actor_13 : decode cX11_actor 13 = .ok (.i2l, 1) := by decide +kernel
theorem dX11_actor_14 : decode cX11_actor 14 = .ok (.lconst 0, 1) := by decide +kernel
theorem dX11_actor_15 : decode cX11_actor 15 = .ok (.ldc2_w 310, 3) := by decide +kernel
theorem dX11_actor_18 : decode cX11_actor 18 = .ok (.invokestatic 117, 3) := by decide +kernel
theorem dX11_actor_21 : decode cX11_actor 21 = .ok (.ifCond .eq 36, 3) := by decide +kernel
theorem dX11_actor_24 : decode cX11_actor 24 = .ok (.iload_n 3, 1) := by decide +kernel
theorem dX11_actor_25 : decode cX11_actor 25 = .ok (.i2l, 1) := by decide +kernel
theorem dX11_actor_26 : decode cX11_actor 26 = .ok (.ldc2_w 312, 3) := by decide +kernel
theorem dX11_actor_29 : decode cX11_actor 29 = .ok (.ldc2_w 231, 3) := by decide +kernel
theorem dX11_actor_32 : decode cX11_actor 32 = .ok (.invokestatic 117, 3) := by decide +kernel
theorem dX11_actor_35 : decode cX11_actor 35 = .ok (.ifCond .eq 22, 3) := by decide +kernel
theorem dX11_actor_38 : decode cX11_actor 38 = .ok (.iload_n 3, 1) := by decide +kernel
theorem dX11_actor_39 : decode cX11_actor 39 = .ok (.ifCond .lt 20, 3) := by decide +kernel
theorem dX11_actor_42 : decode cX11_actor 42 = .ok (.iload 4, 2) := by decide +kernel
theorem dX11_actor_44 : decode cX11_actor 44 = .ok (.i2l, 1) := by decide +kernel
theorem dX11_actor_45 : decode cX11_actor 45 = .ok (.ldc2_w 308, 3) := by decide +kernel
theorem dX11_actor_48 : decode cX11_actor 48 = .ok (.ldc2_w 310, 3) := by decide +kernel
theorem dX11_actor_51 : decode cX11_actor 51 = .ok (.invokestatic 117, 3) := by decide +kernel
theorem dX11_actor_54 : decode cX11_actor 54 = .ok (.ifCond .ne 5, 3) := by decide +kernel
theorem dX11_actor_57 : decode cX11_actor 57 = .ok (.iconst (-1), 1) := by decide +kernel
theorem dX11_actor_58 : decode cX11_actor 58 = .ok (.ireturn, 1) := by decide +kernel
theorem dX11_actor_59 : decode cX11_actor 59 = .ok (.aload_n 0, 1) := by decide +kernel
theorem dX11_actor_60 : decode cX11_actor 60 = .ok (.getfield 44, 3) := by decide +kernel
theorem dX11_actor_63 : decode cX11_actor 63 = .ok (.iload_n 1, 1) := by decide +kernel
theorem dX11_actor_64 : decode cX11_actor 64 = .ok (.iload_n 2, 1) := by decide +kernel
theorem dX11_actor_65 : decode cX11_actor 65 = .ok (.iastore, 1) := by decide +kernel
theorem dX11_actor_66 : decode cX11_actor 66 = .ok (.aload_n 0, 1) := by decide +kernel
theorem dX11_actor_67 : decode cX11_actor 67 = .ok (.getfield 47, 3) := by decide +kernel
theorem dX11_actor_70 : decode cX11_actor 70 = .ok (.iload_n 1, 1) := by decide +kernel
theorem dX11_actor_71 : decode cX11_actor 71 = .ok (.iload_n 3, 1) := by decide +kernel
theorem dX11_actor_72 : decode cX11_actor 72 = .ok (.iastore, 1) := by decide +kernel
theorem dX11_actor_73 : decode cX11_actor 73 = .ok (.aload_n 0, 1) := by decide +kernel
theorem dX11_actor_74 : decode cX11_actor 74 = .ok (.getfield 50, 3) := by decide +kernel
theorem dX11_actor_77 : decode cX11_actor 77 = .ok (.iload_n 1, 1) := by decide +kernel
theorem dX11_actor_78 : decode cX11_actor 78 = .ok (.iload 4, 2) := by decide +kernel
theorem dX11_actor_80 : decode cX11_actor 80 = .ok (.iastore, 1) := by decide +kernel
theorem dX11_actor_81 : decode cX11_actor 81 = .ok (.aload_n 0, 1) := by decide +kernel
theorem dX11_actor_82 : decode cX11_actor 82 = .ok (.invokevirtual 314, 3) := by decide +kernel
theorem dX11_actor_85 : decode cX11_actor 85 = .ok (.iconst 1, 1) := by decide +kernel
theorem dX11_actor_86 : decode cX11_actor 86 = .ok (.ireturn, 1) := by decide +kernel
theorem dX11_begins_0 : decode cX11_begins 0 = .ok (.aload_n 0, 1) := by decide +kernel
theorem dX11_begins_1 : decode cX11_begins 1 = .ok (.invokevirtual 317, 3) := by decide +kernel
theorem dX11_begins_4 : decode cX11_begins 4 = .ok (.aload_n 0, 1) := by decide +kernel
theorem dX11_begins_5 : decode cX11_begins 5 = .ok (.aload_n 0, 1) := by decide +kernel
theorem dX11_begins_6 : decode cX11_begins 6 = .ok (.getfield 41, 3) := by decide +kernel
theorem dX11_begins_9 : decode cX11_begins 9 = .ok (.iconst 0, 1) := by decide +kernel
theorem dX11_begins_10 : decode cX11_begins 10 = .ok (.invokevirtual 276, 3) := by decide +kernel
theorem dX11_begins_13 : decode cX11_begins 13 = .ok (.aload_n 0, 1) := by decide +kernel
theorem dX11_begins_14 : decode cX11_begins 14 = .ok (.iconst 0, 1) := by decide +kernel
theorem dX11_begins_15 : decode cX11_begins 15 = .ok (.putfield 320, 3) := by decide +kernel
theorem dX11_begins_18 : decode cX11_begins 18 = .ok (.return_, 1) := by decide +kernel
theorem dX11_call_0 : decode cX11_call 0 = .ok (.iload_n 1, 1) := by decide +kernel
theorem dX11_call_1 : decode cX11_call 1 = .ok (.iload_n 2, 1) := by decide +kernel
theorem dX11_call_2 : decode cX11_call 2 = .ok (.iload_n 3, 1) := by decide +kernel
theorem dX11_call_3 : decode cX11_call 3 = .ok (.iload 4, 2) := by decide +kernel
theorem dX11_call_5 : decode cX11_call 5 = .ok (.invokestatic 323, 3) := by decide +kernel
theorem dX11_call_8 : decode cX11_call 8 = .ok (.ifCond .ne 5, 3) := by decide +kernel
theorem dX11_call_11 : decode cX11_call 11 = .ok (.iconst (-1), 1) := by decide +kernel
theorem dX11_call_12 : decode cX11_call 12 = .ok (.ireturn, 1) := by decide +kernel
theorem dX11_call_13 : decode cX11_call 13 = .ok (.aload_n 0, 1) := by decide +kernel
theorem dX11_call_14 : decode cX11_call 14 = .ok (.aload_n 0, 1) := by decide +kernel
theorem dX11_call_15 : decode cX11_call 15 = .ok (.getfield 41, 3) := by decide +kernel
theorem dX11_call_18 : decode cX11_call 18 = .ok (.iconst 0, 1) := by decide +kernel
theorem dX11_call_19 : decode cX11_call 19 = .ok (.invokevirtual 280, 3) := by decide +kernel
theorem dX11_call_22 : decode cX11_call 22 = .ok (.aload_n 0, 1) := by decide +kernel
theorem dX11_call_23 : decode cX11_call 23 = .ok (.iload_n 1, 1) := by decide +kernel
theorem dX11_call_24 : decode cX11_call 24 = .ok (.iload_n 2, 1) := by decide +kernel
theorem dX11_call_25 : decode cX11_call 25 = .ok (.iload_n 3, 1) := by decide +kernel
theorem dX11_call_26 : decode cX11_call 26 = .ok (.iload 4, 2) := by decide +kernel
theorem dX11_call_28 : decode cX11_call 28 = .ok (.invokevirtual 326, 3) := by decide +kernel
theorem dX11_call_31 : decode cX11_call 31 = .ok (.istore 5, 2) := by decide +kernel
theorem dX11_call_33 : decode cX11_call 33 = .ok (.aload_n 0, 1) := by decide +kernel
theorem dX11_call_34 : decode cX11_call 34 = .ok (.aload_n 0, 1) := by decide +kernel
theorem dX11_call_35 : decode cX11_call 35 = .ok (.getfield 41, 3) := by decide +kernel
theorem dX11_call_38 : decode cX11_call 38 = .ok (.iconst 0, 1) := by decide +kernel
theorem dX11_call_39 : decode cX11_call 39 = .ok (.invokevirtual 276, 3) := by decide +kernel
theorem dX11_call_42 : decode cX11_call 42 = .ok (.aload_n 0, 1) := by decide +kernel
theorem dX11_call_43 : decode cX11_call 43 = .ok (.dup, 1) := by decide +kernel
theorem dX11_call_44 : decode cX11_call 44 = .ok (.getfield 320, 3) := by decide +kernel
theorem dX11_call_47 : decode cX11_call 47 = .ok (.iconst 1, 1) := by decide +kernel
theorem dX11_call_48 : decode cX11_call 48 = .ok (.iadd, 1) := by decide +kernel
theorem dX11_call_49 : decode cX11_call 49 = .ok (.putfield 320, 3) := by decide +kernel
theorem dX11_call_52 : decode cX11_call 52 = .ok (.iload 5, 2) := by decide +kernel
theorem dX11_call_54 : decode cX11_call 54 = .ok (.ifCond .eq 7, 3) := by decide +kernel
theorem dX11_call_57 : decode cX11_call 57 = .ok (.iconst 1, 1) := by decide +kernel
theorem dX11_call_58 : decode cX11_call 58 = .ok (.goto 4, 3) := by decide +kernel
theorem dX11_call_61 : decode cX11_call 61 = .ok (.iconst 0, 1) := by decide +kernel
theorem dX11_call_62 : decode cX11_call 62 = .ok (.ireturn, 1) := by decide +kernel
theorem dX11_start_0 : decode cX11_start 0 = .ok (.aload_n 0, 1) := by decide +kernel
theorem dX11_start_1 : decode cX11_start 1 = .ok (.getfield 320, 3) := by decide +kernel
theorem dX11_start_4 : decode cX11_start 4 = .ok (.istore_n 1, 1) := by decide +kernel
theorem dX11_start_5 : decode cX11_start 5 = .ok (.aload_n 0, 1) := by decide +kernel
theorem dX11_start_6 : decode cX11_start 6 = .ok (.invokevirtual 314, 3) := by decide +kernel
theorem dX11_start_9 : decode cX11_start 9 = .ok (.iload_n 1, 1) := by decide +kernel
theorem dX11_start_10 : decode cX11_start 10 = .ok (.ireturn, 1) := by decide +kernel
theorem dX11_state_0 : decode cX11_state 0 = .ok (.iload_n 1, 1) := by decide +kernel
theorem dX11_state_1 : decode cX11_state 1 = .ok (.i2l, 1) := by decide +kernel
theorem dX11_state_2 : decode cX11_state 2 = .ok (.lconst 0, 1) := by decide +kernel
theorem dX11_state_3 : decode cX11_state 3 = .ok (.ldc2_w 329, 3) := by decide +kernel
theorem dX11_state_6 : decode cX11_state 6 = .ok (.invokestatic 117, 3) := by decide +kernel
theorem dX11_state_9 : decode cX11_state 9 = .ok (.ifCond .eq 12, 3) := by decide +kernel
theorem dX11_state_12 : decode cX11_state 12 = .ok (.aload_n 0, 1) := by decide +kernel
theorem dX11_state_13 : decode cX11_state 13 = .ok (.getfield 41, 3) := by decide +kernel
theorem dX11_state_16 : decode cX11_state 16 = .ok (.iload_n 1, 1) := by decide +kernel
theorem dX11_state_17 : decode cX11_state 17 = .ok (.iaload, 1) := by decide +kernel
theorem dX11_state_18 : decode cX11_state 18 = .ok (.goto 4, 3) := by decide +kernel
theorem dX11_state_21 : decode cX11_state 21 = .ok (.iconst (-1), 1) := by decide +kernel
theorem dX11_state_22 : decode cX11_state 22 = .ok (.ireturn, 1) := by decide +kernel
theorem dX11_isRule_0 : decode cX11_isRule 0 = .ok (.iload_n 1, 1) := by decide +kernel
theorem dX11_isRule_1 : decode cX11_isRule 1 = .ok (.i2l, 1) := by decide +kernel
theorem dX11_isRule_2 : decode cX11_isRule 2 = .ok (.lconst 0, 1) := by decide +kernel
theorem dX11_isRule_3 : decode cX11_isRule 3 = .ok (.aload_n 0, 1) := by decide +kernel
theorem dX11_isRule_4 : decode cX11_isRule 4 = .ok (.getfield 245, 3) := by decide +kernel
theorem dX11_isRule_7 : decode cX11_isRule 7 = .ok (.iconst 1, 1) := by decide +kernel
theorem dX11_isRule_8 : decode cX11_isRule 8 = .ok (.isub, 1) := by decide +kernel
theorem dX11_isRule_9 : decode cX11_isRule 9 = .ok (.i2l, 1) := by decide +kernel
theorem dX11_isRule_10 : decode cX11_isRule 10 = .ok (.invokestatic 117, 3) := by decide +kernel
theorem dX11_isRule_13 : decode cX11_isRule 13 = .ok (.ireturn, 1) := by decide +kernel
theorem dX11_holds_0 : decode cX11_holds 0 = .ok (.aload_n 0, 1) := by decide +kernel
theorem dX11_holds_1 : decode cX11_holds 1 = .ok (.iload_n 1, 1) := by decide +kernel
theorem dX11_holds_2 : decode cX11_holds 2 = .ok (.invokevirtual 331, 3) := by decide +kernel
theorem dX11_holds_5 : decode cX11_holds 5 = .ok (.ifCond .ne 5, 3) := by decide +kernel
theorem dX11_holds_8 : decode cX11_holds 8 = .ok (.iconst (-1), 1) := by decide +kernel
theorem dX11_holds_9 : decode cX11_holds 9 = .ok (.ireturn, 1) := by decide +kernel
theorem dX11_holds_10 : decode cX11_holds 10 = .ok (.aload_n 0, 1) := by decide +kernel
theorem dX11_holds_11 : decode cX11_holds 11 = .ok (.aload_n 0, 1) := by decide +kernel
theorem dX11_holds_12 : decode cX11_holds 12 = .ok (.getfield 41, 3) := by decide +kernel
theorem dX11_holds_15 : decode cX11_holds 15 = .ok (.iconst 0, 1) := by decide +kernel
theorem dX11_holds_16 : decode cX11_holds 16 = .ok (.invokevirtual 280, 3) := by decide +kernel
theorem dX11_holds_19 : decode cX11_holds 19 = .ok (.aload_n 0, 1) := by decide +kernel
theorem dX11_holds_20 : decode cX11_holds 20 = .ok (.iload_n 1, 1) := by decide +kernel
theorem dX11_holds_21 : decode cX11_holds 21 = .ok (.invokevirtual 334, 3) := by decide +kernel
theorem dX11_holds_24 : decode cX11_holds 24 = .ok (.ifCond .eq 7, 3) := by decide +kernel
theorem dX11_holds_27 : decode cX11_holds 27 = .ok (.iconst 0, 1) := by decide +kernel
theorem dX11_holds_28 : decode cX11_holds 28 = .ok (.goto 4, 3) := by decide +kernel
theorem dX11_holds_31 : decode cX11_holds 31 = .ok (.iconst 1, 1) := by decide +kernel
theorem dX11_holds_32 : decode cX11_holds 32 = .ok (.ireturn, 1) := by decide +kernel
theorem dX11_choice_0 : decode cX11_choice 0 = .ok (.iload_n 1, 1) := by decide +kernel
theorem dX11_choice_1 : decode cX11_choice 1 = .ok (.iload_n 2, 1) := by decide +kernel
theorem dX11_choice_2 : decode cX11_choice 2 = .ok (.iload_n 3, 1) := by decide +kernel
theorem dX11_choice_3 : decode cX11_choice 3 = .ok (.iload 4, 2) := by decide +kernel
theorem dX11_choice_5 : decode cX11_choice 5 = .ok (.invokestatic 323, 3) := by decide +kernel
theorem dX11_choice_8 : decode cX11_choice 8 = .ok (.ifCond .ne 5, 3) := by decide +kernel
theorem dX11_choice_11 : decode cX11_choice 11 = .ok (.iconst (-1), 1) := by decide +kernel
theorem dX11_choice_12 : decode cX11_choice 12 = .ok (.ireturn, 1) := by decide +kernel
theorem dX11_choice_13 : decode cX11_choice 13 = .ok (.aload_n 0, 1) := by decide +kernel
theorem dX11_choice_14 : decode cX11_choice 14 = .ok (.getfield 337, 3) := by decide +kernel
theorem dX11_choice_17 : decode cX11_choice 17 = .ok (.bipush 30, 2) := by decide +kernel
theorem dX11_choice_19 : decode cX11_choice 19 = .ok (.if_icmp .ne 6, 3) := by decide +kernel
theorem dX11_choice_22 : decode cX11_choice 22 = .ok (.bipush (-3), 2) := by decide +kernel
theorem dX11_choice_24 : decode cX11_choice 24 = .ok (.ireturn, 1) := by decide +kernel
theorem dX11_choice_25 : decode cX11_choice 25 = .ok (.aload_n 0, 1) := by decide +kernel
theorem dX11_choice_26 : decode cX11_choice 26 = .ok (.getfield 74, 3) := by decide +kernel
theorem dX11_choice_29 : decode cX11_choice 29 = .ok (.aload_n 0, 1) := by decide +kernel
theorem dX11_choice_30 : decode cX11_choice 30 = .ok (.getfield 337, 3) := by decide +kernel
theorem dX11_choice_33 : decode cX11_choice 33 = .ok (.iload_n 1, 1) := by decide +kernel
theorem dX11_choice_34 : decode cX11_choice 34 = .ok (.iastore, 1) := by decide +kernel
theorem dX11_choice_35 : decode cX11_choice 35 = .ok (.aload_n 0, 1) := by decide +kernel
theorem dX11_choice_36 : decode cX11_choice 36 = .ok (.getfield 77, 3) := by decide +kernel
theorem dX11_choice_39 : decode cX11_choice 39 = .ok (.aload_n 0, 1) := by decide +kernel
theorem dX11_choice_40 : decode cX11_choice 40 = .ok (.getfield 337, 3) := by decide +kernel
theorem dX11_choice_43 : decode cX11_choice 43 = .ok (.iload_n 2, 1) := by decide +kernel
theorem dX11_choice_44 : decode cX11_choice 44 = .ok (.iastore, 1) := by decide +kernel
theorem dX11_choice_45 : decode cX11_choice 45 = .ok (.aload_n 0, 1) := by decide +kernel
theorem dX11_choice_46 : decode cX11_choice 46 = .ok (.getfield 80, 3) := by decide +kernel
theorem dX11_choice_49 : decode cX11_choice 49 = .ok (.aload_n 0, 1) := by decide +kernel
theorem dX11_choice_50 : decode cX11_choice 50 = .ok (.getfield 337, 3) := by decide +kernel
theorem dX11_choice_53 : decode cX11_choice 53 = .ok (.iload_n 3, 1) := by decide +kernel
theorem dX11_choice_54 : decode cX11_choice 54 = .ok (.iastore, 1) := by decide +kernel
theorem dX11_choice_55 : decode cX11_choice 55 = .ok (.aload_n 0, 1) := by decide +kernel
theorem dX11_choice_56 : decode cX11_choice 56 = .ok (.getfield 83, 3) := by decide +kernel
theorem dX11_choice_59 : decode cX11_choice 59 = .ok (.aload_n 0, 1) := by decide +kernel
theorem dX11_choice_60 : decode cX11_choice 60 = .ok (.getfield 337, 3) := by decide +kernel
theorem dX11_choice_63 : decode cX11_choice 63 = .ok (.iload 4, 2) := by decide +kernel
theorem dX11_choice_65 : decode cX11_choice 65 = .ok (.iastore, 1) := by decide +kernel
theorem dX11_choice_66 : decode cX11_choice 66 = .ok (.aload_n 0, 1) := by decide +kernel
theorem dX11_choice_67 : decode cX11_choice 67 = .ok (.dup, 1) := by decide +kernel
theorem dX11_choice_68 : decode cX11_choice 68 = .ok (.getfield 337, 3) := by decide +kernel
theorem dX11_choice_71 : decode cX11_choice 71 = .ok (.iconst 1, 1) := by decide +kernel
theorem dX11_choice_72 : decode cX11_choice 72 = .ok (.iadd, 1) := by decide +kernel
theorem dX11_choice_73 : decode cX11_choice 73 = .ok (.putfield 337, 3) := by decide +kernel
theorem dX11_choice_76 : decode cX11_choice 76 = .ok (.aload_n 0, 1) := by decide +kernel
theorem dX11_choice_77 : decode cX11_choice 77 = .ok (.getfield 337, 3) := by decide +kernel
theorem dX11_choice_80 : decode cX11_choice 80 = .ok (.iconst 1, 1) := by decide +kernel
theorem dX11_choice_81 : decode cX11_choice 81 = .ok (.isub, 1) := by decide +kernel
theorem dX11_choice_82 : decode cX11_choice 82 = .ok (.ireturn, 1) := by decide +kernel
theorem dX11_fresh_0 : decode cX11_fresh 0 = .ok (.aload_n 0, 1) := by decide +kernel
theorem dX11_fresh_1 : decode cX11_fresh 1 = .ok (.getfield 337, 3) := by decide +kernel
theorem dX11_fresh_4 : decode cX11_fresh 4 = .ok (.istore_n 1, 1) := by decide +kernel
theorem dX11_fresh_5 : decode cX11_fresh 5 = .ok (.aload_n 0, 1) := by decide +kernel
theorem dX11_fresh_6 : decode cX11_fresh 6 = .ok (.iconst 0, 1) := by decide +kernel
theorem dX11_fresh_7 : decode cX11_fresh 7 = .ok (.putfield 337, 3) := by decide +kernel
theorem dX11_fresh_10 : decode cX11_fresh 10 = .ok (.aload_n 0, 1) := by decide +kernel
theorem dX11_fresh_11 : decode cX11_fresh 11 = .ok (.iconst 0, 1) := by decide +kernel
theorem dX11_fresh_12 : decode cX11_fresh 12 = .ok (.putfield 340, 3) := by decide +kernel
theorem dX11_fresh_15 : decode cX11_fresh 15 = .ok (.aload_n 0, 1) := by decide +kernel
theorem dX11_fresh_16 : decode cX11_fresh 16 = .ok (.iconst 0, 1) := by decide +kernel
theorem dX11_fresh_17 : decode cX11_fresh 17 = .ok (.putfield 343, 3) := by decide +kernel
theorem dX11_fresh_20 : decode cX11_fresh 20 = .ok (.iconst 0, 1) := by decide +kernel
theorem dX11_fresh_21 : decode cX11_fresh 21 = .ok (.istore_n 2, 1) := by decide +kernel
theorem dX11_fresh_22 : decode cX11_fresh 22 = .ok (.iload_n 2, 1) := by decide +kernel
theorem dX11_fresh_23 : decode cX11_fresh 23 = .ok (.sipush 144, 3) := by decide +kernel
theorem dX11_fresh_26 : decode cX11_fresh 26 = .ok (.if_icmp .ge 16, 3) := by decide +kernel
theorem dX11_fresh_29 : decode cX11_fresh 29 = .ok (.aload_n 0, 1) := by decide +kernel
theorem dX11_fresh_30 : decode cX11_fresh 30 = .ok (.getfield 53, 3) := by decide +kernel
theorem dX11_fresh_33 : decode cX11_fresh 33 = .ok (.iload_n 2, 1) := by decide +kernel
theorem dX11_fresh_34 : decode cX11_fresh 34 = .ok (.iconst 0, 1) := by decide +kernel
theorem dX11_fresh_35 : decode cX11_fresh 35 = .ok (.bastore, 1) := by decide +kernel
theorem dX11_fresh_36 : decode cX11_fresh 36 = .ok (.iinc 2 1, 3) := by decide +kernel
theorem dX11_fresh_39 : decode cX11_fresh 39 = .ok (.goto (-17), 3) := by decide +kernel
theorem dX11_fresh_42 : decode cX11_fresh 42 = .ok (.iload_n 1, 1) := by decide +kernel
theorem dX11_fresh_43 : decode cX11_fresh 43 = .ok (.ireturn, 1) := by decide +kernel
theorem dX11_choose_0 : decode cX11_choose 0 = .ok (.aload_n 0, 1) := by decide +kernel
theorem dX11_choose_1 : decode cX11_choose 1 = .ok (.aload_n 0, 1) := by decide +kernel
theorem dX11_choose_2 : decode cX11_choose 2 = .ok (.getfield 74, 3) := by decide +kernel
theorem dX11_choose_5 : decode cX11_choose 5 = .ok (.iload_n 1, 1) := by decide +kernel
theorem dX11_choose_6 : decode cX11_choose 6 = .ok (.iaload, 1) := by decide +kernel
theorem dX11_choose_7 : decode cX11_choose 7 = .ok (.aload_n 0, 1) := by decide +kernel
theorem dX11_choose_8 : decode cX11_choose 8 = .ok (.getfield 77, 3) := by decide +kernel
theorem dX11_choose_11 : decode cX11_choose 11 = .ok (.iload_n 1, 1) := by decide +kernel
theorem dX11_choose_12 : decode cX11_choose 12 = .ok (.iaload, 1) := by decide +kernel
theorem dX11_choose_13 : decode cX11_choose 13 = .ok (.aload_n 0, 1) := by decide +kernel
theorem dX11_choose_14 : decode cX11_choose 14 = .ok (.getfield 80, 3) := by decide +kernel
theorem dX11_choose_17 : decode cX11_choose 17 = .ok (.iload_n 1, 1) := by decide +kernel
theorem dX11_choose_18 : decode cX11_choose 18 = .ok (.iaload, 1) := by decide +kernel
theorem dX11_choose_19 : decode cX11_choose 19 = .ok (.aload_n 0, 1) := by decide +kernel
theorem dX11_choose_20 : decode cX11_choose 20 = .ok (.getfield 83, 3) := by decide +kernel
theorem dX11_choose_23 : decode cX11_choose 23 = .ok (.iload_n 1, 1) := by decide +kernel
theorem dX11_choose_24 : decode cX11_choose 24 = .ok (.iaload, 1) := by decide +kernel
theorem dX11_choose_25 : decode cX11_choose 25 = .ok (.invokevirtual 326, 3) := by decide +kernel
theorem dX11_choose_28 : decode cX11_choose 28 = .ok (.istore_n 2, 1) := by decide +kernel
theorem dX11_choose_29 : decode cX11_choose 29 = .ok (.return_, 1) := by decide +kernel
theorem dX11_keepRow_0 : decode cX11_keepRow 0 = .ok (.iconst 0, 1) := by decide +kernel
theorem dX11_keepRow_1 : decode cX11_keepRow 1 = .ok (.istore_n 1, 1) := by decide +kernel
theorem dX11_keepRow_2 : decode cX11_keepRow 2 = .ok (.iload_n 1, 1) := by decide +kernel
theorem dX11_keepRow_3 : decode cX11_keepRow 3 = .ok (.aload_n 0, 1) := by decide +kernel
theorem dX11_keepRow_4 : decode cX11_keepRow 4 = .ok (.getfield 346, 3) := by decide +kernel
theorem dX11_keepRow_7 : decode cX11_keepRow 7 = .ok (.if_icmp .ge 29, 3) := by decide +kernel
theorem dX11_keepRow_10 : decode cX11_keepRow 10 = .ok (.aload_n 0, 1) := by decide +kernel
theorem dX11_keepRow_11 : decode cX11_keepRow 11 = .ok (.getfield 89, 3) := by decide +kernel
theorem dX11_keepRow_14 : decode cX11_keepRow 14 = .ok (.bipush 12, 2) := by decide +kernel
theorem dX11_keepRow_16 : decode cX11_keepRow 16 = .ok (.aload_n 0, 1) := by decide +kernel
theorem dX11_keepRow_17 : decode cX11_keepRow 17 = .ok (.getfield 340, 3) := by decide +kernel
theorem dX11_keepRow_20 : decode cX11_keepRow 20 = .ok (.imul, 1) := by decide +kernel
theorem dX11_keepRow_21 : decode cX11_keepRow 21 = .ok (.iload_n 1, 1) := by decide +kernel
theorem dX11_keepRow_22 : decode cX11_keepRow 22 = .ok (.iadd, 1) := by decide +kernel
theorem dX11_keepRow_23 : decode cX11_keepRow 23 = .ok (.aload_n 0, 1) := by decide +kernel
theorem dX11_keepRow_24 : decode cX11_keepRow 24 = .ok (.getfield 92, 3) := by decide +kernel
theorem dX11_keepRow_27 : decode cX11_keepRow 27 = .ok (.iload_n 1, 1) := by decide +kernel
theorem dX11_keepRow_28 : decode cX11_keepRow 28 = .ok (.iaload, 1) := by decide +kernel
theorem dX11_keepRow_29 : decode cX11_keepRow 29 = .ok (.iastore, 1) := by decide +kernel
theorem dX11_keepRow_30 : decode cX11_keepRow 30 = .ok (.iinc 1 1, 3) := by decide +kernel
theorem dX11_keepRow_33 : decode cX11_keepRow 33 = .ok (.goto (-31), 3) := by decide +kernel
theorem dX11_keepRow_36 : decode cX11_keepRow 36 = .ok (.aload_n 0, 1) := by decide +kernel
