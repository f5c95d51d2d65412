theorem dX8_next_123 : decode cX8_next 123 = .ok (.goto 5, 3) := by decide +kernel
theorem dX8_next_126 : decode cX8_next 126 = .ok (.bipush 9, 2) := by decide +kernel
theorem dX8_next_128 : decode cX8_next 128 = .ok (.putfield 28, 3) := by decide +kernel
theorem dX8_next_131 : decode cX8_next 131 = .ok (.return_, 1) := by decide +kernel
theorem dX8_readWord_0 : decode cX8_readWord 0 = .ok (.aload_n 0, 1) := by decide +kernel
theorem dX8_readWord_1 : decode cX8_readWord 1 = .ok (.getfield 25, 3) := by decide +kernel
theorem dX8_readWord_4 : decode cX8_readWord 4 = .ok (.istore_n 1, 1) := by decide +kernel
theorem dX8_readWord_5 : decode cX8_readWord 5 = .ok (.iload_n 1, 1) := by decide +kernel
theorem dX8_readWord_6 : decode cX8_readWord 6 = .ok (.aload_n 0, 1) := by decide +kernel
theorem dX8_readWord_7 : decode cX8_readWord 7 = .ok (.getfield 15, 3) := by decide +kernel
theorem dX8_readWord_10 : decode cX8_readWord 10 = .ok (.if_icmp .ge 21, 3) := by decide +kernel
theorem dX8_readWord_13 : decode cX8_readWord 13 = .ok (.aload_n 0, 1) := by decide +kernel
theorem dX8_readWord_14 : decode cX8_readWord 14 = .ok (.getfield 11, 3) := by decide +kernel
theorem dX8_readWord_17 : decode cX8_readWord 17 = .ok (.iload_n 1, 1) := by decide +kernel
theorem dX8_readWord_18 : decode cX8_readWord 18 = .ok (.baload, 1) := by decide +kernel
theorem dX8_readWord_19 : decode cX8_readWord 19 = .ok (.invokestatic 40, 3) := by decide +kernel
theorem dX8_readWord_22 : decode cX8_readWord 22 = .ok (.ifCond .eq 9, 3) := by decide +kernel
theorem dX8_readWord_25 : decode cX8_readWord 25 = .ok (.iinc 1 1, 3) := by decide +kernel
theorem dX8_readWord_28 : decode cX8_readWord 28 = .ok (.goto (-23), 3) := by decide +kernel
theorem dX8_readWord_31 : decode cX8_readWord 31 = .ok (.iload_n 1, 1) := by decide +kernel
theorem dX8_readWord_32 : decode cX8_readWord 32 = .ok (.aload_n 0, 1) := by decide +kernel
theorem dX8_readWord_33 : decode cX8_readWord 33 = .ok (.getfield 15, 3) := by decide +kernel
theorem dX8_readWord_36 : decode cX8_readWord 36 = .ok (.if_icmp .ge 21, 3) := by decide +kernel
theorem dX8_readWord_39 : decode cX8_readWord 39 = .ok (.aload_n 0, 1) := by decide +kernel
theorem dX8_readWord_40 : decode cX8_readWord 40 = .ok (.getfield 11, 3) := by decide +kernel
theorem dX8_readWord_43 : decode cX8_readWord 43 = .ok (.iload_n 1, 1) := by decide +kernel
theorem dX8_readWord_44 : decode cX8_readWord 44 = .ok (.baload, 1) := by decide +kernel
theorem dX8_readWord_45 : decode cX8_readWord 45 = .ok (.invokestatic 47, 3) := by decide +kernel
theorem dX8_readWord_48 : decode cX8_readWord 48 = .ok (.ifCond .eq 9, 3) := by decide +kernel
theorem dX8_readWord_51 : decode cX8_readWord 51 = .ok (.iinc 1 1, 3) := by decide +kernel
theorem dX8_readWord_54 : decode cX8_readWord 54 = .ok (.goto (-23), 3) := by decide +kernel
theorem dX8_readWord_57 : decode cX8_readWord 57 = .ok (.aload_n 0, 1) := by decide +kernel
theorem dX8_readWord_58 : decode cX8_readWord 58 = .ok (.iload_n 1, 1) := by decide +kernel
theorem dX8_readWord_59 : decode cX8_readWord 59 = .ok (.putfield 34, 3) := by decide +kernel
theorem dX8_readWord_62 : decode cX8_readWord 62 = .ok (.iload_n 1, 1) := by decide +kernel
theorem dX8_readWord_63 : decode cX8_readWord 63 = .ok (.aload_n 0, 1) := by decide +kernel
theorem dX8_readWord_64 : decode cX8_readWord 64 = .ok (.getfield 25, 3) := by decide +kernel
theorem dX8_readWord_67 : decode cX8_readWord 67 = .ok (.isub, 1) := by decide +kernel
theorem dX8_readWord_68 : decode cX8_readWord 68 = .ok (.iconst 1, 1) := by decide +kernel
theorem dX8_readWord_69 : decode cX8_readWord 69 = .ok (.if_icmp .ne 19, 3) := by decide +kernel
theorem dX8_readWord_72 : decode cX8_readWord 72 = .ok (.aload_n 0, 1) := by decide +kernel
theorem dX8_readWord_73 : decode cX8_readWord 73 = .ok (.aload_n 0, 1) := by decide +kernel
theorem dX8_readWord_74 : decode cX8_readWord 74 = .ok (.getfield 11, 3) := by decide +kernel
theorem dX8_readWord_77 : decode cX8_readWord 77 = .ok (.aload_n 0, 1) := by decide +kernel
theorem dX8_readWord_78 : decode cX8_readWord 78 = .ok (.getfield 25, 3) := by decide +kernel
theorem dX8_readWord_81 : decode cX8_readWord 81 = .ok (.baload, 1) := by decide +kernel
theorem dX8_readWord_82 : decode cX8_readWord 82 = .ok (.putfield 28, 3) := by decide +kernel
theorem dX8_readWord_85 : decode cX8_readWord 85 = .ok (.goto 62, 3) := by decide +kernel
theorem dX8_readWord_88 : decode cX8_readWord 88 = .ok (.aload_n 0, 1) := by decide +kernel
theorem dX8_readWord_89 : decode cX8_readWord 89 = .ok (.ldc 61, 2) := by decide +kernel
theorem dX8_readWord_91 : decode cX8_readWord 91 = .ok (.invokevirtual 63, 3) := by decide +kernel
theorem dX8_readWord_94 : decode cX8_readWord 94 = .ok (.ifCond .eq 11, 3) := by decide +kernel
theorem dX8_readWord_97 : decode cX8_readWord 97 = .ok (.aload_n 0, 1) := by decide +kernel
theorem dX8_readWord_98 : decode cX8_readWord 98 = .ok (.iconst 2, 1) := by decide +kernel
theorem dX8_readWord_99 : decode cX8_readWord 99 = .ok (.putfield 28, 3) := by decide +kernel
theorem dX8_readWord_102 : decode cX8_readWord 102 = .ok (.goto 45, 3) := by decide +kernel
theorem dX8_readWord_105 : decode cX8_readWord 105 = .ok (.aload_n 0, 1) := by decide +kernel
theorem dX8_readWord_106 : decode cX8_readWord 106 = .ok (.ldc 67, 2) := by decide +kernel
theorem dX8_readWord_108 : decode cX8_readWord 108 = .ok (.invokevirtual 63, 3) := by decide +kernel
theorem dX8_readWord_111 : decode cX8_readWord 111 = .ok (.ifCond .eq 11, 3) := by decide +kernel
theorem dX8_readWord_114 : decode cX8_readWord 114 = .ok (.aload_n 0, 1) := by decide +kernel
theorem dX8_readWord_115 : decode cX8_readWord 115 = .ok (.iconst 3, 1) := by decide +kernel
theorem dX8_readWord_116 : decode cX8_readWord 116 = .ok (.putfield 28, 3) := by decide +kernel
theorem dX8_readWord_119 : decode cX8_readWord 119 = .ok (.goto 28, 3) := by decide +kernel
theorem dX8_readWord_122 : decode cX8_readWord 122 = .ok (.aload_n 0, 1) := by decide +kernel
theorem dX8_readWord_123 : decode cX8_readWord 123 = .ok (.ldc 69, 2) := by decide +kernel
theorem dX8_readWord_125 : decode cX8_readWord 125 = .ok (.invokevirtual 63, 3) := by decide +kernel
theorem dX8_readWord_128 : decode cX8_readWord 128 = .ok (.ifCond .eq 11, 3) := by decide +kernel
theorem dX8_readWord_131 : decode cX8_readWord 131 = .ok (.aload_n 0, 1) := by decide +kernel
theorem dX8_readWord_132 : decode cX8_readWord 132 = .ok (.iconst 4, 1) := by decide +kernel
theorem dX8_readWord_133 : decode cX8_readWord 133 = .ok (.putfield 28, 3) := by decide +kernel
theorem dX8_readWord_136 : decode cX8_readWord 136 = .ok (.goto 11, 3) := by decide +kernel
theorem dX8_readWord_139 : decode cX8_readWord 139 = .ok (.aload_n 0, 1) := by decide +kernel
theorem dX8_readWord_140 : decode cX8_readWord 140 = .ok (.aload_n 0, 1) := by decide +kernel
theorem dX8_readWord_141 : decode cX8_readWord 141 = .ok (.invokevirtual 71, 3) := by decide +kernel
theorem dX8_readWord_144 : decode cX8_readWord 144 = .ok (.putfield 28, 3) := by decide +kernel
theorem dX8_readWord_147 : decode cX8_readWord 147 = .ok (.return_, 1) := by decide +kernel
theorem dX8_moneyWord_0 : decode cX8_moneyWord 0 = .ok (.aload_n 0, 1) := by decide +kernel
theorem dX8_moneyWord_1 : decode cX8_moneyWord 1 = .ok (.getfield 34, 3) := by decide +kernel
theorem dX8_moneyWord_4 : decode cX8_moneyWord 4 = .ok (.aload_n 0, 1) := by decide +kernel
theorem dX8_moneyWord_5 : decode cX8_moneyWord 5 = .ok (.getfield 25, 3) := by decide +kernel
theorem dX8_moneyWord_8 : decode cX8_moneyWord 8 = .ok (.isub, 1) := by decide +kernel
theorem dX8_moneyWord_9 : decode cX8_moneyWord 9 = .ok (.iconst 2, 1) := by decide +kernel
theorem dX8_moneyWord_10 : decode cX8_moneyWord 10 = .ok (.if_icmp .ne 17, 3) := by decide +kernel
theorem dX8_moneyWord_13 : decode cX8_moneyWord 13 = .ok (.aload_n 0, 1) := by decide +kernel
theorem dX8_moneyWord_14 : decode cX8_moneyWord 14 = .ok (.getfield 11, 3) := by decide +kernel
theorem dX8_moneyWord_17 : decode cX8_moneyWord 17 = .ok (.aload_n 0, 1) := by decide +kernel
theorem dX8_moneyWord_18 : decode cX8_moneyWord 18 = .ok (.getfield 25, 3) := by decide +kernel
theorem dX8_moneyWord_21 : decode cX8_moneyWord 21 = .ok (.baload, 1) := by decide +kernel
theorem dX8_moneyWord_22 : decode cX8_moneyWord 22 = .ok (.bipush 109, 2) := by decide +kernel
theorem dX8_moneyWord_24 : decode cX8_moneyWord 24 = .ok (.if_icmp .eq 6, 3) := by decide +kernel
theorem dX8_moneyWord_27 : decode cX8_moneyWord 27 = .ok (.bipush 9, 2) := by decide +kernel
theorem dX8_moneyWord_29 : decode cX8_moneyWord 29 = .ok (.ireturn, 1) := by decide +kernel
theorem dX8_moneyWord_30 : decode cX8_moneyWord 30 = .ok (.aload_n 0, 1) := by decide +kernel
theorem dX8_moneyWord_31 : decode cX8_moneyWord 31 = .ok (.getfield 11, 3) := by decide +kernel
theorem dX8_moneyWord_34 : decode cX8_moneyWord 34 = .ok (.aload_n 0, 1) := by decide +kernel
theorem dX8_moneyWord_35 : decode cX8_moneyWord 35 = .ok (.getfield 25, 3) := by decide +kernel
theorem dX8_moneyWord_38 : decode cX8_moneyWord 38 = .ok (.iconst 1, 1) := by decide +kernel
theorem dX8_moneyWord_39 : decode cX8_moneyWord 39 = .ok (.iadd, 1) := by decide +kernel
theorem dX8_moneyWord_40 : decode cX8_moneyWord 40 = .ok (.baload, 1) := by decide +kernel
theorem dX8_moneyWord_41 : decode cX8_moneyWord 41 = .ok (.bipush 48, 2) := by decide +kernel
theorem dX8_moneyWord_43 : decode cX8_moneyWord 43 = .ok (.isub, 1) := by decide +kernel
theorem dX8_moneyWord_44 : decode cX8_moneyWord 44 = .ok (.istore_n 1, 1) := by decide +kernel
theorem dX8_moneyWord_45 : decode cX8_moneyWord 45 = .ok (.iload_n 1, 1) := by decide +kernel
theorem dX8_moneyWord_46 : decode cX8_moneyWord 46 = .ok (.ifCond .lt 14, 3) := by decide +kernel
theorem dX8_moneyWord_49 : decode cX8_moneyWord 49 = .ok (.iload_n 1, 1) := by decide +kernel
theorem dX8_moneyWord_50 : decode cX8_moneyWord 50 = .ok (.iconst 4, 1) := by decide +kernel
theorem dX8_moneyWord_51 : decode cX8_moneyWord 51 = .ok (.if_icmp .ge 9, 3) := by decide +kernel
theorem dX8_moneyWord_54 : decode cX8_moneyWord 54 = .ok (.iconst 5, 1) := by decide +kernel
theorem dX8_moneyWord_55 : decode cX8_moneyWord 55 = .ok (.iload_n 1, 1) := by decide +kernel
theorem dX8_moneyWord_56 : decode cX8_moneyWord 56 = .ok (.iadd, 1) := by decide +kernel
theorem dX8_moneyWord_57 : decode cX8_moneyWord 57 = .ok (.goto 5, 3) := by decide +kernel
theorem dX8_moneyWord_60 : decode cX8_moneyWord 60 = .ok (.bipush 9, 2) := by decide +kernel
theorem dX8_moneyWord_62 : decode cX8_moneyWord 62 = .ok (.ireturn, 1) := by decide +kernel
theorem dX8_isSpelled_0 : decode cX8_isSpelled 0 = .ok (.aload_n 0, 1) := by decide +kernel
theorem dX8_isSpelled_1 : decode cX8_isSpelled 1 = .ok (.getfield 34, 3) := by decide +kernel
theorem dX8_isSpelled_4 : decode cX8_isSpelled 4 = .ok (.aload_n 0, 1) := by decide +kernel
theorem dX8_isSpelled_5 : decode cX8_isSpelled 5 = .ok (.getfield 25, 3) := by decide +kernel
theorem dX8_isSpelled_8 : decode cX8_isSpelled 8 = .ok (.isub, 1) := by decide +kernel
theorem dX8_isSpelled_9 : decode cX8_isSpelled 9 = .ok (.aload_n 1, 1) := by decide +kernel
theorem dX8_isSpelled_10 : decode cX8_isSpelled 10 = .ok (.invokevirtual 75, 3) := by decide +kernel
theorem dX8_isSpelled_13 : decode cX8_isSpelled 13 = .ok (.if_icmp .eq 5, 3) := by decide +kernel
theorem dX8_isSpelled_16 : decode cX8_isSpelled 16 = .ok (.iconst 0, 1) := by decide +kernel
theorem dX8_isSpelled_17 : decode cX8_isSpelled 17 = .ok (.ireturn, 1) := by decide +kernel
theorem dX8_isSpelled_18 : decode cX8_isSpelled 18 = .ok (.iconst 0, 1) := by decide +kernel
theorem dX8_isSpelled_19 : decode cX8_isSpelled 19 = .ok (.istore_n 2, 1) := by decide +kernel
theorem dX8_isSpelled_20 : decode cX8_isSpelled 20 = .ok (.iload_n 2, 1) := by decide +kernel
theorem dX8_isSpelled_21 : decode cX8_isSpelled 21 = .ok (.aload_n 1, 1) := by decide +kernel
theorem dX8_isSpelled_22 : decode cX8_isSpelled 22 = .ok (.invokevirtual 75, 3) := by decide +kernel
theorem dX8_isSpelled_25 : decode cX8_isSpelled 25 = .ok (.if_icmp .ge 30, 3) := by decide +kernel
theorem dX8_isSpelled_28 : decode cX8_isSpelled 28 = .ok (.aload_n 0, 1) := by decide +kernel
theorem dX8_isSpelled_29 : decode cX8_isSpelled 29 = .ok (.getfield 11, 3) := by decide +kernel
theorem dX8_isSpelled_32 : decode cX8_isSpelled 32 = .ok (.aload_n 0, 1) := by decide +kernel
theorem dX8_isSpelled_33 : decode cX8_isSpelled 33 = .ok (.getfield 25, 3) := by decide +kernel
theorem dX8_isSpelled_36 : decode cX8_isSpelled 36 = .ok (.iload_n 2, 1) := by decide +kernel
theorem dX8_isSpelled_37 : decode cX8_isSpelled 37 = .ok (.iadd, 1) := by decide +kernel
theorem dX8_isSpelled_38 : decode cX8_isSpelled 38 = .ok (.baload, 1) := by decide +kernel
theorem dX8_isSpelled_39 : decode cX8_isSpelled 39 = .ok (.aload_n 1, 1) := by decide +kernel
theorem dX8_isSpelled_40 : decode cX8_isSpelled 40 = .ok (.iload_n 2, 1) := by decide +kernel
theorem dX8_isSpelled_41 : decode cX8_isSpelled 41 = .ok (.invokevirtual 77, 3) := by decide +kernel
theorem dX8_isSpelled_44 : decode cX8_isSpelled 44 = .ok (.if_icmp .eq 5, 3) := by decide +kernel
theorem dX8_isSpelled_47 : decode cX8_isSpelled 47 = .ok (.iconst 0, 1) := by decide +kernel
theorem dX8_isSpelled_48 : decode cX8_isSpelled 48 = .ok (.ireturn, 1) := by decide +kernel
theorem dX8_isSpelled_49 : decode cX8_isSpelled 49 = .ok (.iinc 2 1, 3) := by decide +kernel
theorem dX8_isSpelled_52 : decode cX8_isSpelled 52 = .ok (.goto (-32), 3) := by decide +kernel
theorem dX8_isSpelled_55 : decode cX8_isSpelled 55 = .ok (.iconst 1, 1) := by decide +kernel
theorem dX8_isSpelled_56 : decode cX8_isSpelled 56 = .ok (.ireturn, 1) := by decide +kernel
theorem dX8_readNumber_0 : decode cX8_readNumber 0 = .ok (.aload_n 0, 1) := by decide +kernel
theorem dX8_readNumber_1 : decode cX8_readNumber 1 = .ok (.getfield 25, 3) := by decide +kernel
theorem dX8_readNumber_4 : decode cX8_readNumber 4 = .ok (.istore_n 1, 1) := by decide +kernel
theorem dX8_readNumber_5 : decode cX8_readNumber 5 = .ok (.iconst 0, 1) := by decide +kernel
theorem dX8_readNumber_6 : decode cX8_readNumber 6 = .ok (.istore_n 2, 1) := by decide +kernel
theorem dX8_readNumber_7 : decode cX8_readNumber 7 = .ok (.iload_n 1, 1) := by decide +kernel
theorem dX8_readNumber_8 : decode cX8_readNumber 8 = .ok (.aload_n 0, 1) := by decide +kernel
theorem dX8_readNumber_9 : decode cX8_readNumber 9 = .ok (.getfield 15, 3) := by decide +kernel
theorem dX8_readNumber_12 : decode cX8_readNumber 12 = .ok (.if_icmp .ge 36, 3) := by decide +kernel
theorem dX8_readNumber_15 : decode cX8_readNumber 15 = .ok (.aload_n 0, 1) := by decide +kernel
theorem dX8_readNumber_16 : decode cX8_readNumber 16 = .ok (.getfield 11, 3) := by decide +kernel
theorem dX8_readNumber_19 : decode cX8_readNumber 19 = .ok (.iload_n 1, 1) := by decide +kernel
theorem dX8_readNumber_20 : decode cX8_readNumber 20 = .ok (.baload, 1) := by decide +kernel
theorem dX8_readNumber_21 : decode cX8_readNumber 21 = .ok (.invokestatic 47, 3) := by decide +kernel
theorem dX8_readNumber_24 : decode cX8_readNumber 24 = .ok (.ifCond .eq 24, 3) := by decide +kernel
theorem dX8_readNumber_27 : decode cX8_readNumber 27 = .ok (.iload_n 2, 1) := by decide +kernel
theorem dX8_readNumber_28 : decode cX8_readNumber 28 = .ok (.bipush 10, 2) := by decide +kernel
theorem dX8_readNumber_30 : decode cX8_readNumber 30 = .ok (.imul, 1) := by decide +kernel
theorem dX8_readNumber_31 : decode cX8_readNumber 31 = .ok (.aload_n 0, 1) := by decide +kernel
theorem dX8_readNumber_32 : decode cX8_readNumber 32 = .ok (.getfield 11, 3) := by decide +kernel
theorem dX8_readNumber_35 : decode cX8_readNumber 35 = .ok (.iload_n 1, 1) := by decide +kernel
theorem dX8_readNumber_36 : decode cX8_readNumber 36 = .ok (.baload, 1) := by decide +kernel
theorem dX8_readNumber_37 : decode cX8_readNumber 37 = .ok (.bipush 48, 2) := by decide +kernel
theorem dX8_readNumber_39 : decode cX8_readNumber 39 = .ok (.isub, 1) := by decide +kernel
theorem dX8_readNumber_40 : decode cX8_readNumber 40 = .ok (.iadd, 1) := by decide +kernel
theorem dX8_readNumber_41 : decode cX8_readNumber 41 = .ok (.istore_n 2, 1) := by decide +kernel
theorem dX8_readNumber_42 : decode cX8_readNumber 42 = .ok (.iinc 1 1, 3) := by decide +kernel
theorem dX8_readNumber_45 : decode cX8_readNumber 45 = .ok (.goto (-38), 3) := by decide +kernel
theorem dX8_readNumber_48 : decode cX8_readNumber 48 = .ok (.aload_n 0, 1) := by decide +kernel
theorem dX8_readNumber_49 : decode cX8_readNumber 49 = .ok (.iload_n 1, 1) := by decide +kernel
theorem dX8_readNumber_50 : decode cX8_readNumber 50 = .ok (.putfield 34, 3) := by decide +kernel
theorem dX8_readNumber_53 : decode cX8_readNumber 53 = .ok (.aload_n 0, 1) := by decide +kernel
theorem dX8_readNumber_54 : decode cX8_readNumber 54 = .ok (.iload_n 2, 1) := by decide +kernel
theorem dX8_readNumber_55 : decode cX8_readNumber 55 = .ok (.putfield 31, 3) := by decide +kernel
theorem dX8_readNumber_58 : decode cX8_readNumber 58 = .ok (.aload_n 0, 1) := by decide +kernel
theorem dX8_readNumber_59 : decode cX8_readNumber 59 = .ok (.iload_n 1, 1) := by decide +kernel
theorem dX8_readNumber_60 : decode cX8_readNumber 60 = .ok (.aload_n 0, 1) := by decide +kernel
theorem dX8_readNumber_61 : decode cX8_readNumber 61 = .ok (.getfield 25, 3) := by decide +kernel
theorem dX8_readNumber_64 : decode cX8_readNumber 64 = .ok (.isub, 1) := by decide +kernel
theorem dX8_readNumber_65 : decode cX8_readNumber 65 = .ok (.bipush 9, 2) := by decide +kernel
theorem dX8_readNumber_67 : decode cX8_readNumber 67 = .ok (.if_icmp .gt 7, 3) := by decide +kernel
theorem dX8_readNumber_70 : decode cX8_readNumber 70 = .ok (.iconst 1, 1) := by decide +kernel
theorem dX8_readNumber_71 : decode cX8_readNumber 71 = .ok (.goto 5, 3) := by decide +kernel
theorem dX8_readNumber_74 : decode cX8_readNumber 74 = .ok (.bipush 9, 2) := by decide +kernel
theorem dX8_readNumber_76 : decode cX8_readNumber 76 = .ok (.putfield 28, 3) := by decide +kernel
theorem dX8_readNumber_79 : decode cX8_readNumber 79 = .ok (.return_, 1) := by decide +kernel
theorem dX8_isLetter_0 : decode cX8_isLetter 0 = .ok (.iload_n 0, 1) := by decide +kernel
theorem dX8_isLetter_1 : decode cX8_isLetter 1 = .ok (.bipush 97, 2) := by decide +kernel
theorem dX8_isLetter_3 : decode cX8_isLetter 3 = .ok (.if_icmp .lt 9, 3) := by decide +kernel
theorem dX8_isLetter_6 : decode cX8_isLetter 6 = .ok (.iload_n 0, 1) := by decide +kernel
theorem dX8_isLetter_7 : decode cX8_isLetter 7 = .ok (.bipush 122, 2) := by decide +kernel
theorem dX8_isLetter_9 : decode cX8_isLetter 9 = .ok (.if_icmp .le 15, 3) := by decide +kernel
theorem dX8_isLetter_12 : decode cX8_isLetter 12 = .ok (.iload_n 0, 1) := by decide +kernel
theorem dX8_isLetter_13 : decode cX8_isLetter 13 = .ok (.bipush 65, 2) := by decide +kernel
theorem dX8_isLetter_15 : decode cX8_isLetter 15 = .ok (.if_icmp .lt 13, 3) := by decide +kernel
theorem dX8_isLetter_18 : decode cX8_isLetter 18 = .ok (.iload_n 0, 1) := by decide +kernel
theorem dX8_isLetter_19 : decode cX8_isLetter 19 = .ok (.bipush 90, 2) := by decide +kernel
theorem dX8_isLetter_21 : decode cX8_isLetter 21 = .ok (.if_icmp .gt 7, 3) := by decide +kernel
theorem dX8_isLetter_24 : decode cX8_isLetter 24 = .ok (.iconst 1, 1) := by decide +kernel
theorem dX8_isLetter_25 : decode cX8_isLetter 25 = .ok (.goto 4, 3) := by decide +kernel
theorem dX8_isLetter_28 : decode cX8_isLetter 28 = .ok (.iconst 0, 1) := by decide +kernel
theorem dX8_isLetter_29 : decode cX8_isLetter 29 = .ok (.ireturn, 1) := by decide +kernel
theorem dX8_isFigure_0 : decode cX8_isFigure 0 = .ok (.iload_n 0, 1) := by decide +kernel
theorem dX8_isFigure_1 : decode cX8_isFigure 1 = .ok (.bipush 48, 2) := by decide +kernel
theorem dX8_isFigure_3 : decode cX8_isFigure 3 = .ok (.if_icmp .lt 13, 3) := by decide +kernel
theorem dX8_isFigure_6 : decode cX8_isFigure 6 = .ok (.iload_n 0, 1) := by decide +kernel
theorem dX8_isFigure_7 : decode cX8_isFigure 7 = .ok (.bipush 57, 2) := by decide +kernel
theorem dX8_isFigure_9 : decode cX8_isFigure 9 = .ok (.if_icmp .gt 7, 3) := by decide +kernel
theorem dX8_isFigure_12 : decode cX8_isFigure 12 = .ok (.iconst 1, 1) := by decide +kernel
theorem dX8_isFigure_13 : decode cX8_isFigure 13 = .ok (.goto 4, 3) := by decide +kernel
theorem dX8_isFigure_16 : decode cX8_isFigure 16 = .ok (.iconst 0, 1) := by decide +kernel
theorem dX8_isFigure_17 : decode cX8_isFigure 17 = .ok (.ireturn, 1) := by decide +kernel
theorem dX9_init_0 : decode cX9_init 0 = .ok (.aload_n 0, 1) := by decide +kernel
theorem dX9_init_1 : decode cX9_init 1 = .ok (.invokespecial 3, 3) := by decide +kernel
theorem dX9_init_4 : decode cX9_init 4 = .ok (.aload_n 0, 1) := by decide +kernel
theorem dX9_init_5 : decode cX9_init 5 = .ok (.bipush 6, 2) := by decide +kernel
theorem dX9_init_7 : decode cX9_init 7 = .ok (.anewarray 9, 3) := by decide +kernel
theorem dX9_init_10 : decode cX9_init 10 = .ok (.putfield 11, 3) := by decide +kernel
theorem dX9_init_13 : decode cX9_init 13 = .ok (.aload_n 0, 1) := by decide +kernel
theorem dX9_init_14 : decode cX9_init 14 = .ok (.bipush 6, 2) := by decide +kernel
theorem dX9_init_16 : decode cX9_init 16 = .ok (.newarray .int, 2) := by decide +kernel
theorem dX9_init_18 : decode cX9_init 18 = .ok (.putfield 17, 3) := by decide +kernel
theorem dX9_init_21 : decode cX9_init 21 = .ok (.aload_n 0, 1) := by decide +kernel
theorem dX9_init_22 : decode cX9_init 22 = .ok (.iconst 4, 1) := by decide +kernel
theorem dX9_init_23 : decode cX9_init 23 = .ok (.newarray .int, 2) := by decide +kernel
theorem dX9_init_25 : decode cX9_init 25 = .ok (.putfield 21, 3) := by decide +kernel
theorem dX9_init_28 : decode cX9_init 28 = .ok (.aload_n 0, 1) := by decide +kernel
theorem dX9_init_29 : decode cX9_init 29 = .ok (.iconst 4, 1) := by decide +kernel
theorem dX9_init_30 : decode cX9_init 30 = .ok (.anewarray 24, 3) := by decide +kernel
theorem dX9_init_33 : decode cX9_init 33 = .ok (.putfield 26, 3) := by decide +kernel
theorem dX9_init_36 : decode cX9_init 36 = .ok (.return_, 1) := by decide +kernel
theorem dX9_setMethod_0 : decode cX9_setMethod 0 = .ok (.iload_n 1, 1) := by decide +kernel
theorem dX9_setMethod_1 : decode cX9_setMethod 1 = .ok (.ifCond .lt 23, 3) := by decide +kernel
theorem dX9_setMethod_4 : decode cX9_setMethod 4 = .ok (.iload_n 1, 1) := by decide +kernel
theorem dX9_setMethod_5 : decode cX9_setMethod 5 = .ok (.bipush 6, 2) := by decide +kernel
theorem dX9_setMethod_7 : decode cX9_setMethod 7 = .ok (.if_icmp .ge 17, 3) := by decide +kernel
theorem dX9_setMethod_10 : decode cX9_setMethod 10 = .ok (.aload_n 0, 1) := by decide +kernel
theorem dX9_setMethod_11 : decode cX9_setMethod 11 = .ok (.getfield 11, 3) := by decide +kernel
theorem dX9_setMethod_14 : decode cX9_setMethod 14 = .ok (.iload_n 1, 1) := by decide +kernel
theorem dX9_setMethod_15 : decode cX9_setMethod 15 = .ok (.aload_n 2, 1) := by decide +kernel
theorem dX9_setMethod_16 : decode cX9_setMethod 16 = .ok (.aastore, 1) := by decide +kernel
theorem dX9_setMethod_17 : decode cX9_setMethod 17 = .ok (.aload_n 0, 1) := by decide +kernel
theorem dX9_setMethod_18 : decode cX9_setMethod 18 = .ok (.getfield 17, 3) := by decide +kernel
theorem dX9_setMethod_21 : decode cX9_setMethod 21 = .ok (.iload_n 1, 1) := by decide +kernel
theorem dX9_setMethod_22 : decode cX9_setMethod 22 = .ok (.iconst 0, 1) := by decide +kernel
theorem dX9_setMethod_23 : decode cX9_setMethod 23 = .ok (.iastore, 1) := by decide +kernel
theorem dX9_setMethod_24 : decode cX9_setMethod 24 = .ok (.return_, 1) := by decide +kernel
theorem dX9_codeOf_0 : decode cX9_codeOf 0 = .ok (.iload_n 1, 1) := by decide +kernel
theorem dX9_codeOf_1 : decode cX9_codeOf 1 = .ok (.ifCond .lt 18, 3) := by decide +kernel
theorem dX9_codeOf_4 : decode cX9_codeOf 4 = .ok (.iload_n 1, 1) := by decide +kernel
theorem dX9_codeOf_5 : decode cX9_codeOf 5 = .ok (.bipush 6, 2) := by decide +kernel
theorem dX9_codeOf_7 : decode cX9_codeOf 7 = .ok (.if_icmp .ge 12, 3) := by decide +kernel
theorem dX9_codeOf_10 : decode cX9_codeOf 10 = .ok (.aload_n 0, 1) := by decide +kernel
theorem dX9_codeOf_11 : decode cX9_codeOf 11 = .ok (.getfield 11, 3) := by decide +kernel
theorem dX9_codeOf_14 : decode cX9_codeOf 14 = .ok (.iload_n 1, 1) := by decide +kernel
theorem dX9_codeOf_15 : decode cX9_codeOf 15 = .ok (.aaload, 1) := by decide +kernel
theorem dX9_codeOf_16 : decode cX9_codeOf 16 = .ok (.goto 4, 3) := by decide +kernel
theorem dX9_codeOf_19 : decode cX9_codeOf 19 = .ok (.aconst_null, 1) := by decide +kernel
theorem dX9_codeOf_20 : decode cX9_codeOf 20 = .ok (.areturn, 1) := by decide +kernel
theorem dX9_leavesOf_0 : decode cX9_leavesOf 0 = .ok (.aload_n 0, 1) := by decide +kernel
theorem dX9_leavesOf_1 : decode cX9_leavesOf 1 = .ok (.iload_n 1, 1) := by decide +kernel
theorem dX9_leavesOf_2 : decode cX9_leavesOf 2 = .ok (.invokevirtual 30, 3) := by decide +kernel
theorem dX9_leavesOf_5 : decode cX9_leavesOf 5 = .ok (.astore_n 2, 1) := by decide +kernel
theorem dX9_leavesOf_6 : decode cX9_leavesOf 6 = .ok (.aload_n 2, 1) := by decide +kernel
theorem dX9_leavesOf_7 : decode cX9_leavesOf 7 = .ok (.ifnonnull 7, 3) := by decide +kernel
theorem dX9_leavesOf_10 : decode cX9_leavesOf 10 = .ok (.iconst 0, 1) := by decide +kernel
theorem dX9_leavesOf_11 : decode cX9_leavesOf 11 = .ok (.goto 7, 3) := by decide +kernel
theorem dX9_leavesOf_14 : decode cX9_leavesOf 14 = .ok (.aload_n 2, 1) := by decide +kernel
theorem dX9_leavesOf_15 : decode cX9_leavesOf 15 = .ok (.getfield 34, 3) := by decide +kernel
theorem dX9_leavesOf_18 : decode cX9_leavesOf 18 = .ok (.ireturn, 1) := by decide +kernel
theorem dX9_setActor_0 : decode cX9_setActor 0 = .ok (.iload_n 1, 1) := by decide +kernel
theorem dX9_setActor_1 : decode cX9_setActor 1 = .ok (.ifCond .lt 22, 3) := by decide +kernel
theorem dX9_setActor_4 : decode cX9_setActor 4 = .ok (.iload_n 1, 1) := by decide +kernel
theorem dX9_setActor_5 : decode cX9_setActor 5 = .ok (.iconst 4, 1) := by decide +kernel
theorem dX9_setActor_6 : decode cX9_setActor 6 = .ok (.if_icmp .ge 17, 3) := by decide +kernel
theorem dX9_setActor_9 : decode cX9_setActor 9 = .ok (.aload_n 0, 1) := by decide +kernel
theorem dX9_setActor_10 : decode cX9_setActor 10 = .ok (.getfield 21, 3) := by decide +kernel
theorem dX9_setActor_13 : decode cX9_setActor 13 = .ok (.iload_n 1, 1) := by decide +kernel
theorem dX9_setActor_14 : decode cX9_setActor 14 = .ok (.iload_n 2, 1) := by decide +kernel
theorem dX9_setActor_15 : decode cX9_setActor 15 = .ok (.iastore, 1) := by decide +kernel
theorem dX9_setActor_16 : decode cX9_setActor 16 = .ok (.aload_n 0, 1) := by decide +kernel
theorem dX9_setActor_17 : decode cX9_setActor 17 = .ok (.getfield 26, 3) := by decide +kernel
theorem dX9_setActor_20 : decode cX9_setActor 20 = .ok (.iload_n 1, 1) := by decide +kernel
theorem dX9_setActor_21 : decode cX9_setActor 21 = .ok (.aload_n 3, 1) := by decide +kernel
theorem dX9_setActor_22 : decode cX9_setActor 22 = .ok (.aastore, 1) := by decide +kernel
theorem dX9_setActor_23 : decode cX9_setActor 23 = .ok (.return_, 1) := by decide +kernel
theorem dX9_moneyAtStart_0 : decode cX9_moneyAtStart 0 = .ok (.iload_n 1, 1) := by decide +kernel
theorem dX9_moneyAtStart_1 : decode cX9_moneyAtStart 1 = .ok (.ifCond .lt 17, 3) := by decide +kernel
theorem dX9_moneyAtStart_4 : decode cX9_moneyAtStart 4 = .ok (.iload_n 1, 1) := by decide +kernel
theorem dX9_moneyAtStart_5 : decode cX9_moneyAtStart 5 = .ok (.iconst 4, 1) := by decide +kernel
theorem dX9_moneyAtStart_6 : decode cX9_moneyAtStart 6 = .ok (.if_icmp .ge 12, 3) := by decide +kernel
theorem dX9_moneyAtStart_9 : decode cX9_moneyAtStart 9 = .ok (.aload_n 0, 1) := by decide +kernel
theorem dX9_moneyAtStart_10 : decode cX9_moneyAtStart 10 = .ok (.getfield 21, 3) := by decide +kernel
theorem dX9_moneyAtStart_13 : decode cX9_moneyAtStart 13 = .ok (.iload_n 1, 1) := by decide +kernel
theorem dX9_moneyAtStart_14 : decode cX9_moneyAtStart 14 = .ok (.iaload, 1) := by decide +kernel
theorem dX9_moneyAtStart_15 : decode cX9_moneyAtStart 15 = .ok (.goto 4, 3) := by decide +kernel
theorem dX9_moneyAtStart_18 : decode cX9_moneyAtStart 18 = .ok (.iconst 0, 1) := by decide +kernel
theorem dX9_moneyAtStart_19 : decode cX9_moneyAtStart 19 = .ok (.ireturn, 1) := by decide +kernel
theorem dX9_hookOf_0 : decode cX9_hookOf 0 = .ok (.iload_n 1, 1) := by decide +kernel
theorem dX9_hookOf_1 : decode cX9_hookOf 1 = .ok (.ifCond .lt 17, 3) := by decide +kernel
theorem dX9_hookOf_4 : decode cX9_hookOf 4 = .ok (.iload_n 1, 1) := by decide +kernel
theorem dX9_hookOf_5 : decode cX9_hookOf 5 = .ok (.iconst 4, 1) := by decide +kernel
theorem dX9_hookOf_6 : decode cX9_hookOf 6 = .ok (.if_icmp .ge 12, 3) := by decide +kernel
theorem dX9_hookOf_9 : decode cX9_hookOf 9 = .ok (.aload_n 0, 1) := by decide +kernel
theorem dX9_hookOf_10 : decode cX9_hookOf 10 = .ok (.getfield 26, 3) := by decide +kernel
theorem dX9_hookOf_13 : decode cX9_hookOf 13 = .ok (.iload_n 1, 1) := by decide +kernel
theorem dX9_hookOf_14 : decode cX9_hookOf 14 = .ok (.aaload, 1) := by decide +kernel
theorem dX9_hookOf_15 : decode cX9_hookOf 15 = .ok (.goto 4, 3) := by decide +kernel
theorem dX9_hookOf_18 : decode cX9_hookOf 18 = .ok (.aconst_null, 1) := by decide +kernel
theorem dX9_hookOf_19 : decode cX9_hookOf 19 = .ok (.areturn, 1) := by decide +kernel
theorem dX9_watch_0 : decode cX9_watch 0 = .ok (.aload_n 0, 1) := by decide +kernel
theorem dX9_watch_1 : decode cX9_watch 1 = .ok (.iconst 1, 1) := by decide +kernel
theorem dX9_watch_2 : decode cX9_watch 2 = .ok (.putfield 38, 3) := by decide +kernel
theorem dX9_watch_5 : decode cX9_watch 5 = .ok (.aload_n 0, 1) := by decide +kernel
theorem dX9_watch_6 : decode cX9_watch 6 = .ok (.iconst 0, 1) := by decide +kernel
theorem dX9_watch_7 : decode cX9_watch 7 = .ok (.putfield 42, 3) := by decide +kernel
theorem dX9_watch_10 : decode cX9_watch 10 = .ok (.return_, 1) := by decide +kernel
theorem dX9_stopWatching_0 : decode cX9_stopWatching 0 = .ok (.aload_n 0, 1) := by decide +kernel
theorem dX9_stopWatching_1 : decode cX9_stopWatching 1 = .ok (.iconst 0, 1) := by decide +kernel
theorem dX9_stopWatching_2 : decode cX9_stopWatching 2 = .ok (.putfield 38, 3) := by decide +kernel
theorem dX9_stopWatching_5 : decode cX9_stopWatching 5 = .ok (.aload_n 0, 1) := by decide +kernel
theorem dX9_stopWatching_6 : decode cX9_stopWatching 6 = .ok (.getfield 42, 3) := by decide +kernel
theorem dX9_stopWatching_9 : decode cX9_stopWatching 9 = .ok (.ireturn, 1) := by decide +kernel
theorem dX9_meet_0 : decode cX9_meet 0 = .ok (.aload_n 0, 1) := by decide +kernel
theorem dX9_meet_1 : decode cX9_meet 1 = .ok (.getfield 38, 3) := by decide +kernel
theorem dX9_meet_4 : decode cX9_meet 4 = .ok (.ifCond .eq 39, 3) := by decide +kernel
theorem dX9_meet_7 : decode cX9_meet 7 = .ok (.iload_n 1, 1) := by decide +kernel
theorem dX9_meet_8 : decode cX9_meet 8 = .ok (.ifCond .lt 35, 3) := by decide +kernel
theorem dX9_meet_11 : decode cX9_meet 11 = .ok (.iload_n 1, 1) := by decide +kernel
theorem dX9_meet_12 : decode cX9_meet 12 = .ok (.bipush 6, 2) := by decide +kernel
theorem dX9_meet_14 : decode cX9_meet 14 = .ok (.if_icmp .ge 29, 3) := by decide +kernel
theorem dX9_meet_17 : decode cX9_meet 17 = .ok (.aload_n 0, 1) := by decide +kernel
theorem dX9_meet_18 : decode cX9_meet 18 = .ok (.iload_n 1, 1) := by decide +kernel
theorem dX9_meet_19 : decode cX9_meet 19 = .ok (.iload_n 2, 1) := by decide +kernel
theorem dX9_meet_20 : decode cX9_meet 20 = .ok (.invokevirtual 45, 3) := by decide +kernel
theorem dX9_meet_23 : decode cX9_meet 23 = .ok (.ifCond .ne 20, 3) := by decide +kernel
theorem dX9_meet_26 : decode cX9_meet 26 = .ok (.aload_n 0, 1) := by decide +kernel
theorem dX9_meet_27 : decode cX9_meet 27 = .ok (.getfield 17, 3) := by decide +kernel
theorem dX9_meet_30 : decode cX9_meet 30 = .ok (.iload_n 1, 1) := by decide +kernel
theorem dX9_meet_31 : decode cX9_meet 31 = .ok (.dup2, 1) := by decide +kernel
theorem dX9_meet_32 : decode cX9_meet 32 = .ok (.iaload, 1) := by decide +kernel
theorem dX9_meet_33 : decode cX9_meet 33 = .ok (.iconst 1, 1) := by decide +kernel
theorem dX9_meet_34 : decode cX9_meet 34 = .ok (.iload_n 2, 1) := by decide +kernel
theorem dX9_meet_35 : decode cX9_meet 35 = .ok (.ishl, 1) := by decide +kernel
theorem dX9_meet_36 : decode cX9_meet 36 = .ok (.ior, 1) := by decide +kernel
theorem dX9_meet_37 : decode cX9_meet 37 = .ok (.iastore, 1) := by decide +kernel
theorem dX9_meet_38 : decode cX9_meet 38 = .ok (.aload_n 0, 1) := by decide +kernel
theorem dX9_meet_39 : decode cX9_meet 39 = .ok (.iconst 1, 1) := by decide +kernel
theorem dX9_meet_40 : decode cX9_meet 40 = .ok (.putfield 42, 3) := by decide +kernel
theorem dX9_meet_43 : decode cX9_meet 43 = .ok (.return_, 1) := by decide +kernel
theorem dX9_hasMet_0 : decode cX9_hasMet 0 = .ok (.iload_n 1, 1) := by decide +kernel
theorem dX9_hasMet_1 : decode cX9_hasMet 1 = .ok (.ifCond .lt 27, 3) := by decide +kernel
theorem dX9_hasMet_4 : decode cX9_hasMet 4 = .ok (.iload_n 1, 1) := by decide +kernel
theorem dX9_hasMet_5 : decode cX9_hasMet 5 = .ok (.bipush 6, 2) := by decide +kernel
theorem dX9_hasMet_7 : decode cX9_hasMet 7 = .ok (.if_icmp .ge 21, 3) := by decide +kernel
theorem dX9_hasMet_10 : decode cX9_hasMet 10 = .ok (.aload_n 0, 1) := by decide +kernel
theorem dX9_hasMet_11 : decode cX9_hasMet 11 = .ok (.getfield 17, 3) := by decide +kernel
theorem dX9_hasMet_14 : decode cX9_hasMet 14 = .ok (.iload_n 1, 1) := by decide +kernel
theorem dX9_hasMet_15 : decode cX9_hasMet 15 = .ok (.iaload, 1) := by decide +kernel
theorem dX9_hasMet_16 : decode cX9_hasMet 16 = .ok (.iload_n 2, 1) := by decide +kernel
theorem dX9_hasMet_17 : decode cX9_hasMet 17 = .ok (.ishr, 1) := by decide +kernel
theorem dX9_hasMet_18 : decode cX9_hasMet 18 = .ok (.iconst 1, 1) := by decide +kernel
theorem dX9_hasMet_19 : decode cX9_hasMet 19 = .ok (.iand, 1) := by decide +kernel
theorem dX9_hasMet_20 : decode cX9_hasMet 20 = .ok (.iconst 1, 1) := by decide +kernel
theorem dX9_hasMet_21 : decode cX9_hasMet 21 = .ok (.if_icmp .ne 7, 3) := by decide +kernel
theorem dX9_hasMet_24 : decode cX9_hasMet 24 = .ok (.iconst 1, 1) := by decide +kernel
theorem dX9_hasMet_25 : decode cX9_hasMet 25 = .ok (.goto 4, 3) := by decide +kernel
theorem dX9_hasMet_28 : decode cX9_hasMet 28 = .ok (.iconst 0, 1) := by decide +kernel
theorem dX9_hasMet_29 : decode cX9_hasMet 29 = .ok (.ireturn, 1) := by decide +kernel
theorem dX9_unmeetAll_0 : decode cX9_unmeetAll 0 = .ok (.aload_n 0, 1) := by decide +kernel
theorem dX9_unmeetAll_1 : decode cX9_unmeetAll 1 = .ok (.getfield 17, 3) := by decide +kernel
theorem dX9_unmeetAll_4 : decode cX9_unmeetAll 4 = .ok (.iconst 0, 1) := by decide +kernel
theorem dX9_unmeetAll_5 : decode cX9_unmeetAll 5 = .ok (.invokestatic 49, 3) := by decide +kernel
theorem dX9_unmeetAll_8 : decode cX9_unmeetAll 8 = .ok (.return_, 1) := by decide +kernel
theorem dX10_init_0 : decode cX10_init 0 = .ok (.aload_n 0, 1) := by decide +kernel
theorem dX10_init_1 : decode cX10_init 1 = .ok (.invokespecial 1, 3) := by decide +kernel
theorem dX10_init_4 : decode cX10_init 4 = .ok (.aload_n 0, 1) := by decide +kernel
theorem dX10_init_5 : decode cX10_init 5 = .ok (.new 7, 3) := by decide +kernel
theorem dX10_init_8 : decode cX10_init 8 = .ok (.dup, 1) := by decide +kernel
theorem dX10_init_9 : decode cX10_init 9 = .ok (.invokespecial 9, 3) := by decide +kernel
theorem dX10_init_12 : decode cX10_init 12 = .ok (.putfield 10, 3) := by decide +kernel
theorem dX10_init_15 : decode cX10_init 15 = .ok (.aload_n 0, 1) := by decide +kernel
theorem dX10_init_16 : decode cX10_init 16 = .ok (.new 16, 3) := by decide +kernel
theorem dX10_init_19 : decode cX10_init 19 = .ok (.dup, 1) := by decide +kernel
theorem dX10_init_20 : decode cX10_init 20 = .ok (.aload_n 0, 1) := by decide +kernel
theorem dX10_init_21 : decode cX10_init 21 = .ok (.getfield 10, 3) := by decide +kernel
theorem dX10_init_24 : decode cX10_init 24 = .ok (.invokespecial 18, 3) := by decide +kernel
theorem dX10_init_27 : decode cX10_init 27 = .ok (.putfield 21, 3) := by decide +kernel
theorem dX10_init_30 : decode cX10_init 30 = .ok (.aload_n 0, 1) := by decide +kernel
theorem dX10_init_31 : decode cX10_init 31 = .ok (.new 25, 3) := by decide +kernel
theorem dX10_init_34 : decode cX10_init 34 = .ok (.dup, 1) := by decide +kernel
theorem dX10_init_35 : decode cX10_init 35 = .ok (.invokespecial 27, 3) := by decide +kernel
theorem dX10_init_38 : decode cX10_init 38 = .ok (.putfield 28, 3) := by decide +kernel
theorem dX10_init_41 : decode cX10_init 41 = .ok (.aload_n 0, 1) := by decide +kernel
theorem dX10_init_42 : decode cX10_init 42 = .ok (.new 32, 3) := by decide +kernel
theorem dX10_init_45 : decode cX10_init 45 = .ok (.dup, 1) := by decide +kernel
theorem dX10_init_46 : decode cX10_init 46 = .ok (.aload_n 0, 1) := by decide +kernel
theorem dX10_init_47 : decode cX10_init 47 = .ok (.getfield 28, 3) := by decide +kernel
theorem dX10_init_50 : decode cX10_init 50 = .ok (.invokespecial 34, 3) := by decide +kernel
theorem dX10_init_53 : decode cX10_init 53 = .ok (.putfield 37, 3) := by decide +kernel
theorem dX10_init_56 : decode cX10_init 56 = .ok (.aload_n 0, 1) := by decide +kernel
theorem dX10_init_57 : decode cX10_init 57 = .ok (.new 41, 3) := by decide +kernel
theorem dX10_init_60 : decode cX10_init 60 = .ok (.dup, 1) := by decide +kernel
theorem dX10_init_61 : decode cX10_init 61 = .ok (.aload_n 0, 1) := by decide +kernel
theorem dX10_init_62 : decode cX10_init 62 = .ok (.getfield 37, 3) := by decide +kernel
theorem dX10_init_65 : decode cX10_init 65 = .ok (.invokespecial 43, 3) := by decide +kernel
theorem dX10_init_68 : decode cX10_init 68 = .ok (.putfield 46, 3) := by decide +kernel
theorem dX10_init_71 : decode cX10_init 71 = .ok (.aload_n 0, 1) := by decide +kernel
theorem dX10_init_72 : decode cX10_init 72 = .ok (.new 50, 3) := by decide +kernel
theorem dX10_init_75 : decode cX10_init 75 = .ok (.dup, 1) := by decide +kernel
theorem dX10_init_76 : decode cX10_init 76 = .ok (.aload_n 0, 1) := by decide +kernel
theorem dX10_init_77 : decode cX10_init 77 = .ok (.getfield 46, 3) := by decide +kernel
theorem dX10_init_80 : decode cX10_init 80 = .ok (.aload_n 0, 1) := by decide +kernel
theorem dX10_init_81 : decode cX10_init 81 = .ok (.getfield 28, 3) := by decide +kernel
theorem dX10_init_84 : decode cX10_init 84 = .ok (.invokespecial 52, 3) := by decide +kernel
theorem dX10_init_87 : decode cX10_init 87 = .ok (.putfield 55, 3) := by decide +kernel
theorem dX10_init_90 : decode cX10_init 90 = .ok (.aload_n 0, 1) := by decide +kernel
theorem dX10_init_91 : decode cX10_init 91 = .ok (.new 59, 3) := by decide +kernel
theorem dX10_init_94 : decode cX10_init 94 = .ok (.dup, 1) := by decide +kernel
theorem dX10_init_95 : decode cX10_init 95 = .ok (.bipush 20, 2) := by decide +kernel
theorem dX10_init_97 : decode cX10_init 97 = .ok (.invokespecial 61, 3) := by decide +kernel
theorem dX10_init_100 : decode cX10_init 100 = .ok (.putfield 64, 3) := by decide +kernel
theorem dX10_init_103 : decode cX10_init 103 = .ok (.aload_n 0, 1) := by decide +kernel
theorem dX10_init_104 : decode cX10_init 104 = .ok (.bipush 8, 2) := by decide +kernel
theorem dX10_init_106 : decode cX10_init 106 = .ok (.anewarray 68, 3) := by decide +kernel
theorem dX10_init_109 : decode cX10_init 109 = .ok (.putfield 70, 3) := by decide +kernel
theorem dX10_init_112 : decode cX10_init 112 = .ok (.aload_n 0, 1) := by decide +kernel
theorem dX10_init_113 : decode cX10_init 113 = .ok (.bipush 12, 2) := by decide +kernel
theorem dX10_init_115 : decode cX10_init 115 = .ok (.newarray .int, 2) := by decide +kernel
theorem dX10_init_117 : decode cX10_init 117 = .ok (.putfield 74, 3) := by decide +kernel
theorem dX10_init_120 : decode cX10_init 120 = .ok (.aload_n 0, 1) := by decide +kernel
theorem dX10_init_121 : decode cX10_init 121 = .ok (.bipush 19, 2) := by decide +kernel
theorem dX10_init_123 : decode cX10_init 123 = .ok (.newarray .int, 2) := by decide +kernel
theorem dX10_init_125 : decode cX10_init 125 = .ok (.putfield 78, 3) := by decide +kernel
theorem dX10_init_128 : decode cX10_init 128 = .ok (.aload_n 0, 1) := by decide +kernel
theorem dX10_init_129 : decode cX10_init 129 = .ok (.iconst 0, 1) := by decide +kernel
theorem dX10_init_130 : decode cX10_init 130 = .ok (.putfield 81, 3) := by decide +kernel
theorem dX10_init_133 : decode cX10_init 133 = .ok (.aload_n 0, 1) := by decide +kernel
theorem dX10_init_134 : decode cX10_init 134 = .ok (.iconst 0, 1) := by decide +kernel
theorem dX10_init_135 : decode cX10_init 135 = .ok (.putfield 85, 3) := by decide +kernel
theorem dX10_init_138 : decode cX10_init 138 = .ok (.return_, 1) := by decide +kernel
theorem dX10_feed_0 : decode cX10_feed 0 = .ok (.iload_n 1, 1) := by decide +kernel
theorem dX10_feed_1 : decode cX10_feed 1 = .ok (.invokestatic 88, 3) := by decide +kernel
theorem dX10_feed_4 : decode cX10_feed 4 = .ok (.ifCond .eq 25, 3) := by decide +kernel
theorem dX10_feed_7 : decode cX10_feed 7 = .ok (.iload_n 2, 1) := by decide +kernel
theorem dX10_feed_8 : decode cX10_feed 8 = .ok (.invokestatic 88, 3) := by decide +kernel
theorem dX10_feed_11 : decode cX10_feed 11 = .ok (.ifCond .eq 18, 3) := by decide +kernel
theorem dX10_feed_14 : decode cX10_feed 14 = .ok (.iload_n 3, 1) := by decide +kernel
theorem dX10_feed_15 : decode cX10_feed 15 = .ok (.invokestatic 88, 3) := by decide +kernel
theorem dX10_feed_18 : decode cX10_feed 18 = .ok (.ifCond .eq 11, 3) := by decide +kernel
theorem dX10_feed_21 : decode cX10_feed 21 = .ok (.iload 4, 2) := by decide +kernel
theorem dX10_feed_23 : decode cX10_feed 23 = .ok (.invokestatic 88, 3) := by decide +kernel
theorem dX10_feed_26 : decode cX10_feed 26 = .ok (.ifCond .ne 5, 3) := by decide +kernel
theorem dX10_feed_29 : decode cX10_feed 29 = .ok (.iconst (-1), 1) := by decide +kernel
theorem dX10_feed_30 : decode cX10_feed 30 = .ok (.ireturn, 1) := by decide +kernel
theorem dX10_feed_31 : decode cX10_feed 31 = .ok (.aload_n 0, 1) := by decide +kernel
theorem dX10_feed_32 : decode cX10_feed 32 = .ok (.getfield 10, 3) := by decide +kernel
theorem dX10_feed_35 : decode cX10_feed 35 = .ok (.bipush 16, 2) := by decide +kernel
theorem dX10_feed_37 : decode cX10_feed 37 = .ok (.invokevirtual 92, 3) := by decide +kernel
theorem dX10_feed_40 : decode cX10_feed 40 = .ok (.ifCond .ne 6, 3) := by decide +kernel
theorem dX10_feed_43 : decode cX10_feed 43 = .ok (.bipush (-3), 2) := by decide +kernel
theorem dX10_feed_45 : decode cX10_feed 45 = .ok (.ireturn, 1) := by decide +kernel
theorem dX10_feed_46 : decode cX10_feed 46 = .ok (.aload_n 0, 1) := by decide +kernel
theorem dX10_feed_47 : decode cX10_feed 47 = .ok (.getfield 10, 3) := by decide +kernel
theorem dX10_feed_50 : decode cX10_feed 50 = .ok (.iload_n 1, 1) := by decide +kernel
theorem dX10_feed_51 : decode cX10_feed 51 = .ok (.invokevirtual 95, 3) := by decide +kernel
theorem dX10_feed_54 : decode cX10_feed 54 = .ok (.aload_n 0, 1) := by decide +kernel
theorem dX10_feed_55 : decode cX10_feed 55 = .ok (.getfield 10, 3) := by decide +kernel
theorem dX10_feed_58 : decode cX10_feed 58 = .ok (.iload_n 2, 1) := by decide +kernel
theorem dX10_feed_59 : decode cX10_feed 59 = .ok (.invokevirtual 95, 3) := by decide +kernel
theorem dX10_feed_62 : decode cX10_feed 62 = .ok (.aload_n 0, 1) := by decide +kernel
theorem dX10_feed_63 : decode cX10_feed 63 = .ok (.getfield 10, 3) := by decide +kernel
theorem dX10_feed_66 : decode cX10_feed 66 = .ok (.iload_n 3, 1) := by decide +kernel
theorem dX10_feed_67 : decode cX10_feed 67 = .ok (.invokevirtual 95, 3) := by decide +kernel
theorem dX10_feed_70 : decode cX10_feed 70 = .ok (.aload_n 0, 1) := by decide +kernel
theorem dX10_feed_71 : decode cX10_feed 71 = .ok (.getfield 10, 3) := by decide +kernel
theorem dX10_feed_74 : decode cX10_feed 74 = .ok (.iload 4, 2) := by decide +kernel
theorem dX10_feed_76 : decode cX10_feed 76 = .ok (.invokevirtual 95, 3) := by decide +kernel
theorem dX10_feed_79 : decode cX10_feed 79 = .ok (.aload_n 0, 1) := by decide +kernel
theorem dX10_feed_80 : decode cX10_feed 80 = .ok (.getfield 10, 3) := by decide +kernel
theorem dX10_feed_83 : decode cX10_feed 83 = .ok (.invokevirtual 98, 3) := by decide +kernel
theorem dX10_feed_86 : decode cX10_feed 86 = .ok (.ireturn, 1) := by decide +kernel
theorem dX10_cut_0 : decode cX10_cut 0 = .ok (.iload_n 1, 1) := by decide +kernel
theorem dX10_cut_1 : decode cX10_cut 1 = .ok (.ifCond .lt 14, 3) := by decide +kernel
theorem dX10_cut_4 : decode cX10_cut 4 = .ok (.iload_n 1, 1) := by decide +kernel
theorem dX10_cut_5 : decode cX10_cut 5 = .ok (.aload_n 0, 1) := by decide +kernel
theorem dX10_cut_6 : decode cX10_cut 6 = .ok (.getfield 10, 3) := by decide +kernel
theorem dX10_cut_9 : decode cX10_cut 9 = .ok (.invokevirtual 98, 3) := by decide +kernel
theorem dX10_cut_12 : decode cX10_cut 12 = .ok (.if_icmp .le 5, 3) := by decide +kernel
theorem dX10_cut_15 : decode cX10_cut 15 = .ok (.iconst (-1), 1) := by decide +kernel
theorem dX10_cut_16 : decode cX10_cut 16 = .ok (.ireturn, 1) := by decide +kernel
theorem dX10_cut_17 : decode cX10_cut 17 = .ok (.aload_n 0, 1) := by decide +kernel
theorem dX10_cut_18 : decode cX10_cut 18 = .ok (.getfield 10, 3) := by decide +kernel
theorem dX10_cut_21 : decode cX10_cut 21 = .ok (.iload_n 1, 1) := by decide +kernel
theorem dX10_cut_22 : decode cX10_cut 22 = .ok (.invokevirtual 102, 3) := by decide +kernel
theorem dX10_cut_25 : decode cX10_cut 25 = .ok (.aload_n 0, 1) := by decide +kernel
theorem dX10_cut_26 : decode cX10_cut 26 = .ok (.getfield 10, 3) := by decide +kernel
theorem dX10_cut_29 : decode cX10_cut 29 = .ok (.invokevirtual 98, 3) := by decide +kernel
theorem dX10_cut_32 : decode cX10_cut 32 = .ok (.ireturn, 1) := by decide +kernel
theorem dX10_method_0 : decode cX10_method 0 = .ok (.iload_n 1, 1) := by decide +kernel
theorem dX10_method_1 : decode cX10_method 1 = .ok (.iconst 0, 1) := by decide +kernel
theorem dX10_method_2 : decode cX10_method 2 = .ok (.iconst 5, 1) := by decide +kernel
theorem dX10_method_3 : decode cX10_method 3 = .ok (.invokestatic 105, 3) := by decide +kernel
theorem dX10_method_6 : decode cX10_method 6 = .ok (.ifCond .ne 5, 3) := by decide +kernel
theorem dX10_method_9 : decode cX10_method 9 = .ok (.iconst (-1), 1) := by decide +kernel
theorem dX10_method_10 : decode cX10_method 10 = .ok (.ireturn, 1) := by decide +kernel
theorem dX10_method_11 : decode cX10_method 11 = .ok (.aload_n 0, 1) := by decide +kernel
theorem dX10_method_12 : decode cX10_method 12 = .ok (.getfield 21, 3) := by decide +kernel
theorem dX10_method_15 : decode cX10_method 15 = .ok (.invokevirtual 109, 3) := by decide +kernel
theorem dX10_method_18 : decode cX10_method 18 = .ok (.astore_n 2, 1) := by decide +kernel
theorem dX10_method_19 : decode cX10_method 19 = .ok (.bipush (-10), 2) := by decide +kernel
theorem dX10_method_21 : decode cX10_method 21 = .ok (.aload_n 0, 1) := by decide +kernel
theorem dX10_method_22 : decode cX10_method 22 = .ok (.getfield 10, 3) := by decide +kernel
theorem dX10_method_25 : decode cX10_method 25 = .ok (.invokevirtual 113, 3) := by decide +kernel
theorem dX10_method_28 : decode cX10_method 28 = .ok (.isub, 1) := by decide +kernel
theorem dX10_method_29 : decode cX10_method 29 = .ok (.istore_n 3, 1) := by decide +kernel
theorem dX10_method_30 : decode cX10_method 30 = .ok (.aload_n 0, 1) := by decide +kernel
theorem dX10_method_31 : decode cX10_method 31 = .ok (.getfield 10, 3) := by decide +kernel
theorem dX10_method_34 : decode cX10_method 34 = .ok (.aload_n 0, 1) := by decide +kernel
theorem dX10_method_35 : decode cX10_method 35 = .ok (.getfield 10, 3) := by decide +kernel
theorem dX10_method_38 : decode cX10_method 38 = .ok (.invokevirtual 98, 3) := by decide +kernel
theorem dX10_method_41 : decode cX10_method 41 = .ok (.invokevirtual 102, 3) := by decide +kernel
theorem dX10_method_44 : decode cX10_method 44 = .ok (.aload_n 2, 1) := by decide +kernel
theorem dX10_method_45 : decode cX10_method 45 = .ok (.ifnonnull 5, 3) := by decide +kernel
theorem dX10_method_48 : decode cX10_method 48 = .ok (.iload_n 3, 1) := by decide +kernel
theorem dX10_method_49 : decode cX10_method 49 = .ok (.ireturn, 1) := by decide +kernel
theorem dX10_method_50 : decode cX10_method 50 = .ok (.aload_n 0, 1) := by decide +kernel
theorem dX10_method_51 : decode cX10_method 51 = .ok (.getfield 28, 3) := by decide +kernel
theorem dX10_method_54 : decode cX10_method 54 = .ok (.iload_n 1, 1) := by decide +kernel
theorem dX10_method_55 : decode cX10_method 55 = .ok (.aload_n 2, 1) := by decide +kernel
theorem dX10_method_56 : decode cX10_method 56 = .ok (.invokevirtual 116, 3) := by decide +kernel
theorem dX10_method_59 : decode cX10_method 59 = .ok (.aload_n 2, 1) := by decide +kernel
theorem dX10_method_60 : decode cX10_method 60 = .ok (.getfield 120, 3) := by decide +kernel
theorem dX10_method_63 : decode cX10_method 63 = .ok (.ireturn, 1) := by decide +kernel
theorem dX10_rule_0 : decode cX10_rule 0 = .ok (.aload_n 0, 1) := by decide +kernel
theorem dX10_rule_1 : decode cX10_rule 1 = .ok (.getfield 21, 3) := by decide +kernel
theorem dX10_rule_4 : decode cX10_rule 4 = .ok (.invokevirtual 123, 3) := by decide +kernel
theorem dX10_rule_7 : decode cX10_rule 7 = .ok (.astore_n 1, 1) := by decide +kernel
theorem dX10_rule_8 : decode cX10_rule 8 = .ok (.bipush (-10), 2) := by decide +kernel
theorem dX10_rule_10 : decode cX10_rule 10 = .ok (.aload_n 0, 1) := by decide +kernel
theorem dX10_rule_11 : decode cX10_rule 11 = .ok (.getfield 10, 3) := by decide +kernel
theorem dX10_rule_14 : decode cX10_rule 14 = .ok (.invokevirtual 113, 3) := by decide +kernel
theorem dX10_rule_17 : decode cX10_rule 17 = .ok (.isub, 1) := by decide +kernel
theorem dX10_rule_18 : decode cX10_rule 18 = .ok (.istore_n 2, 1) := by decide +kernel
theorem dX10_rule_19 : decode cX10_rule 19 = .ok (.aload_n 0, 1) := by decide +kernel
theorem dX10_rule_20 : decode cX10_rule 20 = .ok (.getfield 10, 3) := by decide +kernel
theorem dX10_rule_23 : decode cX10_rule 23 = .ok (.aload_n 0, 1) := by decide +kernel
theorem dX10_rule_24 : decode cX10_rule 24 = .ok (.getfield 10, 3) := by decide +kernel
theorem dX10_rule_27 : decode cX10_rule 27 = .ok (.invokevirtual 98, 3) := by decide +kernel
theorem dX10_rule_30 : decode cX10_rule 30 = .ok (.invokevirtual 102, 3) := by decide +kernel
theorem dX10_rule_33 : decode cX10_rule 33 = .ok (.aload_n 1, 1) := by decide +kernel
theorem dX10_rule_34 : decode cX10_rule 34 = .ok (.ifnonnull 5, 3) := by decide +kernel
theorem dX10_rule_37 : decode cX10_rule 37 = .ok (.iload_n 2, 1) := by decide +kernel
theorem dX10_rule_38 : decode cX10_rule 38 = .ok (.ireturn, 1) := by decide +kernel
theorem dX10_rule_39 : decode cX10_rule 39 = .ok (.aload_n 0, 1) := by decide +kernel
theorem dX10_rule_40 : decode cX10_rule 40 = .ok (.getfield 81, 3) := by decide +kernel
theorem dX10_rule_43 : decode cX10_rule 43 = .ok (.bipush 8, 2) := by decide +kernel
theorem dX10_rule_45 : decode cX10_rule 45 = .ok (.if_icmp .lt 6, 3) := by decide +kernel
theorem dX10_rule_48 : decode cX10_rule 48 = .ok (.bipush (-3), 2) := by decide +kernel
theorem dX10_rule_50 : decode cX10_rule 50 = .ok (.ireturn, 1) := by decide +kernel
theorem dX10_rule_51 : decode cX10_rule 51 = .ok (.aload_n 0, 1) := by decide +kernel
theorem dX10_rule_52 : decode cX10_rule 52 = .ok (.getfield 70, 3) := by decide +kernel
theorem dX10_rule_55 : decode cX10_rule 55 = .ok (.aload_n 0, 1) := by decide +kernel
theorem dX10_rule_56 : decode cX10_rule 56 = .ok (.getfield 81, 3) := by decide +kernel
theorem dX10_rule_59 : decode cX10_rule 59 = .ok (.aload_n 1, 1) := by decide +kernel
theorem dX10_rule_60 : decode cX10_rule 60 = .ok (.aastore, 1) := by decide +kernel
theorem dX10_rule_61 : decode cX10_rule 61 = .ok (.aload_n 0, 1) := by decide +kernel
theorem dX10_rule_62 : decode cX10_rule 62 = .ok (.dup, 1) := by decide +kernel
theorem dX10_rule_63 : decode cX10_rule 63 = .ok (.getfield 81, 3) := by decide +kernel
theorem dX10_rule_66 : decode cX10_rule 66 = .ok (.iconst 1, 1) := by decide +kernel
theorem dX10_rule_67 : decode cX10_rule 67 = .ok (.iadd, 1) := by decide +kernel
theorem dX10_rule_68 : decode cX10_rule 68 = .ok (.putfield 81, 3) := by decide +kernel
theorem dX10_rule_71 : decode cX10_rule 71 = .ok (.aload_n 0, 1) := by decide +kernel
theorem dX10_rule_72 : decode cX10_rule 72 = .ok (.getfield 81, 3) := by decide +kernel
theorem dX10_rule_75 : decode cX10_rule 75 = .ok (.iconst 1, 1) := by decide +kernel
theorem dX10_rule_76 : decode cX10_rule 76 = .ok (.isub, 1) := by decide +kernel
theorem dX10_rule_77 : decode cX10_rule 77 = .ok (.ireturn, 1) := by decide +kernel
theorem dX10_actor_0 : decode cX10_actor 0 = .ok (.iload_n 1, 1) := by decide +kernel
theorem dX10_actor_1 : decode cX10_actor 1 = .ok (.iconst 0, 1) := by decide +kernel
theorem dX10_actor_2 : decode cX10_actor 2 = .ok (.iconst 3, 1) := by decide +kernel
theorem dX10_actor_3 : decode cX10_actor 3 = .ok (.invokestatic 105, 3) := by decide +kernel
theorem dX10_actor_6 : decode cX10_actor 6 = .ok (.ifCond .eq 13, 3) := by decide +kernel
theorem dX10_actor_9 : decode cX10_actor 9 = .ok (.iload_n 2, 1) := by decide +kernel
theorem dX10_actor_10 : decode cX10_actor 10 = .ok (.iconst 0, 1) := by decide +kernel
theorem dX10_actor_11 : decode cX10_actor 11 = .ok (.ldc 126, 2) := by decide +kernel
theorem dX10_actor_13 : decode cX10_actor 13 = .ok (.invokestatic 105, 3) := by decide +kernel
theorem dX10_actor_16 : decode cX10_actor 16 = .ok (.ifCond .ne 5, 3) := by decide +kernel
theorem dX10_actor_19 : decode cX10_actor 19 = .ok (.iconst (-1), 1) := by decide +kernel
theorem dX10_actor_20 : decode cX10_actor 20 = .ok (.ireturn, 1) := by decide +kernel
theorem dX10_actor_21 : decode cX10_actor 21 = .ok (.iload_n 3, 1) := by decide +kernel
theorem dX10_actor_22 : decode cX10_actor 22 = .ok (.iconst (-1), 1) := by decide +kernel
theorem dX10_actor_23 : decode cX10_actor 23 = .ok (.if_icmp .ne 16, 3) := by decide +kernel
theorem dX10_actor_26 : decode cX10_actor 26 = .ok (.aload_n 0, 1) := by decide +kernel
theorem dX10_actor_27 : decode cX10_actor 27 = .ok (.getfield 28, 3) := by decide +kernel
theorem dX10_actor_30 : decode cX10_actor 30 = .ok (.iload_n 1, 1) := by decide +kernel
theorem dX10_actor_31 : decode cX10_actor 31 = .ok (.iload_n 2, 1) := by decide +kernel
theorem dX10_actor_32 : decode cX10_actor 32 = .ok (.aconst_null, 1) := by decide +kernel
theorem dX10_actor_33 : decode cX10_actor 33 = .ok (.invokevirtual 127, 3) := by decide +kernel
theorem dX10_actor_36 : decode cX10_actor 36 = .ok (.goto 40, 3) := by decide +kernel
theorem dX10_actor_39 : decode cX10_actor 39 = .ok (.iload_n 1, 1) := by decide +kernel
theorem dX10_actor_40 : decode cX10_actor 40 = .ok (.iload_n 3, 1) := by decide +kernel
theorem dX10_actor_41 : decode cX10_actor 41 = .ok (.iload 4, 2) := by decide +kernel
theorem dX10_actor_43 : decode cX10_actor 43 = .ok (.iconst 0, 1) := by decide +kernel
theorem dX10_actor_44 : decode cX10_actor 44 = .ok (.invokestatic 131, 3) := by decide +kernel
theorem dX10_actor_47 : decode cX10_actor 47 = .ok (.ifCond .eq 27, 3) := by decide +kernel
theorem dX10_actor_50 : decode cX10_actor 50 = .ok (.aload_n 0, 1) := by decide +kernel
theorem dX10_actor_51 : decode cX10_actor 51 = .ok (.getfield 28, 3) := by decide +kernel
theorem dX10_actor_54 : decode cX10_actor 54 = .ok (.iload_n 1, 1) := by decide +kernel
theorem dX10_actor_55 : decode cX10_actor 55 = .ok (.iload_n 2, 1) := by decide +kernel
theorem dX10_actor_56 : decode cX10_actor 56 = .ok (.new 135, 3) := by decide +kernel
theorem dX10_actor_59 : decode cX10_actor 59 = .ok (.dup, 1) := by decide +kernel
theorem dX10_actor_60 : decode cX10_actor 60 = .ok (.iload_n 1, 1) := by decide +kernel
theorem dX10_actor_61 : decode cX10_actor 61 = .ok (.iload_n 3, 1) := by decide +kernel
theorem dX10_actor_62 : decode cX10_actor 62 = .ok (.iload 4, 2) := by decide +kernel
theorem dX10_actor_64 : decode cX10_actor 64 = .ok (.iconst 0, 1) := by decide +kernel
theorem dX10_actor_65 : decode cX10_actor 65 = .ok (.invokespecial 137, 3) := by decide +kernel
theorem dX10_actor_68 : decode cX10_actor 68 = .ok (.invokevirtual 127, 3) := by decide +kernel
theorem dX10_actor_71 : decode cX10_actor 71 = .ok (.goto 5, 3) := by decide +kernel
theorem dX10_actor_74 : decode cX10_actor 74 = .ok (.iconst (-1), 1) := by decide +kernel
theorem dX10_actor_75 : decode cX10_actor 75 = .ok (.ireturn, 1) := by decide +kernel
theorem dX10_actor_76 : decode cX10_actor 76 = .ok (.aload_n 0, 1) := by decide +kernel
theorem dX10_actor_77 : decode cX10_actor 77 = .ok (.invokevirtual 140, 3) := by decide +kernel
theorem dX10_actor_80 : decode cX10_actor 80 = .ok (.iconst 1, 1) := by decide +kernel
theorem dX10_actor_81 : decode cX10_actor 81 = .ok (.ireturn, 1) := by decide +kernel
theorem dX10_call_0 : decode cX10_call 0 = .ok (.iload_n 1, 1) := by decide +kernel
theorem dX10_call_1 : decode cX10_call 1 = .ok (.iload_n 2, 1) := by decide +kernel
theorem dX10_call_2 : decode cX10_call 2 = .ok (.iload_n 3, 1) := by decide +kernel
theorem dX10_call_3 : decode cX10_call 3 = .ok (.iload 4, 2) := by decide +kernel
theorem dX10_call_5 : decode cX10_call 5 = .ok (.invokestatic 131, 3) := by decide +kernel
theorem dX10_call_8 : decode cX10_call 8 = .ok (.ifCond .ne 5, 3) := by decide +kernel
theorem dX10_call_11 : decode cX10_call 11 = .ok (.iconst (-1), 1) := by decide +kernel
theorem dX10_call_12 : decode cX10_call 12 = .ok (.ireturn, 1) := by decide +kernel
theorem dX10_call_13 : decode cX10_call 13 = .ok (.aload_n 0, 1) := by decide +kernel
theorem dX10_call_14 : decode cX10_call 14 = .ok (.getfield 37, 3) := by decide +kernel
theorem dX10_call_17 : decode cX10_call 17 = .ok (.aload_n 0, 1) := by decide +kernel
theorem dX10_call_18 : decode cX10_call 18 = .ok (.getfield 78, 3) := by decide +kernel
theorem dX10_call_21 : decode cX10_call 21 = .ok (.iconst 0, 1) := by decide +kernel
theorem dX10_call_22 : decode cX10_call 22 = .ok (.invokevirtual 143, 3) := by decide +kernel
theorem dX10_call_25 : decode cX10_call 25 = .ok (.aload_n 0, 1) := by decide +kernel
theorem dX10_call_26 : decode cX10_call 26 = .ok (.getfield 37, 3) := by decide +kernel
theorem dX10_call_29 : decode cX10_call 29 = .ok (.new 135, 3) := by decide +kernel
theorem dX10_call_32 : decode cX10_call 32 = .ok (.dup, 1) := by decide +kernel
theorem dX10_call_33 : decode cX10_call 33 = .ok (.iload_n 1, 1) := by decide +kernel
theorem dX10_call_34 : decode cX10_call 34 = .ok (.iload_n 2, 1) := by decide +kernel
theorem dX10_call_35 : decode cX10_call 35 = .ok (.iload_n 3, 1) := by decide +kernel
theorem dX10_call_36 : decode cX10_call 36 = .ok (.iload 4, 2) := by decide +kernel
theorem dX10_call_38 : decode cX10_call 38 = .ok (.invokespecial 137, 3) := by decide +kernel
theorem dX10_call_41 : decode cX10_call 41 = .ok (.invokevirtual 147, 3) := by decide +kernel
theorem dX10_call_44 : decode cX10_call 44 = .ok (.istore 5, 2) := by decide +kernel
theorem dX10_call_46 : decode cX10_call 46 = .ok (.aload_n 0, 1) := by decide +kernel
theorem dX10_call_47 : decode cX10_call 47 = .ok (.getfield 37, 3) := by decide +kernel
theorem dX10_call_50 : decode cX10_call 50 = .ok (.aload_n 0, 1) := by decide +kernel
theorem dX10_call_51 : decode cX10_call 51 = .ok (.getfield 78, 3) := by decide +kernel
theorem dX10_call_54 : decode cX10_call 54 = .ok (.iconst 0, 1) := by decide +kernel
theorem dX10_call_55 : decode cX10_call 55 = .ok (.invokevirtual 151, 3) := by decide +kernel
theorem dX10_call_58 : decode cX10_call 58 = .ok (.aload_n 0, 1) := by decide +kernel
theorem dX10_call_59 : decode cX10_call 59 = .ok (.dup, 1) := by decide +kernel
theorem dX10_call_60 : decode cX10_call 60 = .ok (.getfield 85, 3) := by decide +kernel
theorem dX10_call_63 : decode cX10_call 63 = .ok (.iconst 1, 1) := by decide +kernel
theorem dX10_call_64 : decode cX10_call 64 = .ok (.iadd, 1) := by decide +kernel
theorem dX10_call_65 : decode cX10_call 65 = .ok (.putfield 85, 3) := by decide +kernel
theorem dX10_call_68 : decode cX10_call 68 = .ok (.iload 5, 2) := by decide +kernel
theorem dX10_call_70 : decode cX10_call 70 = .ok (.ifCond .eq 7, 3) := by decide +kernel
theorem dX10_call_73 : decode cX10_call 73 = .ok (.iconst 1, 1) := by decide +kernel
theorem dX10_call_74 : decode cX10_call 74 = .ok (.goto 4, 3) := by decide +kernel
theorem dX10_call_77 : decode cX10_call 77 = .ok (.iconst 0, 1) := by decide +kernel
theorem dX10_call_78 : decode cX10_call 78 = .ok (.ireturn, 1) := by decide +kernel
theorem dX10_start_0 : decode cX10_start 0 = .ok (.aload_n 0, 1) := by decide +kernel
theorem dX10_start_1 : decode cX10_start 1 = .ok (.getfield 85, 3) := by decide +kernel
theorem dX10_start_4 : decode cX10_start 4 = .ok (.istore_n 1, 1) := by decide +kernel
theorem dX10_start_5 : decode cX10_start 5 = .ok (.aload_n 0, 1) := by decide +kernel
theorem dX10_start_6 : decode cX10_start 6 = .ok (.invokevirtual 140, 3) := by decide +kernel
theorem dX10_start_9 : decode cX10_start 9 = .ok (.iload_n 1, 1) := by decide +kernel
theorem dX10_start_10 : decode cX10_start 10 = .ok (.ireturn, 1) := by decide +kernel
theorem dX10_state_0 : decode cX10_state 0 = .ok (.iload_n 1, 1) := by decide +kernel
theorem dX10_state_1 : decode cX10_state 1 = .ok (.iconst 0, 1) := by decide +kernel
theorem dX10_state_2 : decode cX10_state 2 = .ok (.bipush 18, 2) := by decide +kernel
theorem dX10_state_4 : decode cX10_state 4 = .ok (.invokestatic 105, 3) := by decide +kernel
theorem dX10_state_7 : decode cX10_state 7 = .ok (.ifCond .eq 12, 3) := by decide +kernel
theorem dX10_state_10 : decode cX10_state 10 = .ok (.aload_n 0, 1) := by decide +kernel
theorem dX10_state_11 : decode cX10_state 11 = .ok (.getfield 78, 3) := by decide +kernel
theorem dX10_state_14 : decode cX10_state 14 = .ok (.iload_n 1, 1) := by decide +kernel
theorem dX10_state_15 : decode cX10_state 15 = .ok (.iaload, 1) := by decide +kernel
theorem dX10_state_16 : decode cX10_state 16 = .ok (.goto 4, 3) := by decide +kernel
theorem dX10_state_19 : decode cX10_state 19 = .ok (.iconst (-1), 1) := by decide +kernel
theorem dX10_state_20 : decode cX10_state 20 = .ok (.ireturn, 1) := by decide +kernel
theorem dX10_holds_0 : decode cX10_holds 0 = .ok (.aload_n 0, 1) := by decide +kernel
theorem dX10_holds_1 : decode cX10_holds 1 = .ok (.iload_n 1, 1) := by decide +kernel
theorem dX10_holds_2 : decode cX10_holds 2 = .ok (.invokevirtual 154, 3) := by decide +kernel
theorem dX10_holds_5 : decode cX10_holds 5 = .ok (.ifCond .ne 5, 3) := by decide +kernel
theorem dX10_holds_8 : decode cX10_holds 8 = .ok (.iconst (-1), 1) := by decide +kernel
theorem dX10_holds_9 : decode cX10_holds 9 = .ok (.ireturn, 1) := by decide +kernel
theorem dX10_holds_10 : decode cX10_holds 10 = .ok (.aload_n 0, 1) := by decide +kernel
theorem dX10_holds_11 : decode cX10_holds 11 = .ok (.getfield 37, 3) := by decide +kernel
theorem dX10_holds_14 : decode cX10_holds 14 = .ok (.aload_n 0, 1) := by decide +kernel
theorem dX10_holds_15 : decode cX10_holds 15 = .ok (.getfield 78, 3) := by decide +kernel
theorem dX10_holds_18 : decode cX10_holds 18 = .ok (.iconst 0, 1) := by decide +kernel
theorem dX10_holds_19 : decode cX10_holds 19 = .ok (.invokevirtual 143, 3) := by decide +kernel
theorem dX10_holds_22 : decode cX10_holds 22 = .ok (.aload_n 0, 1) := by decide +kernel
theorem dX10_holds_23 : decode cX10_holds 23 = .ok (.getfield 37, 3) := by decide +kernel
theorem dX10_holds_26 : decode cX10_holds 26 = .ok (.aload_n 0, 1) := by decide +kernel
theorem dX10_holds_27 : decode cX10_holds 27 = .ok (.getfield 70, 3) := by decide +kernel
theorem dX10_holds_30 : decode cX10_holds 30 = .ok (.iload_n 1, 1) := by decide +kernel
theorem dX10_holds_31 : decode cX10_holds 31 = .ok (.aaload, 1) := by decide +kernel
theorem dX10_holds_32 : decode cX10_holds 32 = .ok (.invokevirtual 157, 3) := by decide +kernel
theorem dX10_holds_35 : decode cX10_holds 35 = .ok (.ifCond .eq 7, 3) := by decide +kernel
theorem dX10_holds_38 : decode cX10_holds 38 = .ok (.iconst 1, 1) := by decide +kernel
theorem dX10_holds_39 : decode cX10_holds 39 = .ok (.goto 4, 3) := by decide +kernel
theorem dX10_holds_42 : decode cX10_holds 42 = .ok (.iconst 0, 1) := by decide +kernel
theorem dX10_holds_43 : decode cX10_holds 43 = .ok (.ireturn, 1) := by decide +kernel
theorem dX10_choice_0 : decode cX10_choice 0 = .ok (.iload_n 1, 1) := by decide +kernel
theorem dX10_choice_1 : decode cX10_choice 1 = .ok (.iload_n 2, 1) := by decide +kernel
theorem dX10_choice_2 : decode cX10_choice 2 = .ok (.iload_n 3, 1) := by decide +kernel
theorem dX10_choice_3 : decode cX10_choice 3 = .ok (.iload 4, 2) := by decide +kernel
theorem dX10_choice_5 : decode cX10_choice 5 = .ok (.invokestatic 131, 3) := by decide +kernel
theorem dX10_choice_8 : decode cX10_choice 8 = .ok (.ifCond .ne 5, 3) := by decide +kernel
theorem dX10_choice_11 : decode cX10_choice 11 = .ok (.iconst (-1), 1) := by decide +kernel
theorem dX10_choice_12 : decode cX10_choice 12 = .ok (.ireturn, 1) := by decide +kernel
theorem dX10_choice_13 : decode cX10_choice 13 = .ok (.aload_n 0, 1) := by decide +kernel
theorem dX10_choice_14 : decode cX10_choice 14 = .ok (.getfield 46, 3) := by decide +kernel
theorem dX10_choice_17 : decode cX10_choice 17 = .ok (.invokevirtual 161, 3) := by decide +kernel
theorem dX10_choice_20 : decode cX10_choice 20 = .ok (.bipush 30, 2) := by decide +kernel
theorem dX10_choice_22 : decode cX10_choice 22 = .ok (.if_icmp .lt 6, 3) := by decide +kernel
theorem dX10_choice_25 : decode cX10_choice 25 = .ok (.bipush (-3), 2) := by decide +kernel
theorem dX10_choice_27 : decode cX10_choice 27 = .ok (.ireturn, 1) := by decide +kernel
theorem dX10_choice_28 : decode cX10_choice 28 = .ok (.aload_n 0, 1) := by decide +kernel
theorem dX10_choice_29 : decode cX10_choice 29 = .ok (.getfield 46, 3) := by decide +kernel
theorem dX10_choice_32 : decode cX10_choice 32 = .ok (.new 135, 3) := by decide +kernel
theorem dX10_choice_35 : decode cX10_choice 35 = .ok (.dup, 1) := by decide +kernel
theorem dX10_choice_36 : decode cX10_choice 36 = .ok (.iload_n 1, 1) := by decide +kernel
theorem dX10_choice_37 : decode cX10_choice 37 = .ok (.iload_n 2, 1) := by decide +kernel
theorem dX10_choice_38 : decode cX10_choice 38 = .ok (.iload_n 3, 1) := by decide +kernel
theorem dX10_choice_39 : decode cX10_choice 39 = .ok (.iload 4, 2) := by decide +kernel
theorem dX10_choice_41 : decode cX10_choice 41 = .ok (.invokespecial 137, 3) := by decide +kernel
theorem dX10_choice_44 : decode cX10_choice 44 = .ok (.invokevirtual 164, 3) := by decide +kernel
theorem dX10_choice_47 : decode cX10_choice 47 = .ok (.aload_n 0, 1) := by decide +kernel
theorem dX10_choice_48 : decode cX10_choice 48 = .ok (.getfield 46, 3) := by decide +kernel
theorem dX10_choice_51 : decode cX10_choice 51 = .ok (.invokevirtual 161, 3) := by decide +kernel
theorem dX10_choice_54 : decode cX10_choice 54 = .ok (.iconst 1, 1) := by decide +kernel
theorem dX10_choice_55 : decode cX10_choice 55 = .ok (.isub, 1) := by decide +kernel
theorem dX10_choice_56 : decode cX10_choice 56 = .ok (.ireturn, 1) := by decide +kernel
theorem dX10_fresh_0 : decode cX10_fresh 0 = .ok (.aload_n 0, 1) := by decide +kernel
theorem dX10_fresh_1 : decode cX10_fresh 1 = .ok (.getfield 46, 3) := by decide +kernel
theorem dX10_fresh_4 : decode cX10_fresh 4 = .ok (.invokevirtual 161, 3) := by decide +kernel
theorem dX10_fresh_7 : decode cX10_fresh 7 = .ok (.istore_n 1, 1) := by decide +kernel
theorem dX10_fresh_8 : decode cX10_fresh 8 = .ok (.aload_n 0, 1) := by decide +kernel
theorem dX10_fresh_9 : decode cX10_fresh 9 = .ok (.getfield 46, 3) := by decide +kernel
theorem dX10_fresh_12 : decode cX10_fresh 12 = .ok (.invokevirtual 168, 3) := by decide +kernel
theorem dX10_fresh_15 : decode cX10_fresh 15 = .ok (.aload_n 0, 1) := by decide +kernel
theorem dX10_fresh_16 : decode cX10_fresh 16 = .ok (.getfield 64, 3) := by decide +kernel
theorem dX10_fresh_19 : decode cX10_fresh 19 = .ok (.invokevirtual 171, 3) := by decide +kernel
theorem dX10_fresh_22 : decode cX10_fresh 22 = .ok (.aload_n 0, 1) := by decide +kernel
theorem dX10_fresh_23 : decode cX10_fresh 23 = .ok (.getfield 55, 3) := by decide +kernel
theorem dX10_fresh_26 : decode cX10_fresh 26 = .ok (.invokevirtual 174, 3) := by decide +kernel
theorem dX10_fresh_29 : decode cX10_fresh 29 = .ok (.iload_n 1, 1) := by decide +kernel
theorem dX10_fresh_30 : decode cX10_fresh 30 = .ok (.ireturn, 1) := by decide +kernel
theorem dX10_every_0 : decode cX10_every 0 = .ok (.aload_n 0, 1) := by decide +kernel
theorem dX10_every_1 : decode cX10_every 1 = .ok (.iload_n 1, 1) := by decide +kernel
theorem dX10_every_2 : decode cX10_every 2 = .ok (.invokevirtual 154, 3) := by decide +kernel
theorem dX10_every_5 : decode cX10_every 5 = .ok (.ifCond .eq 13, 3) := by decide +kernel
theorem dX10_every_8 : decode cX10_every 8 = .ok (.iload_n 2, 1) := by decide +kernel
theorem dX10_every_9 : decode cX10_every 9 = .ok (.iconst 1, 1) := by decide +kernel
theorem dX10_every_10 : decode cX10_every 10 = .ok (.bipush 12, 2) := by decide +kernel
theorem dX10_every_12 : decode cX10_every 12 = .ok (.invokestatic 105, 3) := by decide +kernel
theorem dX10_every_15 : decode cX10_every 15 = .ok (.ifCond .ne 5, 3) := by decide +kernel
theorem dX10_every_18 : decode cX10_every 18 = .ok (.iconst (-1), 1) := by decide +kernel
theorem dX10_every_19 : decode cX10_every 19 = .ok (.ireturn, 1) := by decide +kernel
theorem dX10_every_20 : decode cX10_every 20 = .ok (.aload_n 0, 1) := by decide +kernel
theorem dX10_every_21 : decode cX10_every 21 = .ok (.getfield 64, 3) := by decide +kernel
theorem dX10_every_24 : decode cX10_every 24 = .ok (.invokevirtual 177, 3) := by decide +kernel
theorem dX10_every_27 : decode cX10_every 27 = .ok (.ifCond .eq 6, 3) := by decide +kernel
theorem dX10_every_30 : decode cX10_every 30 = .ok (.bipush (-3), 2) := by decide +kernel
theorem dX10_every_32 : decode cX10_every 32 = .ok (.ireturn, 1) := by decide +kernel
theorem dX10_every_33 : decode cX10_every 33 = .ok (.aload_n 0, 1) := by decide +kernel
theorem dX10_every_34 : decode cX10_every 34 = .ok (.getfield 46, 3) := by decide +kernel
theorem dX10_every_37 : decode cX10_every 37 = .ok (.aload_n 0, 1) := by decide +kernel
theorem dX10_every_38 : decode cX10_every 38 = .ok (.getfield 70, 3) := by decide +kernel
theorem dX10_every_41 : decode cX10_every 41 = .ok (.iload_n 1, 1) := by decide +kernel
theorem dX10_every_42 : decode cX10_every 42 = .ok (.aaload, 1) := by decide +kernel
theorem dX10_every_43 : decode cX10_every 43 = .ok (.iload_n 2, 1) := by decide +kernel
theorem dX10_every_44 : decode cX10_every 44 = .ok (.aload_n 0, 1) := by decide +kernel
theorem dX10_every_45 : decode cX10_every 45 = .ok (.getfield 74, 3) := by decide +kernel
theorem dX10_every_48 : decode cX10_every 48 = .ok (.invokevirtual 181, 3) := by decide +kernel
theorem dX10_every_51 : decode cX10_every 51 = .ok (.istore_n 3, 1) := by decide +kernel
theorem dX10_every_52 : decode cX10_every 52 = .ok (.iload_n 3, 1) := by decide +kernel
theorem dX10_every_53 : decode cX10_every 53 = .ok (.bipush (-2), 2) := by decide +kernel
theorem dX10_every_55 : decode cX10_every 55 = .ok (.if_icmp .ne 6, 3) := by decide +kernel
theorem dX10_every_58 : decode cX10_every 58 = .ok (.bipush (-2), 2) := by decide +kernel
theorem dX10_every_60 : decode cX10_every 60 = .ok (.ireturn, 1) := by decide +kernel
theorem dX10_every_61 : decode cX10_every 61 = .ok (.iload_n 3, 1) := by decide +kernel
theorem dX10_every_62 : decode cX10_every 62 = .ok (.ifCond .ne 7, 3) := by decide +kernel
theorem dX10_every_65 : decode cX10_every 65 = .ok (.iconst 1, 1) := by decide +kernel
theorem dX10_every_66 : decode cX10_every 66 = .ok (.goto 18, 3) := by decide +kernel
theorem dX10_every_69 : decode cX10_every 69 = .ok (.bipush (-10), 2) := by decide +kernel
theorem dX10_every_71 : decode cX10_every 71 = .ok (.aload_n 0, 1) := by decide +kernel
theorem dX10_every_72 : decode cX10_every 72 = .ok (.getfield 64, 3) := by decide +kernel
theorem dX10_every_75 : decode cX10_every 75 = .ok (.aload_n 0, 1) := by decide +kernel
theorem dX10_every_76 : decode cX10_every 76 = .ok (.getfield 74, 3) := by decide +kernel
theorem dX10_every_79 : decode cX10_every 79 = .ok (.iload_n 3, 1) := by decide +kernel
theorem dX10_every_80 : decode cX10_every 80 = .ok (.invokevirtual 185, 3) := by decide +kernel
theorem dX10_every_83 : decode cX10_every 83 = .ok (.isub, 1) := by decide +kernel
theorem dX10_every_84 : decode cX10_every 84 = .ok (.ireturn, 1) := by decide +kernel
theorem dX10_states_0 : decode cX10_states 0 = .ok (.aload_n 0, 1) := by decide +kernel
theorem dX10_states_1 : decode cX10_states 1 = .ok (.getfield 46, 3) := by decide +kernel
theorem dX10_states_4 : decode cX10_states 4 = .ok (.invokevirtual 189, 3) := by decide +kernel
theorem dX10_states_7 : decode cX10_states 7 = .ok (.ireturn, 1) := by decide +kernel
theorem dX10_draw_0 : decode cX10_draw 0 = .ok (.aload_n 0, 1) := by decide +kernel
theorem dX10_draw_1 : decode cX10_draw 1 = .ok (.iload_n 1, 1) := by decide +kernel
theorem dX10_draw_2 : decode cX10_draw 2 = .ok (.invokevirtual 154, 3) := by decide +kernel
theorem dX10_draw_5 : decode cX10_draw 5 = .ok (.ifCond .eq 24, 3) := by decide +kernel
theorem dX10_draw_8 : decode cX10_draw 8 = .ok (.iload_n 3, 1) := by decide +kernel
theorem dX10_draw_9 : decode cX10_draw 9 = .ok (.iconst 1, 1) := by decide +kernel
theorem dX10_draw_10 : decode cX10_draw 10 = .ok (.sipush 200, 3) := by decide +kernel
theorem dX10_draw_13 : decode cX10_draw 13 = .ok (.invokestatic 105, 3) := by decide +kernel
theorem dX10_draw_16 : decode cX10_draw 16 = .ok (.ifCond .eq 13, 3) := by decide +kernel
theorem dX10_draw_19 : decode cX10_draw 19 = .ok (.aload_n 0, 1) := by decide +kernel
theorem dX10_draw_20 : decode cX10_draw 20 = .ok (.getfield 46, 3) := by decide +kernel
theorem dX10_draw_23 : decode cX10_draw 23 = .ok (.invokevirtual 161, 3) := by decide +kernel
theorem dX10_draw_26 : decode cX10_draw 26 = .ok (.ifCond .ne 5, 3) := by decide +kernel
theorem dX10_draw_29 : decode cX10_draw 29 = .ok (.iconst (-1), 1) := by decide +kernel
theorem dX10_draw_30 : decode cX10_draw 30 = .ok (.ireturn, 1) := by decide +kernel
theorem dX10_draw_31 : decode cX10_draw 31 = .ok (.aload_n 0, 1) := by decide +kernel
theorem dX10_draw_32 : decode cX10_draw 32 = .ok (.getfield 64, 3) := by decide +kernel
theorem dX10_draw_35 : decode cX10_draw 35 = .ok (.invokevirtual 177, 3) := by decide +kernel
theorem dX10_draw_38 : decode cX10_draw 38 = .ok (.ifCond .eq 6, 3) := by decide +kernel
theorem dX10_draw_41 : decode cX10_draw 41 = .ok (.bipush (-3), 2) := by decide +kernel
theorem dX10_draw_43 : decode cX10_draw 43 = .ok (.ireturn, 1) := by decide +kernel
theorem dX10_draw_44 : decode cX10_draw 44 = .ok (.aload_n 0, 1) := by decide +kernel
theorem dX10_draw_45 : decode cX10_draw 45 = .ok (.getfield 55, 3) := by decide +kernel
theorem dX10_draw_48 : decode cX10_draw 48 = .ok (.aload_n 0, 1) := by decide +kernel
theorem dX10_draw_49 : decode cX10_draw 49 = .ok (.getfield 70, 3) := by decide +kernel
theorem dX10_draw_52 : decode cX10_draw 52 = .ok (.iload_n 1, 1) := by decide +kernel
theorem dX10_draw_53 : decode cX10_draw 53 = .ok (.aaload, 1) := by decide +kernel
theorem dX10_draw_54 : decode cX10_draw 54 = .ok (.iload_n 2, 1) := by decide +kernel
theorem dX10_draw_55 : decode cX10_draw 55 = .ok (.iload_n 3, 1) := by decide +kernel
theorem dX10_draw_56 : decode cX10_draw 56 = .ok (.aload_n 0, 1) := by decide +kernel
theorem dX10_draw_57 : decode cX10_draw 57 = .ok (.getfield 74, 3) := by decide +kernel
theorem dX10_draw_60 : decode cX10_draw 60 = .ok (.invokevirtual 192, 3) := by decide +kernel
theorem dX10_draw_63 : decode cX10_draw 63 = .ok (.istore 4, 2) := by decide +kernel
theorem dX10_draw_65 : decode cX10_draw 65 = .ok (.iload 4, 2) := by decide +kernel
theorem dX10_draw_67 : decode cX10_draw 67 = .ok (.bipush (-2), 2) := by decide +kernel
theorem dX10_draw_69 : decode cX10_draw 69 = .ok (.if_icmp .ne 6, 3) := by decide +kernel
theorem dX10_draw_72 : decode cX10_draw 72 = .ok (.bipush (-2), 2) := by decide +kernel
theorem dX10_draw_74 : decode cX10_draw 74 = .ok (.ireturn, 1) := by decide +kernel
theorem dX10_draw_75 : decode cX10_draw 75 = .ok (.aload_n 0, 1) := by decide +kernel
theorem dX10_draw_76 : decode cX10_draw 76 = .ok (.getfield 64, 3) := by decide +kernel
theorem dX10_draw_79 : decode cX10_draw 79 = .ok (.aload_n 0, 1) := by decide +kernel
theorem dX10_draw_80 : decode cX10_draw 80 = .ok (.getfield 74, 3) := by decide +kernel
theorem dX10_draw_83 : decode cX10_draw 83 = .ok (.aload_n 0, 1) := by decide +kernel
theorem dX10_draw_84 : decode cX10_draw 84 = .ok (.getfield 46, 3) := by decide +kernel
theorem dX10_draw_87 : decode cX10_draw 87 = .ok (.aload_n 0, 1) := by decide +kernel
theorem dX10_draw_88 : decode cX10_draw 88 = .ok (.getfield 74, 3) := by decide +kernel
theorem dX10_draw_91 : decode cX10_draw 91 = .ok (.iload 4, 2) := by decide +kernel
theorem dX10_draw_93 : decode cX10_draw 93 = .ok (.aload_n 0, 1) := by decide +kernel
theorem dX10_draw_94 : decode cX10_draw 94 = .ok (.getfield 70, 3) := by decide +kernel
theorem dX10_draw_97 : decode cX10_draw 97 = .ok (.iload_n 1, 1) := by decide +kernel
theorem dX10_draw_98 : decode cX10_draw 98 = .ok (.aaload, 1) := by decide +kernel
theorem dX10_draw_99 : decode cX10_draw 99 = .ok (.invokevirtual 196, 3) := by decide +kernel
theorem dX10_draw_102 : decode cX10_draw 102 = .ok (.invokevirtual 185, 3) := by decide +kernel
theorem dX10_draw_105 : decode cX10_draw 105 = .ok (.ireturn, 1) := by decide +kernel
theorem dX10_row_0 : decode cX10_row 0 = .ok (.iload_n 3, 1) := by decide +kernel
theorem dX10_row_1 : decode cX10_row 1 = .ok (.iconst 1, 1) := by decide +kernel
theorem dX10_row_2 : decode cX10_row 2 = .ok (.bipush 12, 2) := by decide +kernel
theorem dX10_row_4 : decode cX10_row 4 = .ok (.invokestatic 105, 3) := by decide +kernel
theorem dX10_row_7 : decode cX10_row 7 = .ok (.ifCond .ne 5, 3) := by decide +kernel
theorem dX10_row_10 : decode cX10_row 10 = .ok (.iconst (-1), 1) := by decide +kernel
theorem dX10_row_11 : decode cX10_row 11 = .ok (.ireturn, 1) := by decide +kernel
theorem dX10_row_12 : decode cX10_row 12 = .ok (.iconst 0, 1) := by decide +kernel
theorem dX10_row_13 : decode cX10_row 13 = .ok (.istore 4, 2) := by decide +kernel
theorem dX10_row_15 : decode cX10_row 15 = .ok (.iload 4, 2) := by decide +kernel
theorem dX10_row_17 : decode cX10_row 17 = .ok (.iload_n 3, 1) := by decide +kernel
theorem dX10_row_18 : decode cX10_row 18 = .ok (.if_icmp .ge 45, 3) := by decide +kernel
theorem dX10_row_21 : decode cX10_row 21 = .ok (.aload_n 0, 1) := by decide +kernel
theorem dX10_row_22 : decode cX10_row 22 = .ok (.getfield 74, 3) := by decide +kernel
theorem dX10_row_25 : decode cX10_row 25 = .ok (.iload 4, 2) := by decide +kernel
theorem dX10_row_27 : decode cX10_row 27 = .ok (.lload_n 1, 1) := by decide +kernel
theorem dX10_row_28 : decode cX10_row 28 = .ok (.iconst 5, 1) := by decide +kernel
theorem dX10_row_29 : decode cX10_row 29 = .ok (.iload 4, 2) := by decide +kernel
theorem dX10_row_31 : decode cX10_row 31 = .ok (.imul, 1) := by decide +kernel
theorem dX10_row_32 : decode cX10_row 32 = .ok (.lushr, 1) := by decide +kernel
theorem dX10_row_33 : decode cX10_row 33 = .ok (.l2i, 1) := by decide +kernel
theorem dX10_row_34 : decode cX10_row 34 = .ok (.bipush 31, 2) := by decide +kernel
theorem dX10_row_36 : decode cX10_row 36 = .ok (.iand, 1) := by decide +kernel
theorem dX10_row_37 : decode cX10_row 37 = .ok (.iastore, 1) := by decide +kernel
theorem dX10_row_38 : decode cX10_row 38 = .ok (.aload_n 0, 1) := by decide +kernel
theorem dX10_row_39 : decode cX10_row 39 = .ok (.getfield 74, 3) := by decide +kernel
theorem dX10_row_42 : decode cX10_row 42 = .ok (.iload 4, 2) := by decide +kernel
theorem dX10_row_44 : decode cX10_row 44 = .ok (.iaload, 1) := by decide +kernel
theorem dX10_row_45 : decode cX10_row 45 = .ok (.aload_n 0, 1) := by decide +kernel
theorem dX10_row_46 : decode cX10_row 46 = .ok (.getfield 46, 3) := by decide +kernel
theorem dX10_row_49 : decode cX10_row 49 = .ok (.invokevirtual 161, 3) := by decide +kernel
theorem dX10_row_52 : decode cX10_row 52 = .ok (.if_icmp .lt 5, 3) := by decide +kernel
theorem dX10_row_55 : decode cX10_row 55 = .ok (.iconst (-1), 1) := by decide +kernel
theorem dX10_row_56 : decode cX10_row 56 = .ok (.ireturn, 1) := by decide +kernel
theorem dX10_row_57 : decode cX10_row 57 = .ok (.iinc 4 1, 3) := by decide +kernel
theorem dX10_row_60 : decode cX10_row 60 = .ok (.goto (-45), 3) := by decide +kernel
theorem dX10_row_63 : decode cX10_row 63 = .ok (.aload_n 0, 1) := by decide +kernel
theorem dX10_row_64 : decode cX10_row 64 = .ok (.getfield 64, 3) := by decide +kernel
theorem dX10_row_67 : decode cX10_row 67 = .ok (.invokevirtual 177, 3) := by decide +kernel
theorem dX10_row_70 : decode cX10_row 70 = .ok (.ifCond .eq 8, 3) := by decide +kernel
theorem dX10_row_73 : decode cX10_row 73 = .ok (.bipush (-3), 2) := by decide +kernel
theorem dX10_row_75 : decode cX10_row 75 = .ok (.goto 15, 3) := by decide +kernel
theorem dX10_row_78 : decode cX10_row 78 = .ok (.aload_n 0, 1) := by decide +kernel
theorem dX10_row_79 : decode cX10_row 79 = .ok (.getfield 64, 3) := by decide +kernel
theorem dX10_row_82 : decode cX10_row 82 = .ok (.aload_n 0, 1) := by decide +kernel
theorem dX10_row_83 : decode cX10_row 83 = .ok (.getfield 74, 3) := by decide +kernel
theorem dX10_row_86 : decode cX10_row 86 = .ok (.iload_n 3, 1) := by decide +kernel
theorem dX10_row_87 : decode cX10_row 87 = .ok (.invokevirtual 185, 3) := by decide +kernel
theorem dX10_row_90 : decode cX10_row 90 = .ok (.ireturn, 1) := by decide +kernel
theorem dX10_least_0 : decode cX10_least 0 = .ok (.aload_n 0, 1) := by decide +kernel
theorem dX10_least_1 : decode cX10_least 1 = .ok (.getfield 64, 3) := by decide +kernel
theorem dX10_least_4 : decode cX10_least 4 = .ok (.iload_n 1, 1) := by decide +kernel
theorem dX10_least_5 : decode cX10_least 5 = .ok (.invokevirtual 200, 3) := by decide +kernel
theorem dX10_least_8 : decode cX10_least 8 = .ok (.ifCond .eq 11, 3) := by decide +kernel
theorem dX10_least_11 : decode cX10_least 11 = .ok (.aload_n 0, 1) := by decide +kernel
theorem dX10_least_12 : decode cX10_least 12 = .ok (.iload_n 2, 1) := by decide +kernel
theorem dX10_least_13 : decode cX10_least 13 = .ok (.invokevirtual 154, 3) := by decide +kernel
theorem dX10_least_16 : decode cX10_least 16 = .ok (.ifCond .ne 5, 3) := by decide +kernel
theorem dX10_least_19 : decode cX10_least 19 = .ok (.iconst (-1), 1) := by decide +kernel
theorem dX10_least_20 : decode cX10_least 20 = .ok (.ireturn, 1) := by decide +kernel
theorem dX10_least_21 : decode cX10_least 21 = .ok (.aload_n 0, 1) := by decide +kernel
theorem dX10_least_22 : decode cX10_least 22 = .ok (.getfield 64, 3) := by decide +kernel
theorem dX10_least_25 : decode cX10_least 25 = .ok (.invokevirtual 177, 3) := by decide +kernel
theorem dX10_least_28 : decode cX10_least 28 = .ok (.ifCond .eq 6, 3) := by decide +kernel
theorem dX10_least_31 : decode cX10_least 31 = .ok (.bipush (-3), 2) := by decide +kernel
theorem dX10_least_33 : decode cX10_least 33 = .ok (.ireturn, 1) := by decide +kernel
theorem dX10_least_34 : decode cX10_least 34 = .ok (.aload_n 0, 1) := by decide +kernel
theorem dX10_least_35 : decode cX10_least 35 = .ok (.getfield 64, 3) := by decide +kernel
theorem dX10_least_38 : decode cX10_least 38 = .ok (.iload_n 1, 1) := by decide +kernel
theorem dX10_least_39 : decode cX10_least 39 = .ok (.aload_n 0, 1) := by decide +kernel
theorem dX10_least_40 : decode cX10_least 40 = .ok (.getfield 74, 3) := by decide +kernel
theorem dX10_least_43 : decode cX10_least 43 = .ok (.invokevirtual 203, 3) := by decide +kernel
theorem dX10_least_46 : decode cX10_least 46 = .ok (.istore_n 3, 1) := by decide +kernel
theorem dX10_least_47 : decode cX10_least 47 = .ok (.aload_n 0, 1) := by decide +kernel
theorem dX10_least_48 : decode cX10_least 48 = .ok (.getfield 46, 3) := by decide +kernel
theorem dX10_least_51 : decode cX10_least 51 = .ok (.aload_n 0, 1) := by decide +kernel
theorem dX10_least_52 : decode cX10_least 52 = .ok (.getfield 74, 3) := by decide +kernel
theorem dX10_least_55 : decode cX10_least 55 = .ok (.iload_n 3, 1) := by decide +kernel
theorem dX10_least_56 : decode cX10_least 56 = .ok (.aload_n 0, 1) := by decide +kernel
theorem dX10_least_57 : decode cX10_least 57 = .ok (.getfield 70, 3) := by decide +kernel
theorem dX10_least_60 : decode cX10_least 60 = .ok (.iload_n 2, 1) := by decide +kernel
theorem dX10_least_61 : decode cX10_least 61 = .ok (.aaload, 1) := by decide +kernel
theorem dX10_least_62 : decode cX10_least 62 = .ok (.invokevirtual 207, 3) := by decide +kernel
theorem dX10_least_65 : decode cX10_least 65 = .ok (.istore 4, 2) := by decide +kernel
theorem dX10_least_67 : decode cX10_least 67 = .ok (.iload 4, 2) := by decide +kernel
theorem dX10_least_69 : decode cX10_least 69 = .ok (.bipush (-2), 2) := by decide +kernel
theorem dX10_least_71 : decode cX10_least 71 = .ok (.if_icmp .ne 6, 3) := by decide +kernel
theorem dX10_least_74 : decode cX10_least 74 = .ok (.bipush (-2), 2) := by decide +kernel
theorem dX10_least_76 : decode cX10_least 76 = .ok (.ireturn, 1) := by decide +kernel
theorem dX10_least_77 : decode cX10_least 77 = .ok (.aload_n 0, 1) := by decide +kernel
theorem dX10_least_78 : decode cX10_least 78 = .ok (.getfield 64, 3) := by decide +kernel
theorem dX10_least_81 : decode cX10_least 81 = .ok (.aload_n 0, 1) := by decide +kernel
theorem dX10_least_82 : decode cX10_least 82 = .ok (.getfield 74, 3) := by decide +kernel
theorem dX10_least_85 : decode cX10_least 85 = .ok (.aload_n 0, 1) := by decide +kernel
theorem dX10_least_86 : decode cX10_least 86 = .ok (.getfield 46, 3) := by decide +kernel
theorem dX10_least_89 : decode cX10_least 89 = .ok (.aload_n 0, 1) := by decide +kernel
theorem dX10_least_90 : decode cX10_least 90 = .ok (.getfield 74, 3) := by decide +kernel
theorem dX10_least_93 : decode cX10_least 93 = .ok (.iload 4, 2) := by decide +kernel
theorem dX10_least_95 : decode cX10_least 95 = .ok (.iconst 1, 1) := by decide +kernel
theorem dX10_least_96 : decode cX10_least 96 = .ok (.iadd, 1) := by decide +kernel
theorem dX10_least_97 : decode cX10_least 97 = .ok (.aload_n 0, 1) := by decide +kernel
theorem dX10_least_98 : decode cX10_least 98 = .ok (.getfield 70, 3) := by decide +kernel
theorem dX10_least_101 : decode cX10_least 101 = .ok (.iload_n 2, 1) := by decide +kernel
theorem dX10_least_102 : decode cX10_least 102 = .ok (.aaload, 1) := by decide +kernel
theorem dX10_least_103 : decode cX10_least 103 = .ok (.invokevirtual 196, 3) := by decide +kernel
theorem dX10_least_106 : decode cX10_least 106 = .ok (.invokevirtual 185, 3) := by decide +kernel
theorem dX10_least_109 : decode cX10_least 109 = .ok (.ireturn, 1) := by decide +kernel
theorem dX10_at_0 : decode cX10_at 0 = .ok (.aload_n 0, 1) := by decide +kernel
theorem dX10_at_1 : decode cX10_at 1 = .ok (.getfield 64, 3) := by decide +kernel
theorem dX10_at_4 : decode cX10_at 4 = .ok (.iload_n 1, 1) := by decide +kernel
theorem dX10_at_5 : decode cX10_at 5 = .ok (.iload_n 2, 1) := by decide +kernel
theorem dX10_at_6 : decode cX10_at 6 = .ok (.invokevirtual 210, 3) := by decide +kernel
theorem dX10_at_9 : decode cX10_at 9 = .ok (.ireturn, 1) := by decide +kernel
theorem dX10_breaks_0 : decode cX10_breaks 0 = .ok (.aload_n 0, 1) := by decide +kernel
theorem dX10_breaks_1 : decode cX10_breaks 1 = .ok (.getfield 64, 3) := by decide +kernel
theorem dX10_breaks_4 : decode cX10_breaks 4 = .ok (.iload_n 1, 1) := by decide +kernel
theorem dX10_breaks_5 : decode cX10_breaks 5 = .ok (.invokevirtual 200, 3) := by decide +kernel
theorem dX10_breaks_8 : decode cX10_breaks 8 = .ok (.ifCond .eq 11, 3) := by decide +kernel
theorem dX10_breaks_11 : decode cX10_breaks 11 = .ok (.aload_n 0, 1) := by decide +kernel
theorem dX10_breaks_12 : decode cX10_breaks 12 = .ok (.iload_n 2, 1) := by decide +kernel
theorem dX10_breaks_13 : decode cX10_breaks 13 = .ok (.invokevirtual 154, 3) := by decide +kernel
theorem dX10_breaks_16 : decode cX10_breaks 16 = .ok (.ifCond .ne 5, 3) := by decide +kernel
theorem dX10_breaks_19 : decode cX10_breaks 19 = .ok (.iconst (-1), 1) := by decide +kernel
theorem dX10_breaks_20 : decode cX10_breaks 20 = .ok (.ireturn, 1) := by decide +kernel
theorem dX10_breaks_21 : decode cX10_breaks 21 = .ok (.aload_n 0, 1) := by decide +kernel
theorem dX10_breaks_22 : decode cX10_breaks 22 = .ok (.getfield 64, 3) := by decide +kernel
theorem dX10_breaks_25 : decode cX10_breaks 25 = .ok (.iload_n 1, 1) := by decide +kernel
theorem dX10_breaks_26 : decode cX10_breaks 26 = .ok (.aload_n 0, 1) := by decide +kernel
theorem dX10_breaks_27 : decode cX10_breaks 27 = .ok (.getfield 74, 3) := by decide +kernel
theorem dX10_breaks_30 : decode cX10_breaks 30 = .ok (.invokevirtual 203, 3) := by decide +kernel
theorem dX10_breaks_33 : decode cX10_breaks 33 = .ok (.istore_n 3, 1) := by decide +kernel
theorem dX10_breaks_34 : decode cX10_breaks 34 = .ok (.aload_n 0, 1) := by decide +kernel
theorem dX10_breaks_35 : decode cX10_breaks 35 = .ok (.getfield 46, 3) := by decide +kernel
theorem dX10_breaks_38 : decode cX10_breaks 38 = .ok (.aload_n 0, 1) := by decide +kernel
theorem dX10_breaks_39 : decode cX10_breaks 39 = .ok (.getfield 74, 3) := by decide +kernel
theorem dX10_breaks_42 : decode cX10_breaks 42 = .ok (.iload_n 3, 1) := by decide +kernel
theorem dX10_breaks_43 : decode cX10_breaks 43 = .ok (.aload_n 0, 1) := by decide +kernel
theorem dX10_breaks_44 : decode cX10_breaks 44 = .ok (.getfield 70, 3) := by decide +kernel
theorem dX10_breaks_47 : decode cX10_breaks 47 = .ok (.iload_n 2, 1) := by decide +kernel
theorem dX10_breaks_48 : decode cX10_breaks 48 = .ok (.aaload, 1) := by decide +kernel
theorem dX10_breaks_49 : decode cX10_breaks 49 = .ok (.invokevirtual 207, 3) := by decide +kernel
theorem dX10_breaks_52 : decode cX10_breaks 52 = .ok (.ireturn, 1) := by decide +kernel
theorem dX10_profit_0 : decode cX10_profit 0 = .ok (.aload_n 0, 1) := by decide +kernel
theorem dX10_profit_1 : decode cX10_profit 1 = .ok (.getfield 64, 3) := by decide +kernel
theorem dX10_profit_4 : decode cX10_profit 4 = .ok (.iload_n 1, 1) := by decide +kernel
theorem dX10_profit_5 : decode cX10_profit 5 = .ok (.invokevirtual 200, 3) := by decide +kernel
theorem dX10_profit_8 : decode cX10_profit 8 = .ok (.ifCond .eq 12, 3) := by decide +kernel
theorem dX10_profit_11 : decode cX10_profit 11 = .ok (.iload_n 2, 1) := by decide +kernel
theorem dX10_profit_12 : decode cX10_profit 12 = .ok (.iconst 0, 1) := by decide +kernel
theorem dX10_profit_13 : decode cX10_profit 13 = .ok (.iconst 3, 1) := by decide +kernel
theorem dX10_profit_14 : decode cX10_profit 14 = .ok (.invokestatic 105, 3) := by decide +kernel
theorem dX10_profit_17 : decode cX10_profit 17 = .ok (.ifCond .ne 6, 3) := by decide +kernel
theorem dX10_profit_20 : decode cX10_profit 20 = .ok (.ldc 214, 2) := by decide +kernel
theorem dX10_profit_22 : decode cX10_profit 22 = .ok (.ireturn, 1) := by decide +kernel
theorem dX10_profit_23 : decode cX10_profit 23 = .ok (.aload_n 0, 1) := by decide +kernel
theorem dX10_profit_24 : decode cX10_profit 24 = .ok (.getfield 64, 3) := by decide +kernel
theorem dX10_profit_27 : decode cX10_profit 27 = .ok (.iload_n 1, 1) := by decide +kernel
theorem dX10_profit_28 : decode cX10_profit 28 = .ok (.aload_n 0, 1) := by decide +kernel
theorem dX10_profit_29 : decode cX10_profit 29 = .ok (.getfield 74, 3) := by decide +kernel
theorem dX10_profit_32 : decode cX10_profit 32 = .ok (.invokevirtual 203, 3) := by decide +kernel
theorem dX10_profit_35 : decode cX10_profit 35 = .ok (.istore_n 3, 1) := by decide +kernel
theorem dX10_profit_36 : decode cX10_profit 36 = .ok (.aload_n 0, 1) := by decide +kernel
theorem dX10_profit_37 : decode cX10_profit 37 = .ok (.getfield 46, 3) := by decide +kernel
theorem dX10_profit_40 : decode cX10_profit 40 = .ok (.aload_n 0, 1) := by decide +kernel
theorem dX10_profit_41 : decode cX10_profit 41 = .ok (.getfield 74, 3) := by decide +kernel
theorem dX10_profit_44 : decode cX10_profit 44 = .ok (.iload_n 3, 1) := by decide +kernel
theorem dX10_profit_45 : decode cX10_profit 45 = .ok (.invokevirtual 215, 3) := by decide +kernel
theorem dX10_profit_48 : decode cX10_profit 48 = .ok (.aload_n 0, 1) := by decide +kernel
theorem dX10_profit_49 : decode cX10_profit 49 = .ok (.getfield 37, 3) := by decide +kernel
theorem dX10_profit_52 : decode cX10_profit 52 = .ok (.bipush 14, 2) := by decide +kernel
theorem dX10_profit_54 : decode cX10_profit 54 = .ok (.iload_n 2, 1) := by decide +kernel
theorem dX10_profit_55 : decode cX10_profit 55 = .ok (.iadd, 1) := by decide +kernel
theorem dX10_profit_56 : decode cX10_profit 56 = .ok (.invokevirtual 218, 3) := by decide +kernel
theorem dX10_profit_59 : decode cX10_profit 59 = .ok (.aload_n 0, 1) := by decide +kernel
theorem dX10_profit_60 : decode cX10_profit 60 = .ok (.getfield 28, 3) := by decide +kernel
theorem dX10_profit_63 : decode cX10_profit 63 = .ok (.iload_n 2, 1) := by decide +kernel
theorem dX10_profit_64 : decode cX10_profit 64 = .ok (.invokevirtual 222, 3) := by decide +kernel
theorem dX10_profit_67 : decode cX10_profit 67 = .ok (.isub, 1) := by decide +kernel
theorem dX10_profit_68 : decode cX10_profit 68 = .ok (.ireturn, 1) := by decide +kernel
theorem dX10_met_0 : decode cX10_met 0 = .ok (.iload_n 2, 1) := by decide +kernel
theorem dX10_met_1 : decode cX10_met 1 = .ok (.iconst 0, 1) := by decide +kernel
theorem dX10_met_2 : decode cX10_met 2 = .ok (.aload_n 0, 1) := by decide +kernel
theorem dX10_met_3 : decode cX10_met 3 = .ok (.getfield 28, 3) := by decide +kernel
theorem dX10_met_6 : decode cX10_met 6 = .ok (.iload_n 1, 1) := by decide +kernel
theorem dX10_met_7 : decode cX10_met 7 = .ok (.invokevirtual 225, 3) := by decide +kernel
theorem dX10_met_10 : decode cX10_met 10 = .ok (.iconst 1, 1) := by decide +kernel
theorem dX10_met_11 : decode cX10_met 11 = .ok (.isub, 1) := by decide +kernel
theorem dX10_met_12 : decode cX10_met 12 = .ok (.invokestatic 105, 3) := by decide +kernel
theorem dX10_met_15 : decode cX10_met 15 = .ok (.ifCond .ne 5, 3) := by decide +kernel
theorem dX10_met_18 : decode cX10_met 18 = .ok (.iconst (-1), 1) := by decide +kernel
theorem dX10_met_19 : decode cX10_met 19 = .ok (.ireturn, 1) := by decide +kernel
theorem dX10_met_20 : decode cX10_met 20 = .ok (.aload_n 0, 1) := by decide +kernel
theorem dX10_met_21 : decode cX10_met 21 = .ok (.getfield 28, 3) := by decide +kernel
theorem dX10_met_24 : decode cX10_met 24 = .ok (.iload_n 1, 1) := by decide +kernel
theorem dX10_met_25 : decode cX10_met 25 = .ok (.iload_n 2, 1) := by decide +kernel
theorem dX10_met_26 : decode cX10_met 26 = .ok (.invokevirtual 228, 3) := by decide +kernel
theorem dX10_met_29 : decode cX10_met 29 = .ok (.ifCond .eq 7, 3) := by decide +kernel
theorem dX10_met_32 : decode cX10_met 32 = .ok (.iconst 1, 1) := by decide +kernel
theorem dX10_met_33 : decode cX10_met 33 = .ok (.goto 4, 3) := by decide +kernel
theorem dX10_met_36 : decode cX10_met 36 = .ok (.iconst 0, 1) := by decide +kernel
theorem dX10_met_37 : decode cX10_met 37 = .ok (.ireturn, 1) := by decide +kernel
theorem dX10_kept_0 : decode cX10_kept 0 = .ok (.aload_n 0, 1) := by decide +kernel
theorem dX10_kept_1 : decode cX10_kept 1 = .ok (.getfield 55, 3) := by decide +kernel
theorem dX10_kept_4 : decode cX10_kept 4 = .ok (.iload_n 1, 1) := by decide +kernel
theorem dX10_kept_5 : decode cX10_kept 5 = .ok (.iload_n 2, 1) := by decide +kernel
theorem dX10_kept_6 : decode cX10_kept 6 = .ok (.invokevirtual 232, 3) := by decide +kernel
theorem dX10_kept_9 : decode cX10_kept 9 = .ok (.ireturn, 1) := by decide +kernel
theorem dX10_told_0 : decode cX10_told 0 = .ok (.iload_n 1, 1) := by decide +kernel
theorem dX10_told_1 : decode cX10_told 1 = .ok (.tableswitch 72 0 4 #[35, 43, 48, 56, 64], 35) := by decide +kernel
theorem dX10_told_36 : decode cX10_told 36 = .ok (.aload_n 0, 1) := by decide +kernel
theorem dX10_told_37 : decode cX10_told 37 = .ok (.getfield 10, 3) := by decide +kernel
theorem dX10_told_40 : decode cX10_told 40 = .ok (.invokevirtual 98, 3) := by decide +kernel
theorem dX10_told_43 : decode cX10_told 43 = .ok (.ireturn, 1) := by decide +kernel
theorem dX10_told_44 : decode cX10_told 44 = .ok (.aload_n 0, 1) := by decide +kernel
theorem dX10_told_45 : decode cX10_told 45 = .ok (.getfield 81, 3) := by decide +kernel
theorem dX10_told_48 : decode cX10_told 48 = .ok (.ireturn, 1) := by decide +kernel
theorem dX10_told_49 : decode cX10_told 49 = .ok (.aload_n 0, 1) := by decide +kernel
theorem dX10_told_50 : decode cX10_told 50 = .ok (.getfield 46, 3) := by decide +kernel
theorem dX10_told_53 : decode cX10_told 53 = .ok (.invokevirtual 161, 3) := by decide +kernel
theorem dX10_told_56 : decode cX10_told 56 = .ok (.ireturn, 1) := by decide +kernel
theorem dX10_told_57 : decode cX10_told 57 = .ok (.aload_n 0, 1) := by decide +kernel
theorem dX10_told_58 : decode cX10_told 58 = .ok (.getfield 64, 3) := by decide +kernel
theorem dX10_told_61 : decode cX10_told 61 = .ok (.invokevirtual 235, 3) := by decide +kernel
theorem dX10_told_64 : decode cX10_told 64 = .ok (.ireturn, 1) := by decide +kernel
theorem dX10_told_65 : decode cX10_told 65 = .ok (.aload_n 0, 1) := by decide +kernel
theorem dX10_told_66 : decode cX10_told 66 = .ok (.getfield 55, 3) := by decide +kernel
theorem dX10_told_69 : decode cX10_told 69 = .ok (.invokevirtual 238, 3) := by decide +kernel
theorem dX10_told_72 : decode cX10_told 72 = .ok (.ireturn, 1) := by decide +kernel
theorem dX10_told_73 : decode cX10_told 73 = .ok (.iload_n 1, 1) := by decide +kernel
theorem dX10_told_74 : decode cX10_told 74 = .ok (.iconst 5, 1) := by decide +kernel
theorem dX10_told_75 : decode cX10_told 75 = .ok (.bipush 10, 2) := by decide +kernel
theorem dX10_told_77 : decode cX10_told 77 = .ok (.invokestatic 105, 3) := by decide +kernel
theorem dX10_told_80 : decode cX10_told 80 = .ok (.ifCond .eq 16, 3) := by decide +kernel
theorem dX10_told_83 : decode cX10_told 83 = .ok (.aload_n 0, 1) := by decide +kernel
theorem dX10_told_84 : decode cX10_told 84 = .ok (.getfield 28, 3) := by decide +kernel
theorem dX10_told_87 : decode cX10_told 87 = .ok (.iload_n 1, 1) := by decide +kernel
theorem dX10_told_88 : decode cX10_told 88 = .ok (.iconst 5, 1) := by decide +kernel
theorem dX10_told_89 : decode cX10_told 89 = .ok (.isub, 1) := by decide +kernel
theorem dX10_told_90 : decode cX10_told 90 = .ok (.invokevirtual 225, 3) := by decide +kernel
theorem dX10_told_93 : decode cX10_told 93 = .ok (.goto 4, 3) := by decide +kernel
theorem dX10_told_96 : decode cX10_told 96 = .ok (.iconst (-1), 1) := by decide +kernel
theorem dX10_told_97 : decode cX10_told 97 = .ok (.ireturn, 1) := by decide +kernel
theorem dX10_showStart_0 : decode cX10_showStart 0 = .ok (.aload_n 0, 1) := by decide +kernel
theorem dX10_showStart_1 : decode cX10_showStart 1 = .ok (.getfield 37, 3) := by decide +kernel
theorem dX10_showStart_4 : decode cX10_showStart 4 = .ok (.invokevirtual 241, 3) := by decide +kernel
theorem dX10_showStart_7 : decode cX10_showStart 7 = .ok (.aload_n 0, 1) := by decide +kernel
theorem dX10_showStart_8 : decode cX10_showStart 8 = .ok (.getfield 37, 3) := by decide +kernel
theorem dX10_showStart_11 : decode cX10_showStart 11 = .ok (.aload_n 0, 1) := by decide +kernel
theorem dX10_showStart_12 : decode cX10_showStart 12 = .ok (.getfield 78, 3) := by decide +kernel
theorem dX10_showStart_15 : decode cX10_showStart 15 = .ok (.iconst 0, 1) := by decide +kernel
theorem dX10_showStart_16 : decode cX10_showStart 16 = .ok (.invokevirtual 151, 3) := by decide +kernel
theorem dX10_showStart_19 : decode cX10_showStart 19 = .ok (.aload_n 0, 1) := by decide +kernel
theorem dX10_showStart_20 : decode cX10_showStart 20 = .ok (.iconst 0, 1) := by decide +kernel
theorem dX10_showStart_21 : decode cX10_showStart 21 = .ok (.putfield 85, 3) := by decide +kernel
theorem dX10_showStart_24 : decode cX10_showStart 24 = .ok (.return_, 1) := by decide +kernel
theorem dX10_isRule_0 : decode cX10_isRule 0 = .ok (.iload_n 1, 1) := by decide +kernel
theorem dX10_isRule_1 : decode cX10_isRule 1 = .ok (.iconst 0, 1) := by decide +kernel
theorem dX10_isRule_2 : decode cX10_isRule 2 = .ok (.aload_n 0, 1) := by decide +kernel
theorem dX10_isRule_3 : decode cX10_isRule 3 = .ok (.getfield 81, 3) := by decide +kernel
theorem dX10_isRule_6 : decode cX10_isRule 6 = .ok (.iconst 1, 1) := by decide +kernel
theorem dX10_isRule_7 : decode cX10_isRule 7 = .ok (.isub, 1) := by decide +kernel
theorem dX10_isRule_8 : decode cX10_isRule 8 = .ok (.invokestatic 105, 3) := by decide +kernel
theorem dX10_isRule_11 : decode cX10_isRule 11 = .ok (.ireturn, 1) := by decide +kernel
theorem dX10_isCall_0 : decode cX10_isCall 0 = .ok (.iload_n 0, 1) := by decide +kernel
theorem dX10_isCall_1 : decode cX10_isCall 1 = .ok (.iconst 0, 1) := by decide +kernel
theorem dX10_isCall_2 : decode cX10_isCall 2 = .ok (.iconst 3, 1) := by decide +kernel
theorem dX10_isCall_3 : decode cX10_isCall 3 = .ok (.invokestatic 105, 3) := by decide +kernel
theorem dX10_isCall_6 : decode cX10_isCall 6 = .ok (.ifCond .eq 37, 3) := by decide +kernel
theorem dX10_isCall_9 : decode cX10_isCall 9 = .ok (.iload_n 1, 1) := by decide +kernel
theorem dX10_isCall_10 : decode cX10_isCall 10 = .ok (.iconst 0, 1) := by decide +kernel
theorem dX10_isCall_11 : decode cX10_isCall 11 = .ok (.iconst 5, 1) := by decide +kernel
theorem dX10_isCall_12 : decode cX10_isCall 12 = .ok (.invokestatic 105, 3) := by decide +kernel
theorem dX10_isCall_15 : decode cX10_isCall 15 = .ok (.ifCond .eq 28, 3) := by decide +kernel
theorem dX10_isCall_18 : decode cX10_isCall 18 = .ok (.iload_n 2, 1) := by decide +kernel
theorem dX10_isCall_19 : decode cX10_isCall 19 = .ok (.ldc 244, 2) := by decide +kernel
theorem dX10_isCall_21 : decode cX10_isCall 21 = .ok (.ldc 126, 2) := by decide +kernel
theorem dX10_isCall_23 : decode cX10_isCall 23 = .ok (.invokestatic 105, 3) := by decide +kernel
theorem dX10_isCall_26 : decode cX10_isCall 26 = .ok (.ifCond .eq 17, 3) := by decide +kernel
theorem dX10_isCall_29 : decode cX10_isCall 29 = .ok (.iload_n 3, 1) := by decide +kernel
theorem dX10_isCall_30 : decode cX10_isCall 30 = .ok (.iconst 0, 1) := by decide +kernel
theorem dX10_isCall_31 : decode cX10_isCall 31 = .ok (.ldc 126, 2) := by decide +kernel
theorem dX10_isCall_33 : decode cX10_isCall 33 = .ok (.invokestatic 105, 3) := by decide +kernel
theorem dX10_isCall_36 : decode cX10_isCall 36 = .ok (.ifCond .eq 7, 3) := by decide +kernel
theorem dX10_isCall_39 : decode cX10_isCall 39 = .ok (.iconst 1, 1) := by decide +kernel
theorem dX10_isCall_40 : decode cX10_isCall 40 = .ok (.goto 4, 3) := by decide +kernel
theorem dX10_isCall_43 : decode cX10_isCall 43 = .ok (.iconst 0, 1) := by decide +kernel
theorem dX10_isCall_44 : decode cX10_isCall 44 = .ok (.ireturn, 1) := by decide +kernel
theorem dX10_isWithin_0 : decode cX10_isWithin 0 = .ok (.iload_n 0, 1) := by decide +kernel
theorem dX10_isWithin_1 : decode cX10_isWithin 1 = .ok (.iload_n 1, 1) := by decide +kernel
theorem dX10_isWithin_2 : decode cX10_isWithin 2 = .ok (.if_icmp .lt 12, 3) := by decide +kernel
theorem dX10_isWithin_5 : decode cX10_isWithin 5 = .ok (.iload_n 0, 1) := by decide +kernel
theorem dX10_isWithin_6 : decode cX10_isWithin 6 = .ok (.iload_n 2, 1) := by decide +kernel
theorem dX10_isWithin_7 : decode cX10_isWithin 7 = .ok (.if_icmp .gt 7, 3) := by decide +kernel
theorem dX10_isWithin_10 : decode cX10_isWithin 10 = .ok (.iconst 1, 1) := by decide +kernel
theorem dX10_isWithin_11 : decode cX10_isWithin 11 = .ok (.goto 4, 3) := by decide +kernel
theorem dX10_isWithin_14 : decode cX10_isWithin 14 = .ok (.iconst 0, 1) := by decide +kernel
theorem dX10_isWithin_15 : decode cX10_isWithin 15 = .ok (.ireturn, 1) := by decide +kernel
theorem dX11_init_0 : decode cX11_init 0 = .ok (.aload_n 0, 1) := by decide +kernel
theorem dX11_init_1 : decode cX11_init 1 = .ok (.invokespecial 1, 3) := by decide +kernel
theorem dX11_init_4 : decode cX11_init 4 = .ok (.aload_n 0, 1) := by decide +kernel
theorem dX11_init_5 : decode cX11_init 5 = .ok (.sipush 208, 3) := by decide +kernel
theorem dX11_init_8 : decode cX11_init 8 = .ok (.newarray .int, 2) := by decide +kernel
theorem dX11_init_10 : decode cX11_init 10 = .ok (.putfield 7, 3) := by decide +kernel
theorem dX11_init_13 : decode cX11_init 13 = .ok (.aload_n 0, 1) := by decide +kernel
theorem dX11_init_14 : decode cX11_init 14 = .ok (.sipush 4500, 3) := by decide +kernel
theorem dX11_init_17 : decode cX11_init 17 = .ok (.newarray .int, 2) := by decide +kernel
theorem dX11_init_19 : decode cX11_init 19 = .ok (.putfield 13, 3) := by decide +kernel
theorem dX11_init_22 : decode cX11_init 22 = .ok (.aload_n 0, 1) := by decide +kernel
theorem dX11_init_23 : decode cX11_init 23 = .ok (.sipush 4500, 3) := by decide +kernel
theorem dX11_init_26 : decode cX11_init 26 = .ok (.newarray .int, 2) := by decide +kernel
theorem dX11_init_28 : decode cX11_init 28 = .ok (.putfield 16, 3) := by decide +kernel
theorem dX11_init_31 : decode cX11_init 31 = .ok (.aload_n 0, 1) := by decide +kernel
theorem dX11_init_32 : decode cX11_init 32 = .ok (.sipush 4500, 3) := by decide +kernel
theorem dX11_init_35 : decode cX11_init 35 = .ok (.newarray .int, 2) := by decide +kernel
theorem dX11_init_37 : decode cX11_init 37 = .ok (.putfield 19, 3) := by decide +kernel
theorem dX11_init_40 : decode cX11_init 40 = .ok (.aload_n 0, 1) := by decide +kernel
theorem dX11_init_41 : decode cX11_init 41 = .ok (.bipush 15, 2) := by decide +kernel
theorem dX11_init_43 : decode cX11_init 43 = .ok (.newarray .int, 2) := by decide +kernel
theorem dX11_init_45 : decode cX11_init 45 = .ok (.putfield 22, 3) := by decide +kernel
theorem dX11_init_48 : decode cX11_init 48 = .ok (.aload_n 0, 1) := by decide +kernel
theorem dX11_init_49 : decode cX11_init 49 = .ok (.bipush 6, 2) := by decide +kernel
theorem dX11_init_51 : decode cX11_init 51 = .ok (.newarray .int, 2) := by decide +kernel
theorem dX11_init_53 : decode cX11_init 53 = .ok (.putfield 25, 3) := by decide +kernel
theorem dX11_init_56 : decode cX11_init 56 = .ok (.aload_n 0, 1) := by decide +kernel
theorem dX11_init_57 : decode cX11_init 57 = .ok (.bipush 6, 2) := by decide +kernel
theorem dX11_init_59 : decode cX11_init 59 = .ok (.newarray .boolean, 2) := by decide +kernel
theorem dX11_init_61 : decode cX11_init 61 = .ok (.putfield 28, 3) := by decide +kernel
theorem dX11_init_64 : decode cX11_init 64 = .ok (.aload_n 0, 1) := by decide +kernel
theorem dX11_init_65 : decode cX11_init 65 = .ok (.sipush 300, 3) := by decide +kernel
theorem dX11_init_68 : decode cX11_init 68 = .ok (.newarray .int, 2) := by decide +kernel
theorem dX11_init_70 : decode cX11_init 70 = .ok (.putfield 32, 3) := by decide +kernel
theorem dX11_init_73 : decode cX11_init 73 = .ok (.aload_n 0, 1) := by decide +kernel
theorem dX11_init_74 : decode cX11_init 74 = .ok (.bipush 6, 2) := by decide +kernel
