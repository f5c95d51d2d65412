theorem dX11_keepRow_37 : decode cX11_keepRow 37 = .ok (.getfield 86, 3) := by decide +kernel
theorem dX11_keepRow_40 : decode cX11_keepRow 40 = .ok (.aload_n 0, 1) := by decide +kernel
theorem dX11_keepRow_41 : decode cX11_keepRow 41 = .ok (.getfield 340, 3) := by decide +kernel
theorem dX11_keepRow_44 : decode cX11_keepRow 44 = .ok (.aload_n 0, 1) := by decide +kernel
theorem dX11_keepRow_45 : decode cX11_keepRow 45 = .ok (.getfield 346, 3) := by decide +kernel
theorem dX11_keepRow_48 : decode cX11_keepRow 48 = .ok (.iastore, 1) := by decide +kernel
theorem dX11_keepRow_49 : decode cX11_keepRow 49 = .ok (.aload_n 0, 1) := by decide +kernel
theorem dX11_keepRow_50 : decode cX11_keepRow 50 = .ok (.dup, 1) := by decide +kernel
theorem dX11_keepRow_51 : decode cX11_keepRow 51 = .ok (.getfield 340, 3) := by decide +kernel
theorem dX11_keepRow_54 : decode cX11_keepRow 54 = .ok (.iconst 1, 1) := by decide +kernel
theorem dX11_keepRow_55 : decode cX11_keepRow 55 = .ok (.iadd, 1) := by decide +kernel
theorem dX11_keepRow_56 : decode cX11_keepRow 56 = .ok (.putfield 340, 3) := by decide +kernel
theorem dX11_keepRow_59 : decode cX11_keepRow 59 = .ok (.aload_n 0, 1) := by decide +kernel
theorem dX11_keepRow_60 : decode cX11_keepRow 60 = .ok (.getfield 340, 3) := by decide +kernel
theorem dX11_keepRow_63 : decode cX11_keepRow 63 = .ok (.iconst 1, 1) := by decide +kernel
theorem dX11_keepRow_64 : decode cX11_keepRow 64 = .ok (.isub, 1) := by decide +kernel
theorem dX11_keepRow_65 : decode cX11_keepRow 65 = .ok (.ireturn, 1) := by decide +kernel
theorem dX11_take_0 : decode cX11_take 0 = .ok (.aload_n 0, 1) := by decide +kernel
theorem dX11_take_1 : decode cX11_take 1 = .ok (.aload_n 0, 1) := by decide +kernel
theorem dX11_take_2 : decode cX11_take 2 = .ok (.getfield 86, 3) := by decide +kernel
theorem dX11_take_5 : decode cX11_take 5 = .ok (.iload_n 1, 1) := by decide +kernel
theorem dX11_take_6 : decode cX11_take 6 = .ok (.iaload, 1) := by decide +kernel
theorem dX11_take_7 : decode cX11_take 7 = .ok (.putfield 346, 3) := by decide +kernel
theorem dX11_take_10 : decode cX11_take 10 = .ok (.iconst 0, 1) := by decide +kernel
theorem dX11_take_11 : decode cX11_take 11 = .ok (.istore_n 2, 1) := by decide +kernel
theorem dX11_take_12 : decode cX11_take 12 = .ok (.iload_n 2, 1) := by decide +kernel
theorem dX11_take_13 : decode cX11_take 13 = .ok (.aload_n 0, 1) := by decide +kernel
theorem dX11_take_14 : decode cX11_take 14 = .ok (.getfield 346, 3) := by decide +kernel
theorem dX11_take_17 : decode cX11_take 17 = .ok (.if_icmp .ge 26, 3) := by decide +kernel
theorem dX11_take_20 : decode cX11_take 20 = .ok (.aload_n 0, 1) := by decide +kernel
theorem dX11_take_21 : decode cX11_take 21 = .ok (.getfield 92, 3) := by decide +kernel
theorem dX11_take_24 : decode cX11_take 24 = .ok (.iload_n 2, 1) := by decide +kernel
theorem dX11_take_25 : decode cX11_take 25 = .ok (.aload_n 0, 1) := by decide +kernel
theorem dX11_take_26 : decode cX11_take 26 = .ok (.getfield 89, 3) := by decide +kernel
theorem dX11_take_29 : decode cX11_take 29 = .ok (.bipush 12, 2) := by decide +kernel
theorem dX11_take_31 : decode cX11_take 31 = .ok (.iload_n 1, 1) := by decide +kernel
theorem dX11_take_32 : decode cX11_take 32 = .ok (.imul, 1) := by decide +kernel
theorem dX11_take_33 : decode cX11_take 33 = .ok (.iload_n 2, 1) := by decide +kernel
theorem dX11_take_34 : decode cX11_take 34 = .ok (.iadd, 1) := by decide +kernel
theorem dX11_take_35 : decode cX11_take 35 = .ok (.iaload, 1) := by decide +kernel
theorem dX11_take_36 : decode cX11_take 36 = .ok (.iastore, 1) := by decide +kernel
theorem dX11_take_37 : decode cX11_take 37 = .ok (.iinc 2 1, 3) := by decide +kernel
theorem dX11_take_40 : decode cX11_take 40 = .ok (.goto (-28), 3) := by decide +kernel
theorem dX11_take_43 : decode cX11_take 43 = .ok (.return_, 1) := by decide +kernel
theorem dX11_breaksAt_0 : decode cX11_breaksAt 0 = .ok (.aload_n 0, 1) := by decide +kernel
theorem dX11_breaksAt_1 : decode cX11_breaksAt 1 = .ok (.invokevirtual 317, 3) := by decide +kernel
theorem dX11_breaksAt_4 : decode cX11_breaksAt 4 = .ok (.iconst 0, 1) := by decide +kernel
theorem dX11_breaksAt_5 : decode cX11_breaksAt 5 = .ok (.istore_n 3, 1) := by decide +kernel
theorem dX11_breaksAt_6 : decode cX11_breaksAt 6 = .ok (.iconst 0, 1) := by decide +kernel
theorem dX11_breaksAt_7 : decode cX11_breaksAt 7 = .ok (.istore 4, 2) := by decide +kernel
theorem dX11_breaksAt_9 : decode cX11_breaksAt 9 = .ok (.iload 4, 2) := by decide +kernel
theorem dX11_breaksAt_11 : decode cX11_breaksAt 11 = .ok (.aload_n 0, 1) := by decide +kernel
theorem dX11_breaksAt_12 : decode cX11_breaksAt 12 = .ok (.getfield 346, 3) := by decide +kernel
theorem dX11_breaksAt_15 : decode cX11_breaksAt 15 = .ok (.if_icmp .ge 39, 3) := by decide +kernel
theorem dX11_breaksAt_18 : decode cX11_breaksAt 18 = .ok (.iload 4, 2) := by decide +kernel
theorem dX11_breaksAt_20 : decode cX11_breaksAt 20 = .ok (.iload_n 2, 1) := by decide +kernel
theorem dX11_breaksAt_21 : decode cX11_breaksAt 21 = .ok (.if_icmp .eq 27, 3) := by decide +kernel
theorem dX11_breaksAt_24 : decode cX11_breaksAt 24 = .ok (.aload_n 0, 1) := by decide +kernel
theorem dX11_breaksAt_25 : decode cX11_breaksAt 25 = .ok (.aload_n 0, 1) := by decide +kernel
theorem dX11_breaksAt_26 : decode cX11_breaksAt 26 = .ok (.getfield 92, 3) := by decide +kernel
theorem dX11_breaksAt_29 : decode cX11_breaksAt 29 = .ok (.iload 4, 2) := by decide +kernel
theorem dX11_breaksAt_31 : decode cX11_breaksAt 31 = .ok (.iaload, 1) := by decide +kernel
theorem dX11_breaksAt_32 : decode cX11_breaksAt 32 = .ok (.invokevirtual 349, 3) := by decide +kernel
theorem dX11_breaksAt_35 : decode cX11_breaksAt 35 = .ok (.aload_n 0, 1) := by decide +kernel
theorem dX11_breaksAt_36 : decode cX11_breaksAt 36 = .ok (.iload_n 1, 1) := by decide +kernel
theorem dX11_breaksAt_37 : decode cX11_breaksAt 37 = .ok (.invokevirtual 334, 3) := by decide +kernel
theorem dX11_breaksAt_40 : decode cX11_breaksAt 40 = .ok (.ifCond .eq 5, 3) := by decide +kernel
theorem dX11_breaksAt_43 : decode cX11_breaksAt 43 = .ok (.iload_n 3, 1) := by decide +kernel
theorem dX11_breaksAt_44 : decode cX11_breaksAt 44 = .ok (.ireturn, 1) := by decide +kernel
theorem dX11_breaksAt_45 : decode cX11_breaksAt 45 = .ok (.iinc 3 1, 3) := by decide +kernel
theorem dX11_breaksAt_48 : decode cX11_breaksAt 48 = .ok (.iinc 4 1, 3) := by decide +kernel
theorem dX11_breaksAt_51 : decode cX11_breaksAt 51 = .ok (.goto (-42), 3) := by decide +kernel
theorem dX11_breaksAt_54 : decode cX11_breaksAt 54 = .ok (.bipush (-2), 2) := by decide +kernel
theorem dX11_breaksAt_56 : decode cX11_breaksAt 56 = .ok (.ireturn, 1) := by decide +kernel
theorem dX11_makeLeast_0 : decode cX11_makeLeast 0 = .ok (.aload_n 0, 1) := by decide +kernel
theorem dX11_makeLeast_1 : decode cX11_makeLeast 1 = .ok (.aload_n 0, 1) := by decide +kernel
theorem dX11_makeLeast_2 : decode cX11_makeLeast 2 = .ok (.iload_n 1, 1) := by decide +kernel
theorem dX11_makeLeast_3 : decode cX11_makeLeast 3 = .ok (.iconst (-1), 1) := by decide +kernel
theorem dX11_makeLeast_4 : decode cX11_makeLeast 4 = .ok (.invokevirtual 352, 3) := by decide +kernel
theorem dX11_makeLeast_7 : decode cX11_makeLeast 7 = .ok (.iconst 1, 1) := by decide +kernel
theorem dX11_makeLeast_8 : decode cX11_makeLeast 8 = .ok (.iadd, 1) := by decide +kernel
theorem dX11_makeLeast_9 : decode cX11_makeLeast 9 = .ok (.putfield 346, 3) := by decide +kernel
theorem dX11_makeLeast_12 : decode cX11_makeLeast 12 = .ok (.iconst 1, 1) := by decide +kernel
theorem dX11_makeLeast_13 : decode cX11_makeLeast 13 = .ok (.istore_n 2, 1) := by decide +kernel
theorem dX11_makeLeast_14 : decode cX11_makeLeast 14 = .ok (.iload_n 2, 1) := by decide +kernel
theorem dX11_makeLeast_15 : decode cX11_makeLeast 15 = .ok (.ifCond .eq 97, 3) := by decide +kernel
theorem dX11_makeLeast_18 : decode cX11_makeLeast 18 = .ok (.iconst 0, 1) := by decide +kernel
theorem dX11_makeLeast_19 : decode cX11_makeLeast 19 = .ok (.istore_n 2, 1) := by decide +kernel
theorem dX11_makeLeast_20 : decode cX11_makeLeast 20 = .ok (.aload_n 0, 1) := by decide +kernel
theorem dX11_makeLeast_21 : decode cX11_makeLeast 21 = .ok (.getfield 346, 3) := by decide +kernel
theorem dX11_makeLeast_24 : decode cX11_makeLeast 24 = .ok (.iconst 1, 1) := by decide +kernel
theorem dX11_makeLeast_25 : decode cX11_makeLeast 25 = .ok (.isub, 1) := by decide +kernel
theorem dX11_makeLeast_26 : decode cX11_makeLeast 26 = .ok (.istore_n 3, 1) := by decide +kernel
theorem dX11_makeLeast_27 : decode cX11_makeLeast 27 = .ok (.iload_n 3, 1) := by decide +kernel
theorem dX11_makeLeast_28 : decode cX11_makeLeast 28 = .ok (.ifCond .lt 81, 3) := by decide +kernel
theorem dX11_makeLeast_31 : decode cX11_makeLeast 31 = .ok (.iload_n 3, 1) := by decide +kernel
theorem dX11_makeLeast_32 : decode cX11_makeLeast 32 = .ok (.aload_n 0, 1) := by decide +kernel
theorem dX11_makeLeast_33 : decode cX11_makeLeast 33 = .ok (.getfield 346, 3) := by decide +kernel
theorem dX11_makeLeast_36 : decode cX11_makeLeast 36 = .ok (.if_icmp .ge 12, 3) := by decide +kernel
theorem dX11_makeLeast_39 : decode cX11_makeLeast 39 = .ok (.aload_n 0, 1) := by decide +kernel
theorem dX11_makeLeast_40 : decode cX11_makeLeast 40 = .ok (.iload_n 1, 1) := by decide +kernel
theorem dX11_makeLeast_41 : decode cX11_makeLeast 41 = .ok (.iload_n 3, 1) := by decide +kernel
theorem dX11_makeLeast_42 : decode cX11_makeLeast 42 = .ok (.invokevirtual 352, 3) := by decide +kernel
theorem dX11_makeLeast_45 : decode cX11_makeLeast 45 = .ok (.goto 5, 3) := by decide +kernel
theorem dX11_makeLeast_48 : decode cX11_makeLeast 48 = .ok (.bipush (-2), 2) := by decide +kernel
theorem dX11_makeLeast_50 : decode cX11_makeLeast 50 = .ok (.istore 4, 2) := by decide +kernel
theorem dX11_makeLeast_52 : decode cX11_makeLeast 52 = .ok (.iload 4, 2) := by decide +kernel
theorem dX11_makeLeast_54 : decode cX11_makeLeast 54 = .ok (.ifCond .lt 49, 3) := by decide +kernel
theorem dX11_makeLeast_57 : decode cX11_makeLeast 57 = .ok (.iload_n 3, 1) := by decide +kernel
theorem dX11_makeLeast_58 : decode cX11_makeLeast 58 = .ok (.istore 5, 2) := by decide +kernel
theorem dX11_makeLeast_60 : decode cX11_makeLeast 60 = .ok (.iload 5, 2) := by decide +kernel
theorem dX11_makeLeast_62 : decode cX11_makeLeast 62 = .ok (.iconst 1, 1) := by decide +kernel
theorem dX11_makeLeast_63 : decode cX11_makeLeast 63 = .ok (.iadd, 1) := by decide +kernel
theorem dX11_makeLeast_64 : decode cX11_makeLeast 64 = .ok (.aload_n 0, 1) := by decide +kernel
theorem dX11_makeLeast_65 : decode cX11_makeLeast 65 = .ok (.getfield 346, 3) := by decide +kernel
theorem dX11_makeLeast_68 : decode cX11_makeLeast 68 = .ok (.if_icmp .ge 25, 3) := by decide +kernel
theorem dX11_makeLeast_71 : decode cX11_makeLeast 71 = .ok (.aload_n 0, 1) := by decide +kernel
theorem dX11_makeLeast_72 : decode cX11_makeLeast 72 = .ok (.getfield 92, 3) := by decide +kernel
theorem dX11_makeLeast_75 : decode cX11_makeLeast 75 = .ok (.iload 5, 2) := by decide +kernel
theorem dX11_makeLeast_77 : decode cX11_makeLeast 77 = .ok (.aload_n 0, 1) := by decide +kernel
theorem dX11_makeLeast_78 : decode cX11_makeLeast 78 = .ok (.getfield 92, 3) := by decide +kernel
theorem dX11_makeLeast_81 : decode cX11_makeLeast 81 = .ok (.iload 5, 2) := by decide +kernel
theorem dX11_makeLeast_83 : decode cX11_makeLeast 83 = .ok (.iconst 1, 1) := by decide +kernel
theorem dX11_makeLeast_84 : decode cX11_makeLeast 84 = .ok (.iadd, 1) := by decide +kernel
theorem dX11_makeLeast_85 : decode cX11_makeLeast 85 = .ok (.iaload, 1) := by decide +kernel
theorem dX11_makeLeast_86 : decode cX11_makeLeast 86 = .ok (.iastore, 1) := by decide +kernel
theorem dX11_makeLeast_87 : decode cX11_makeLeast 87 = .ok (.iinc 5 1, 3) := by decide +kernel
theorem dX11_makeLeast_90 : decode cX11_makeLeast 90 = .ok (.goto (-30), 3) := by decide +kernel
theorem dX11_makeLeast_93 : decode cX11_makeLeast 93 = .ok (.aload_n 0, 1) := by decide +kernel
theorem dX11_makeLeast_94 : decode cX11_makeLeast 94 = .ok (.iload 4, 2) := by decide +kernel
theorem dX11_makeLeast_96 : decode cX11_makeLeast 96 = .ok (.iconst 1, 1) := by decide +kernel
theorem dX11_makeLeast_97 : decode cX11_makeLeast 97 = .ok (.iadd, 1) := by decide +kernel
theorem dX11_makeLeast_98 : decode cX11_makeLeast 98 = .ok (.putfield 346, 3) := by decide +kernel
theorem dX11_makeLeast_101 : decode cX11_makeLeast 101 = .ok (.iconst 1, 1) := by decide +kernel
theorem dX11_makeLeast_102 : decode cX11_makeLeast 102 = .ok (.istore_n 2, 1) := by decide +kernel
theorem dX11_makeLeast_103 : decode cX11_makeLeast 103 = .ok (.iinc 3 (-1), 3) := by decide +kernel
theorem dX11_makeLeast_106 : decode cX11_makeLeast 106 = .ok (.goto (-79), 3) := by decide +kernel
theorem dX11_makeLeast_109 : decode cX11_makeLeast 109 = .ok (.goto (-95), 3) := by decide +kernel
theorem dX11_makeLeast_112 : decode cX11_makeLeast 112 = .ok (.return_, 1) := by decide +kernel
theorem dX11_isThere_0 : decode cX11_isThere 0 = .ok (.iconst 0, 1) := by decide +kernel
theorem dX11_isThere_1 : decode cX11_isThere 1 = .ok (.istore_n 2, 1) := by decide +kernel
theorem dX11_isThere_2 : decode cX11_isThere 2 = .ok (.iload_n 2, 1) := by decide +kernel
theorem dX11_isThere_3 : decode cX11_isThere 3 = .ok (.iload_n 1, 1) := by decide +kernel
theorem dX11_isThere_4 : decode cX11_isThere 4 = .ok (.if_icmp .ge 65, 3) := by decide +kernel
theorem dX11_isThere_7 : decode cX11_isThere 7 = .ok (.iconst 1, 1) := by decide +kernel
theorem dX11_isThere_8 : decode cX11_isThere 8 = .ok (.istore_n 3, 1) := by decide +kernel
theorem dX11_isThere_9 : decode cX11_isThere 9 = .ok (.iconst 0, 1) := by decide +kernel
theorem dX11_isThere_10 : decode cX11_isThere 10 = .ok (.istore 4, 2) := by decide +kernel
theorem dX11_isThere_12 : decode cX11_isThere 12 = .ok (.iload 4, 2) := by decide +kernel
theorem dX11_isThere_14 : decode cX11_isThere 14 = .ok (.bipush 19, 2) := by decide +kernel
theorem dX11_isThere_16 : decode cX11_isThere 16 = .ok (.if_icmp .ge 41, 3) := by decide +kernel
theorem dX11_isThere_19 : decode cX11_isThere 19 = .ok (.iload_n 3, 1) := by decide +kernel
theorem dX11_isThere_20 : decode cX11_isThere 20 = .ok (.ifCond .eq 37, 3) := by decide +kernel
theorem dX11_isThere_23 : decode cX11_isThere 23 = .ok (.aload_n 0, 1) := by decide +kernel
theorem dX11_isThere_24 : decode cX11_isThere 24 = .ok (.getfield 101, 3) := by decide +kernel
theorem dX11_isThere_27 : decode cX11_isThere 27 = .ok (.bipush 19, 2) := by decide +kernel
theorem dX11_isThere_29 : decode cX11_isThere 29 = .ok (.iload_n 2, 1) := by decide +kernel
theorem dX11_isThere_30 : decode cX11_isThere 30 = .ok (.imul, 1) := by decide +kernel
theorem dX11_isThere_31 : decode cX11_isThere 31 = .ok (.iload 4, 2) := by decide +kernel
theorem dX11_isThere_33 : decode cX11_isThere 33 = .ok (.iadd, 1) := by decide +kernel
theorem dX11_isThere_34 : decode cX11_isThere 34 = .ok (.iaload, 1) := by decide +kernel
theorem dX11_isThere_35 : decode cX11_isThere 35 = .ok (.aload_n 0, 1) := by decide +kernel
theorem dX11_isThere_36 : decode cX11_isThere 36 = .ok (.getfield 38, 3) := by decide +kernel
theorem dX11_isThere_39 : decode cX11_isThere 39 = .ok (.iload 4, 2) := by decide +kernel
theorem dX11_isThere_41 : decode cX11_isThere 41 = .ok (.iaload, 1) := by decide +kernel
theorem dX11_isThere_42 : decode cX11_isThere 42 = .ok (.if_icmp .ne 7, 3) := by decide +kernel
theorem dX11_isThere_45 : decode cX11_isThere 45 = .ok (.iconst 1, 1) := by decide +kernel
theorem dX11_isThere_46 : decode cX11_isThere 46 = .ok (.goto 4, 3) := by decide +kernel
theorem dX11_isThere_49 : decode cX11_isThere 49 = .ok (.iconst 0, 1) := by decide +kernel
theorem dX11_isThere_50 : decode cX11_isThere 50 = .ok (.istore_n 3, 1) := by decide +kernel
theorem dX11_isThere_51 : decode cX11_isThere 51 = .ok (.iinc 4 1, 3) := by decide +kernel
theorem dX11_isThere_54 : decode cX11_isThere 54 = .ok (.goto (-42), 3) := by decide +kernel
theorem dX11_isThere_57 : decode cX11_isThere 57 = .ok (.iload_n 3, 1) := by decide +kernel
theorem dX11_isThere_58 : decode cX11_isThere 58 = .ok (.ifCond .eq 5, 3) := by decide +kernel
theorem dX11_isThere_61 : decode cX11_isThere 61 = .ok (.iconst 1, 1) := by decide +kernel
theorem dX11_isThere_62 : decode cX11_isThere 62 = .ok (.ireturn, 1) := by decide +kernel
theorem dX11_isThere_63 : decode cX11_isThere 63 = .ok (.iinc 2 1, 3) := by decide +kernel
theorem dX11_isThere_66 : decode cX11_isThere 66 = .ok (.goto (-64), 3) := by decide +kernel
theorem dX11_isThere_69 : decode cX11_isThere 69 = .ok (.iconst 0, 1) := by decide +kernel
theorem dX11_isThere_70 : decode cX11_isThere 70 = .ok (.ireturn, 1) := by decide +kernel
theorem dX11_every_0 : decode cX11_every 0 = .ok (.aload_n 0, 1) := by decide +kernel
theorem dX11_every_1 : decode cX11_every 1 = .ok (.iload_n 1, 1) := by decide +kernel
theorem dX11_every_2 : decode cX11_every 2 = .ok (.invokevirtual 331, 3) := by decide +kernel
theorem dX11_every_5 : decode cX11_every 5 = .ok (.ifCond .eq 15, 3) := by decide +kernel
theorem dX11_every_8 : decode cX11_every 8 = .ok (.iload_n 2, 1) := by decide +kernel
theorem dX11_every_9 : decode cX11_every 9 = .ok (.i2l, 1) := by decide +kernel
theorem dX11_every_10 : decode cX11_every 10 = .ok (.lconst 1, 1) := by decide +kernel
theorem dX11_every_11 : decode cX11_every 11 = .ok (.ldc2_w 356, 3) := by decide +kernel
theorem dX11_every_14 : decode cX11_every 14 = .ok (.invokestatic 117, 3) := by decide +kernel
theorem dX11_every_17 : decode cX11_every 17 = .ok (.ifCond .ne 5, 3) := by decide +kernel
theorem dX11_every_20 : decode cX11_every 20 = .ok (.iconst (-1), 1) := by decide +kernel
theorem dX11_every_21 : decode cX11_every 21 = .ok (.ireturn, 1) := by decide +kernel
theorem dX11_every_22 : decode cX11_every 22 = .ok (.aload_n 0, 1) := by decide +kernel
theorem dX11_every_23 : decode cX11_every 23 = .ok (.getfield 340, 3) := by decide +kernel
theorem dX11_every_26 : decode cX11_every 26 = .ok (.bipush 20, 2) := by decide +kernel
theorem dX11_every_28 : decode cX11_every 28 = .ok (.if_icmp .ne 6, 3) := by decide +kernel
theorem dX11_every_31 : decode cX11_every 31 = .ok (.bipush (-3), 2) := by decide +kernel
theorem dX11_every_33 : decode cX11_every 33 = .ok (.ireturn, 1) := by decide +kernel
theorem dX11_every_34 : decode cX11_every 34 = .ok (.aload_n 0, 1) := by decide +kernel
theorem dX11_every_35 : decode cX11_every 35 = .ok (.invokevirtual 317, 3) := by decide +kernel
theorem dX11_every_38 : decode cX11_every 38 = .ok (.aload_n 0, 1) := by decide +kernel
theorem dX11_every_39 : decode cX11_every 39 = .ok (.aload_n 0, 1) := by decide +kernel
theorem dX11_every_40 : decode cX11_every 40 = .ok (.getfield 101, 3) := by decide +kernel
theorem dX11_every_43 : decode cX11_every 43 = .ok (.iconst 0, 1) := by decide +kernel
theorem dX11_every_44 : decode cX11_every 44 = .ok (.invokevirtual 276, 3) := by decide +kernel
theorem dX11_every_47 : decode cX11_every 47 = .ok (.aload_n 0, 1) := by decide +kernel
theorem dX11_every_48 : decode cX11_every 48 = .ok (.getfield 110, 3) := by decide +kernel
theorem dX11_every_51 : decode cX11_every 51 = .ok (.iconst 0, 1) := by decide +kernel
theorem dX11_every_52 : decode cX11_every 52 = .ok (.iconst 0, 1) := by decide +kernel
theorem dX11_every_53 : decode cX11_every 53 = .ok (.iastore, 1) := by decide +kernel
theorem dX11_every_54 : decode cX11_every 54 = .ok (.aload_n 0, 1) := by decide +kernel
theorem dX11_every_55 : decode cX11_every 55 = .ok (.iconst 1, 1) := by decide +kernel
theorem dX11_every_56 : decode cX11_every 56 = .ok (.putfield 358, 3) := by decide +kernel
theorem dX11_every_59 : decode cX11_every 59 = .ok (.iconst 0, 1) := by decide +kernel
theorem dX11_every_60 : decode cX11_every 60 = .ok (.istore_n 3, 1) := by decide +kernel
theorem dX11_every_61 : decode cX11_every 61 = .ok (.iload_n 3, 1) := by decide +kernel
theorem dX11_every_62 : decode cX11_every 62 = .ok (.aload_n 0, 1) := by decide +kernel
theorem dX11_every_63 : decode cX11_every 63 = .ok (.getfield 358, 3) := by decide +kernel
theorem dX11_every_66 : decode cX11_every 66 = .ok (.if_icmp .ge 164, 3) := by decide +kernel
theorem dX11_every_69 : decode cX11_every 69 = .ok (.iconst 0, 1) := by decide +kernel
theorem dX11_every_70 : decode cX11_every 70 = .ok (.istore 4, 2) := by decide +kernel
theorem dX11_every_72 : decode cX11_every 72 = .ok (.iload 4, 2) := by decide +kernel
theorem dX11_every_74 : decode cX11_every 74 = .ok (.aload_n 0, 1) := by decide +kernel
theorem dX11_every_75 : decode cX11_every 75 = .ok (.getfield 337, 3) := by decide +kernel
theorem dX11_every_78 : decode cX11_every 78 = .ok (.if_icmp .ge 146, 3) := by decide +kernel
theorem dX11_every_81 : decode cX11_every 81 = .ok (.aload_n 0, 1) := by decide +kernel
theorem dX11_every_82 : decode cX11_every 82 = .ok (.aload_n 0, 1) := by decide +kernel
theorem dX11_every_83 : decode cX11_every 83 = .ok (.getfield 101, 3) := by decide +kernel
theorem dX11_every_86 : decode cX11_every 86 = .ok (.iload_n 3, 1) := by decide +kernel
theorem dX11_every_87 : decode cX11_every 87 = .ok (.invokevirtual 280, 3) := by decide +kernel
theorem dX11_every_90 : decode cX11_every 90 = .ok (.aload_n 0, 1) := by decide +kernel
theorem dX11_every_91 : decode cX11_every 91 = .ok (.iload 4, 2) := by decide +kernel
theorem dX11_every_93 : decode cX11_every 93 = .ok (.invokevirtual 349, 3) := by decide +kernel
theorem dX11_every_96 : decode cX11_every 96 = .ok (.aload_n 0, 1) := by decide +kernel
theorem dX11_every_97 : decode cX11_every 97 = .ok (.iload_n 1, 1) := by decide +kernel
theorem dX11_every_98 : decode cX11_every 98 = .ok (.invokevirtual 334, 3) := by decide +kernel
theorem dX11_every_101 : decode cX11_every 101 = .ok (.ifCond .eq 14, 3) := by decide +kernel
theorem dX11_every_104 : decode cX11_every 104 = .ok (.bipush (-10), 2) := by decide +kernel
theorem dX11_every_106 : decode cX11_every 106 = .ok (.aload_n 0, 1) := by decide +kernel
theorem dX11_every_107 : decode cX11_every 107 = .ok (.iload_n 3, 1) := by decide +kernel
theorem dX11_every_108 : decode cX11_every 108 = .ok (.iload 4, 2) := by decide +kernel
theorem dX11_every_110 : decode cX11_every 110 = .ok (.invokevirtual 361, 3) := by decide +kernel
theorem dX11_every_113 : decode cX11_every 113 = .ok (.isub, 1) := by decide +kernel
theorem dX11_every_114 : decode cX11_every 114 = .ok (.ireturn, 1) := by decide +kernel
theorem dX11_every_115 : decode cX11_every 115 = .ok (.aload_n 0, 1) := by decide +kernel
theorem dX11_every_116 : decode cX11_every 116 = .ok (.getfield 110, 3) := by decide +kernel
theorem dX11_every_119 : decode cX11_every 119 = .ok (.iload_n 3, 1) := by decide +kernel
theorem dX11_every_120 : decode cX11_every 120 = .ok (.iaload, 1) := by decide +kernel
theorem dX11_every_121 : decode cX11_every 121 = .ok (.iconst 1, 1) := by decide +kernel
theorem dX11_every_122 : decode cX11_every 122 = .ok (.iadd, 1) := by decide +kernel
theorem dX11_every_123 : decode cX11_every 123 = .ok (.iload_n 2, 1) := by decide +kernel
theorem dX11_every_124 : decode cX11_every 124 = .ok (.if_icmp .ge 94, 3) := by decide +kernel
theorem dX11_every_127 : decode cX11_every 127 = .ok (.aload_n 0, 1) := by decide +kernel
theorem dX11_every_128 : decode cX11_every 128 = .ok (.aload_n 0, 1) := by decide +kernel
theorem dX11_every_129 : decode cX11_every 129 = .ok (.getfield 358, 3) := by decide +kernel
theorem dX11_every_132 : decode cX11_every 132 = .ok (.invokevirtual 364, 3) := by decide +kernel
theorem dX11_every_135 : decode cX11_every 135 = .ok (.ifCond .ne 83, 3) := by decide +kernel
theorem dX11_every_138 : decode cX11_every 138 = .ok (.aload_n 0, 1) := by decide +kernel
theorem dX11_every_139 : decode cX11_every 139 = .ok (.getfield 358, 3) := by decide +kernel
theorem dX11_every_142 : decode cX11_every 142 = .ok (.sipush 400, 3) := by decide +kernel
theorem dX11_every_145 : decode cX11_every 145 = .ok (.if_icmp .ne 13, 3) := by decide +kernel
theorem dX11_every_148 : decode cX11_every 148 = .ok (.aload_n 0, 1) := by decide +kernel
theorem dX11_every_149 : decode cX11_every 149 = .ok (.sipush 401, 3) := by decide +kernel
theorem dX11_every_152 : decode cX11_every 152 = .ok (.putfield 358, 3) := by decide +kernel
theorem dX11_every_155 : decode cX11_every 155 = .ok (.bipush (-2), 2) := by decide +kernel
theorem dX11_every_157 : decode cX11_every 157 = .ok (.ireturn, 1) := by decide +kernel
theorem dX11_every_158 : decode cX11_every 158 = .ok (.aload_n 0, 1) := by decide +kernel
theorem dX11_every_159 : decode cX11_every 159 = .ok (.aload_n 0, 1) := by decide +kernel
theorem dX11_every_160 : decode cX11_every 160 = .ok (.getfield 101, 3) := by decide +kernel
theorem dX11_every_163 : decode cX11_every 163 = .ok (.aload_n 0, 1) := by decide +kernel
theorem dX11_every_164 : decode cX11_every 164 = .ok (.getfield 358, 3) := by decide +kernel
theorem dX11_every_167 : decode cX11_every 167 = .ok (.invokevirtual 276, 3) := by decide +kernel
theorem dX11_every_170 : decode cX11_every 170 = .ok (.aload_n 0, 1) := by decide +kernel
theorem dX11_every_171 : decode cX11_every 171 = .ok (.getfield 104, 3) := by decide +kernel
theorem dX11_every_174 : decode cX11_every 174 = .ok (.aload_n 0, 1) := by decide +kernel
theorem dX11_every_175 : decode cX11_every 175 = .ok (.getfield 358, 3) := by decide +kernel
theorem dX11_every_178 : decode cX11_every 178 = .ok (.iload_n 3, 1) := by decide +kernel
theorem dX11_every_179 : decode cX11_every 179 = .ok (.iastore, 1) := by decide +kernel
theorem dX11_every_180 : decode cX11_every 180 = .ok (.aload_n 0, 1) := by decide +kernel
theorem dX11_every_181 : decode cX11_every 181 = .ok (.getfield 107, 3) := by decide +kernel
theorem dX11_every_184 : decode cX11_every 184 = .ok (.aload_n 0, 1) := by decide +kernel
theorem dX11_every_185 : decode cX11_every 185 = .ok (.getfield 358, 3) := by decide +kernel
theorem dX11_every_188 : decode cX11_every 188 = .ok (.iload 4, 2) := by decide +kernel
theorem dX11_every_190 : decode cX11_every 190 = .ok (.iastore, 1) := by decide +kernel
theorem dX11_every_191 : decode cX11_every 191 = .ok (.aload_n 0, 1) := by decide +kernel
theorem dX11_every_192 : decode cX11_every 192 = .ok (.getfield 110, 3) := by decide +kernel
theorem dX11_every_195 : decode cX11_every 195 = .ok (.aload_n 0, 1) := by decide +kernel
theorem dX11_every_196 : decode cX11_every 196 = .ok (.getfield 358, 3) := by decide +kernel
theorem dX11_every_199 : decode cX11_every 199 = .ok (.aload_n 0, 1) := by decide +kernel
theorem dX11_every_200 : decode cX11_every 200 = .ok (.getfield 110, 3) := by decide +kernel
theorem dX11_every_203 : decode cX11_every 203 = .ok (.iload_n 3, 1) := by decide +kernel
theorem dX11_every_204 : decode cX11_every 204 = .ok (.iaload, 1) := by decide +kernel
theorem dX11_every_205 : decode cX11_every 205 = .ok (.iconst 1, 1) := by decide +kernel
theorem dX11_every_206 : decode cX11_every 206 = .ok (.iadd, 1) := by decide +kernel
theorem dX11_every_207 : decode cX11_every 207 = .ok (.iastore, 1) := by decide +kernel
theorem dX11_every_208 : decode cX11_every 208 = .ok (.aload_n 0, 1) := by decide +kernel
theorem dX11_every_209 : decode cX11_every 209 = .ok (.dup, 1) := by decide +kernel
theorem dX11_every_210 : decode cX11_every 210 = .ok (.getfield 358, 3) := by decide +kernel
theorem dX11_every_213 : decode cX11_every 213 = .ok (.iconst 1, 1) := by decide +kernel
theorem dX11_every_214 : decode cX11_every 214 = .ok (.iadd, 1) := by decide +kernel
theorem dX11_every_215 : decode cX11_every 215 = .ok (.putfield 358, 3) := by decide +kernel
theorem dX11_every_218 : decode cX11_every 218 = .ok (.iinc 4 1, 3) := by decide +kernel
theorem dX11_every_221 : decode cX11_every 221 = .ok (.goto (-149), 3) := by decide +kernel
theorem dX11_every_224 : decode cX11_every 224 = .ok (.iinc 3 1, 3) := by decide +kernel
theorem dX11_every_227 : decode cX11_every 227 = .ok (.goto (-166), 3) := by decide +kernel
theorem dX11_every_230 : decode cX11_every 230 = .ok (.iconst 1, 1) := by decide +kernel
theorem dX11_every_231 : decode cX11_every 231 = .ok (.ireturn, 1) := by decide +kernel
theorem dX11_rowTo_0 : decode cX11_rowTo 0 = .ok (.aload_n 0, 1) := by decide +kernel
theorem dX11_rowTo_1 : decode cX11_rowTo 1 = .ok (.aload_n 0, 1) := by decide +kernel
theorem dX11_rowTo_2 : decode cX11_rowTo 2 = .ok (.getfield 110, 3) := by decide +kernel
theorem dX11_rowTo_5 : decode cX11_rowTo 5 = .ok (.iload_n 1, 1) := by decide +kernel
theorem dX11_rowTo_6 : decode cX11_rowTo 6 = .ok (.iaload, 1) := by decide +kernel
theorem dX11_rowTo_7 : decode cX11_rowTo 7 = .ok (.iconst 1, 1) := by decide +kernel
theorem dX11_rowTo_8 : decode cX11_rowTo 8 = .ok (.iadd, 1) := by decide +kernel
theorem dX11_rowTo_9 : decode cX11_rowTo 9 = .ok (.putfield 346, 3) := by decide +kernel
theorem dX11_rowTo_12 : decode cX11_rowTo 12 = .ok (.aload_n 0, 1) := by decide +kernel
theorem dX11_rowTo_13 : decode cX11_rowTo 13 = .ok (.getfield 92, 3) := by decide +kernel
theorem dX11_rowTo_16 : decode cX11_rowTo 16 = .ok (.aload_n 0, 1) := by decide +kernel
theorem dX11_rowTo_17 : decode cX11_rowTo 17 = .ok (.getfield 346, 3) := by decide +kernel
theorem dX11_rowTo_20 : decode cX11_rowTo 20 = .ok (.iconst 1, 1) := by decide +kernel
theorem dX11_rowTo_21 : decode cX11_rowTo 21 = .ok (.isub, 1) := by decide +kernel
theorem dX11_rowTo_22 : decode cX11_rowTo 22 = .ok (.iload_n 2, 1) := by decide +kernel
theorem dX11_rowTo_23 : decode cX11_rowTo 23 = .ok (.iastore, 1) := by decide +kernel
theorem dX11_rowTo_24 : decode cX11_rowTo 24 = .ok (.iload_n 1, 1) := by decide +kernel
theorem dX11_rowTo_25 : decode cX11_rowTo 25 = .ok (.istore_n 3, 1) := by decide +kernel
theorem dX11_rowTo_26 : decode cX11_rowTo 26 = .ok (.aload_n 0, 1) := by decide +kernel
theorem dX11_rowTo_27 : decode cX11_rowTo 27 = .ok (.getfield 346, 3) := by decide +kernel
theorem dX11_rowTo_30 : decode cX11_rowTo 30 = .ok (.iconst 2, 1) := by decide +kernel
theorem dX11_rowTo_31 : decode cX11_rowTo 31 = .ok (.isub, 1) := by decide +kernel
theorem dX11_rowTo_32 : decode cX11_rowTo 32 = .ok (.istore 4, 2) := by decide +kernel
theorem dX11_rowTo_34 : decode cX11_rowTo 34 = .ok (.iload 4, 2) := by decide +kernel
theorem dX11_rowTo_36 : decode cX11_rowTo 36 = .ok (.ifCond .lt 29, 3) := by decide +kernel
theorem dX11_rowTo_39 : decode cX11_rowTo 39 = .ok (.aload_n 0, 1) := by decide +kernel
theorem dX11_rowTo_40 : decode cX11_rowTo 40 = .ok (.getfield 92, 3) := by decide +kernel
theorem dX11_rowTo_43 : decode cX11_rowTo 43 = .ok (.iload 4, 2) := by decide +kernel
theorem dX11_rowTo_45 : decode cX11_rowTo 45 = .ok (.aload_n 0, 1) := by decide +kernel
theorem dX11_rowTo_46 : decode cX11_rowTo 46 = .ok (.getfield 107, 3) := by decide +kernel
theorem dX11_rowTo_49 : decode cX11_rowTo 49 = .ok (.iload_n 3, 1) := by decide +kernel
theorem dX11_rowTo_50 : decode cX11_rowTo 50 = .ok (.iaload, 1) := by decide +kernel
theorem dX11_rowTo_51 : decode cX11_rowTo 51 = .ok (.iastore, 1) := by decide +kernel
theorem dX11_rowTo_52 : decode cX11_rowTo 52 = .ok (.aload_n 0, 1) := by decide +kernel
theorem dX11_rowTo_53 : decode cX11_rowTo 53 = .ok (.getfield 104, 3) := by decide +kernel
theorem dX11_rowTo_56 : decode cX11_rowTo 56 = .ok (.iload_n 3, 1) := by decide +kernel
theorem dX11_rowTo_57 : decode cX11_rowTo 57 = .ok (.iaload, 1) := by decide +kernel
theorem dX11_rowTo_58 : decode cX11_rowTo 58 = .ok (.istore_n 3, 1) := by decide +kernel
theorem dX11_rowTo_59 : decode cX11_rowTo 59 = .ok (.iinc 4 (-1), 3) := by decide +kernel
theorem dX11_rowTo_62 : decode cX11_rowTo 62 = .ok (.goto (-28), 3) := by decide +kernel
theorem dX11_rowTo_65 : decode cX11_rowTo 65 = .ok (.aload_n 0, 1) := by decide +kernel
theorem dX11_rowTo_66 : decode cX11_rowTo 66 = .ok (.invokevirtual 367, 3) := by decide +kernel
theorem dX11_rowTo_69 : decode cX11_rowTo 69 = .ok (.ireturn, 1) := by decide +kernel
theorem dX11_states_0 : decode cX11_states 0 = .ok (.aload_n 0, 1) := by decide +kernel
theorem dX11_states_1 : decode cX11_states 1 = .ok (.getfield 358, 3) := by decide +kernel
theorem dX11_states_4 : decode cX11_states 4 = .ok (.ireturn, 1) := by decide +kernel
theorem dX11_drawn_0 : decode cX11_drawn 0 = .ok (.aload_n 0, 1) := by decide +kernel
theorem dX11_drawn_1 : decode cX11_drawn 1 = .ok (.aload_n 0, 1) := by decide +kernel
theorem dX11_drawn_2 : decode cX11_drawn 2 = .ok (.getfield 370, 3) := by decide +kernel
theorem dX11_drawn_5 : decode cX11_drawn 5 = .ok (.ldc_w 373, 3) := by decide +kernel
theorem dX11_drawn_8 : decode cX11_drawn 8 = .ok (.imul, 1) := by decide +kernel
theorem dX11_drawn_9 : decode cX11_drawn 9 = .ok (.sipush 12345, 3) := by decide +kernel
theorem dX11_drawn_12 : decode cX11_drawn 12 = .ok (.iadd, 1) := by decide +kernel
theorem dX11_drawn_13 : decode cX11_drawn 13 = .ok (.putfield 370, 3) := by decide +kernel
theorem dX11_drawn_16 : decode cX11_drawn 16 = .ok (.aload_n 0, 1) := by decide +kernel
theorem dX11_drawn_17 : decode cX11_drawn 17 = .ok (.getfield 370, 3) := by decide +kernel
theorem dX11_drawn_20 : decode cX11_drawn 20 = .ok (.bipush 16, 2) := by decide +kernel
theorem dX11_drawn_22 : decode cX11_drawn 22 = .ok (.iushr, 1) := by decide +kernel
theorem dX11_drawn_23 : decode cX11_drawn 23 = .ok (.ireturn, 1) := by decide +kernel
theorem dX11_drawRow_0 : decode cX11_drawRow 0 = .ok (.aload_n 0, 1) := by decide +kernel
theorem dX11_drawRow_1 : decode cX11_drawRow 1 = .ok (.invokevirtual 374, 3) := by decide +kernel
theorem dX11_drawRow_4 : decode cX11_drawRow 4 = .ok (.istore_n 1, 1) := by decide +kernel
theorem dX11_drawRow_5 : decode cX11_drawRow 5 = .ok (.aload_n 0, 1) := by decide +kernel
theorem dX11_drawRow_6 : decode cX11_drawRow 6 = .ok (.iconst 0, 1) := by decide +kernel
theorem dX11_drawRow_7 : decode cX11_drawRow 7 = .ok (.putfield 346, 3) := by decide +kernel
theorem dX11_drawRow_10 : decode cX11_drawRow 10 = .ok (.aload_n 0, 1) := by decide +kernel
theorem dX11_drawRow_11 : decode cX11_drawRow 11 = .ok (.getfield 343, 3) := by decide +kernel
theorem dX11_drawRow_14 : decode cX11_drawRow 14 = .ok (.ifCond .le 62, 3) := by decide +kernel
theorem dX11_drawRow_17 : decode cX11_drawRow 17 = .ok (.iload_n 1, 1) := by decide +kernel
theorem dX11_drawRow_18 : decode cX11_drawRow 18 = .ok (.iconst 1, 1) := by decide +kernel
theorem dX11_drawRow_19 : decode cX11_drawRow 19 = .ok (.iand, 1) := by decide +kernel
theorem dX11_drawRow_20 : decode cX11_drawRow 20 = .ok (.iconst 1, 1) := by decide +kernel
theorem dX11_drawRow_21 : decode cX11_drawRow 21 = .ok (.if_icmp .ne 55, 3) := by decide +kernel
theorem dX11_drawRow_24 : decode cX11_drawRow 24 = .ok (.iload_n 1, 1) := by decide +kernel
theorem dX11_drawRow_25 : decode cX11_drawRow 25 = .ok (.iconst 2, 1) := by decide +kernel
theorem dX11_drawRow_26 : decode cX11_drawRow 26 = .ok (.idiv, 1) := by decide +kernel
theorem dX11_drawRow_27 : decode cX11_drawRow 27 = .ok (.aload_n 0, 1) := by decide +kernel
theorem dX11_drawRow_28 : decode cX11_drawRow 28 = .ok (.getfield 343, 3) := by decide +kernel
theorem dX11_drawRow_31 : decode cX11_drawRow 31 = .ok (.irem, 1) := by decide +kernel
theorem dX11_drawRow_32 : decode cX11_drawRow 32 = .ok (.istore_n 2, 1) := by decide +kernel
theorem dX11_drawRow_33 : decode cX11_drawRow 33 = .ok (.aload_n 0, 1) := by decide +kernel
theorem dX11_drawRow_34 : decode cX11_drawRow 34 = .ok (.aload_n 0, 1) := by decide +kernel
theorem dX11_drawRow_35 : decode cX11_drawRow 35 = .ok (.getfield 95, 3) := by decide +kernel
theorem dX11_drawRow_38 : decode cX11_drawRow 38 = .ok (.iload_n 2, 1) := by decide +kernel
theorem dX11_drawRow_39 : decode cX11_drawRow 39 = .ok (.iaload, 1) := by decide +kernel
theorem dX11_drawRow_40 : decode cX11_drawRow 40 = .ok (.putfield 346, 3) := by decide +kernel
theorem dX11_drawRow_43 : decode cX11_drawRow 43 = .ok (.iconst 0, 1) := by decide +kernel
theorem dX11_drawRow_44 : decode cX11_drawRow 44 = .ok (.istore_n 3, 1) := by decide +kernel
theorem dX11_drawRow_45 : decode cX11_drawRow 45 = .ok (.iload_n 3, 1) := by decide +kernel
theorem dX11_drawRow_46 : decode cX11_drawRow 46 = .ok (.aload_n 0, 1) := by decide +kernel
theorem dX11_drawRow_47 : decode cX11_drawRow 47 = .ok (.getfield 346, 3) := by decide +kernel
theorem dX11_drawRow_50 : decode cX11_drawRow 50 = .ok (.if_icmp .ge 26, 3) := by decide +kernel
theorem dX11_drawRow_53 : decode cX11_drawRow 53 = .ok (.aload_n 0, 1) := by decide +kernel
theorem dX11_drawRow_54 : decode cX11_drawRow 54 = .ok (.getfield 92, 3) := by decide +kernel
theorem dX11_drawRow_57 : decode cX11_drawRow 57 = .ok (.iload_n 3, 1) := by decide +kernel
theorem dX11_drawRow_58 : decode cX11_drawRow 58 = .ok (.aload_n 0, 1) := by decide +kernel
theorem dX11_drawRow_59 : decode cX11_drawRow 59 = .ok (.getfield 98, 3) := by decide +kernel
theorem dX11_drawRow_62 : decode cX11_drawRow 62 = .ok (.bipush 12, 2) := by decide +kernel
theorem dX11_drawRow_64 : decode cX11_drawRow 64 = .ok (.iload_n 2, 1) := by decide +kernel
theorem dX11_drawRow_65 : decode cX11_drawRow 65 = .ok (.imul, 1) := by decide +kernel
theorem dX11_drawRow_66 : decode cX11_drawRow 66 = .ok (.iload_n 3, 1) := by decide +kernel
theorem dX11_drawRow_67 : decode cX11_drawRow 67 = .ok (.iadd, 1) := by decide +kernel
theorem dX11_drawRow_68 : decode cX11_drawRow 68 = .ok (.iaload, 1) := by decide +kernel
theorem dX11_drawRow_69 : decode cX11_drawRow 69 = .ok (.iastore, 1) := by decide +kernel
theorem dX11_drawRow_70 : decode cX11_drawRow 70 = .ok (.iinc 3 1, 3) := by decide +kernel
theorem dX11_drawRow_73 : decode cX11_drawRow 73 = .ok (.goto (-28), 3) := by decide +kernel
theorem dX11_drawRow_76 : decode cX11_drawRow 76 = .ok (.iconst 1, 1) := by decide +kernel
theorem dX11_drawRow_77 : decode cX11_drawRow 77 = .ok (.aload_n 0, 1) := by decide +kernel
theorem dX11_drawRow_78 : decode cX11_drawRow 78 = .ok (.invokevirtual 374, 3) := by decide +kernel
theorem dX11_drawRow_81 : decode cX11_drawRow 81 = .ok (.bipush 6, 2) := by decide +kernel
theorem dX11_drawRow_83 : decode cX11_drawRow 83 = .ok (.irem, 1) := by decide +kernel
theorem dX11_drawRow_84 : decode cX11_drawRow 84 = .ok (.iadd, 1) := by decide +kernel
theorem dX11_drawRow_85 : decode cX11_drawRow 85 = .ok (.istore_n 2, 1) := by decide +kernel
theorem dX11_drawRow_86 : decode cX11_drawRow 86 = .ok (.iconst 0, 1) := by decide +kernel
theorem dX11_drawRow_87 : decode cX11_drawRow 87 = .ok (.istore_n 3, 1) := by decide +kernel
theorem dX11_drawRow_88 : decode cX11_drawRow 88 = .ok (.iload_n 3, 1) := by decide +kernel
theorem dX11_drawRow_89 : decode cX11_drawRow 89 = .ok (.iload_n 2, 1) := by decide +kernel
theorem dX11_drawRow_90 : decode cX11_drawRow 90 = .ok (.if_icmp .ge 46, 3) := by decide +kernel
theorem dX11_drawRow_93 : decode cX11_drawRow 93 = .ok (.aload_n 0, 1) := by decide +kernel
theorem dX11_drawRow_94 : decode cX11_drawRow 94 = .ok (.getfield 346, 3) := by decide +kernel
theorem dX11_drawRow_97 : decode cX11_drawRow 97 = .ok (.bipush 12, 2) := by decide +kernel
theorem dX11_drawRow_99 : decode cX11_drawRow 99 = .ok (.if_icmp .ge 37, 3) := by decide +kernel
theorem dX11_drawRow_102 : decode cX11_drawRow 102 = .ok (.aload_n 0, 1) := by decide +kernel
theorem dX11_drawRow_103 : decode cX11_drawRow 103 = .ok (.getfield 92, 3) := by decide +kernel
theorem dX11_drawRow_106 : decode cX11_drawRow 106 = .ok (.aload_n 0, 1) := by decide +kernel
theorem dX11_drawRow_107 : decode cX11_drawRow 107 = .ok (.getfield 346, 3) := by decide +kernel
theorem dX11_drawRow_110 : decode cX11_drawRow 110 = .ok (.aload_n 0, 1) := by decide +kernel
theorem dX11_drawRow_111 : decode cX11_drawRow 111 = .ok (.invokevirtual 374, 3) := by decide +kernel
theorem dX11_drawRow_114 : decode cX11_drawRow 114 = .ok (.aload_n 0, 1) := by decide +kernel
theorem dX11_drawRow_115 : decode cX11_drawRow 115 = .ok (.getfield 337, 3) := by decide +kernel
theorem dX11_drawRow_118 : decode cX11_drawRow 118 = .ok (.irem, 1) := by decide +kernel
theorem dX11_drawRow_119 : decode cX11_drawRow 119 = .ok (.iastore, 1) := by decide +kernel
theorem dX11_drawRow_120 : decode cX11_drawRow 120 = .ok (.aload_n 0, 1) := by decide +kernel
theorem dX11_drawRow_121 : decode cX11_drawRow 121 = .ok (.dup, 1) := by decide +kernel
theorem dX11_drawRow_122 : decode cX11_drawRow 122 = .ok (.getfield 346, 3) := by decide +kernel
theorem dX11_drawRow_125 : decode cX11_drawRow 125 = .ok (.iconst 1, 1) := by decide +kernel
theorem dX11_drawRow_126 : decode cX11_drawRow 126 = .ok (.iadd, 1) := by decide +kernel
theorem dX11_drawRow_127 : decode cX11_drawRow 127 = .ok (.putfield 346, 3) := by decide +kernel
theorem dX11_drawRow_130 : decode cX11_drawRow 130 = .ok (.iinc 3 1, 3) := by decide +kernel
theorem dX11_drawRow_133 : decode cX11_drawRow 133 = .ok (.goto (-45), 3) := by decide +kernel
theorem dX11_drawRow_136 : decode cX11_drawRow 136 = .ok (.return_, 1) := by decide +kernel
theorem dX11_draw_0 : decode cX11_draw 0 = .ok (.aload_n 0, 1) := by decide +kernel
theorem dX11_draw_1 : decode cX11_draw 1 = .ok (.iload_n 1, 1) := by decide +kernel
theorem dX11_draw_2 : decode cX11_draw 2 = .ok (.invokevirtual 331, 3) := by decide +kernel
theorem dX11_draw_5 : decode cX11_draw 5 = .ok (.ifCond .eq 22, 3) := by decide +kernel
theorem dX11_draw_8 : decode cX11_draw 8 = .ok (.iload_n 3, 1) := by decide +kernel
theorem dX11_draw_9 : decode cX11_draw 9 = .ok (.i2l, 1) := by decide +kernel
theorem dX11_draw_10 : decode cX11_draw 10 = .ok (.lconst 1, 1) := by decide +kernel
theorem dX11_draw_11 : decode cX11_draw 11 = .ok (.ldc2_w 377, 3) := by decide +kernel
theorem dX11_draw_14 : decode cX11_draw 14 = .ok (.invokestatic 117, 3) := by decide +kernel
theorem dX11_draw_17 : decode cX11_draw 17 = .ok (.ifCond .eq 10, 3) := by decide +kernel
theorem dX11_draw_20 : decode cX11_draw 20 = .ok (.aload_n 0, 1) := by decide +kernel
theorem dX11_draw_21 : decode cX11_draw 21 = .ok (.getfield 337, 3) := by decide +kernel
theorem dX11_draw_24 : decode cX11_draw 24 = .ok (.ifCond .ne 5, 3) := by decide +kernel
theorem dX11_draw_27 : decode cX11_draw 27 = .ok (.iconst (-1), 1) := by decide +kernel
theorem dX11_draw_28 : decode cX11_draw 28 = .ok (.ireturn, 1) := by decide +kernel
theorem dX11_draw_29 : decode cX11_draw 29 = .ok (.aload_n 0, 1) := by decide +kernel
theorem dX11_draw_30 : decode cX11_draw 30 = .ok (.getfield 340, 3) := by decide +kernel
theorem dX11_draw_33 : decode cX11_draw 33 = .ok (.bipush 20, 2) := by decide +kernel
theorem dX11_draw_35 : decode cX11_draw 35 = .ok (.if_icmp .ne 6, 3) := by decide +kernel
theorem dX11_draw_38 : decode cX11_draw 38 = .ok (.bipush (-3), 2) := by decide +kernel
theorem dX11_draw_40 : decode cX11_draw 40 = .ok (.ireturn, 1) := by decide +kernel
theorem dX11_draw_41 : decode cX11_draw 41 = .ok (.aload_n 0, 1) := by decide +kernel
theorem dX11_draw_42 : decode cX11_draw 42 = .ok (.iload_n 2, 1) := by decide +kernel
theorem dX11_draw_43 : decode cX11_draw 43 = .ok (.putfield 370, 3) := by decide +kernel
theorem dX11_draw_46 : decode cX11_draw 46 = .ok (.iconst 0, 1) := by decide +kernel
theorem dX11_draw_47 : decode cX11_draw 47 = .ok (.istore 4, 2) := by decide +kernel
theorem dX11_draw_49 : decode cX11_draw 49 = .ok (.iload 4, 2) := by decide +kernel
theorem dX11_draw_51 : decode cX11_draw 51 = .ok (.iload_n 3, 1) := by decide +kernel
theorem dX11_draw_52 : decode cX11_draw 52 = .ok (.if_icmp .ge 150, 3) := by decide +kernel
theorem dX11_draw_55 : decode cX11_draw 55 = .ok (.aload_n 0, 1) := by decide +kernel
theorem dX11_draw_56 : decode cX11_draw 56 = .ok (.invokevirtual 379, 3) := by decide +kernel
theorem dX11_draw_59 : decode cX11_draw 59 = .ok (.aload_n 0, 1) := by decide +kernel
theorem dX11_draw_60 : decode cX11_draw 60 = .ok (.iconst 1, 1) := by decide +kernel
theorem dX11_draw_61 : decode cX11_draw 61 = .ok (.putfield 283, 3) := by decide +kernel
theorem dX11_draw_64 : decode cX11_draw 64 = .ok (.aload_n 0, 1) := by decide +kernel
theorem dX11_draw_65 : decode cX11_draw 65 = .ok (.iconst 0, 1) := by decide +kernel
theorem dX11_draw_66 : decode cX11_draw 66 = .ok (.putfield 286, 3) := by decide +kernel
theorem dX11_draw_69 : decode cX11_draw 69 = .ok (.aload_n 0, 1) := by decide +kernel
theorem dX11_draw_70 : decode cX11_draw 70 = .ok (.iload_n 1, 1) := by decide +kernel
theorem dX11_draw_71 : decode cX11_draw 71 = .ok (.iconst (-1), 1) := by decide +kernel
theorem dX11_draw_72 : decode cX11_draw 72 = .ok (.invokevirtual 352, 3) := by decide +kernel
theorem dX11_draw_75 : decode cX11_draw 75 = .ok (.istore 5, 2) := by decide +kernel
theorem dX11_draw_77 : decode cX11_draw 77 = .ok (.aload_n 0, 1) := by decide +kernel
theorem dX11_draw_78 : decode cX11_draw 78 = .ok (.iconst 0, 1) := by decide +kernel
theorem dX11_draw_79 : decode cX11_draw 79 = .ok (.putfield 283, 3) := by decide +kernel
theorem dX11_draw_82 : decode cX11_draw 82 = .ok (.aload_n 0, 1) := by decide +kernel
theorem dX11_draw_83 : decode cX11_draw 83 = .ok (.iload 5, 2) := by decide +kernel
theorem dX11_draw_85 : decode cX11_draw 85 = .ok (.ifCond .ge 10, 3) := by decide +kernel
theorem dX11_draw_88 : decode cX11_draw 88 = .ok (.aload_n 0, 1) := by decide +kernel
theorem dX11_draw_89 : decode cX11_draw 89 = .ok (.getfield 346, 3) := by decide +kernel
theorem dX11_draw_92 : decode cX11_draw 92 = .ok (.goto 7, 3) := by decide +kernel
theorem dX11_draw_95 : decode cX11_draw 95 = .ok (.iload 5, 2) := by decide +kernel
theorem dX11_draw_97 : decode cX11_draw 97 = .ok (.iconst 1, 1) := by decide +kernel
theorem dX11_draw_98 : decode cX11_draw 98 = .ok (.iadd, 1) := by decide +kernel
theorem dX11_draw_99 : decode cX11_draw 99 = .ok (.putfield 346, 3) := by decide +kernel
theorem dX11_draw_102 : decode cX11_draw 102 = .ok (.aload_n 0, 1) := by decide +kernel
theorem dX11_draw_103 : decode cX11_draw 103 = .ok (.getfield 286, 3) := by decide +kernel
theorem dX11_draw_106 : decode cX11_draw 106 = .ok (.ifCond .eq 75, 3) := by decide +kernel
theorem dX11_draw_109 : decode cX11_draw 109 = .ok (.aload_n 0, 1) := by decide +kernel
theorem dX11_draw_110 : decode cX11_draw 110 = .ok (.getfield 343, 3) := by decide +kernel
theorem dX11_draw_113 : decode cX11_draw 113 = .ok (.bipush 8, 2) := by decide +kernel
theorem dX11_draw_115 : decode cX11_draw 115 = .ok (.if_icmp .ge 66, 3) := by decide +kernel
theorem dX11_draw_118 : decode cX11_draw 118 = .ok (.aload_n 0, 1) := by decide +kernel
theorem dX11_draw_119 : decode cX11_draw 119 = .ok (.getfield 95, 3) := by decide +kernel
theorem dX11_draw_122 : decode cX11_draw 122 = .ok (.aload_n 0, 1) := by decide +kernel
theorem dX11_draw_123 : decode cX11_draw 123 = .ok (.getfield 343, 3) := by decide +kernel
theorem dX11_draw_126 : decode cX11_draw 126 = .ok (.aload_n 0, 1) := by decide +kernel
theorem dX11_draw_127 : decode cX11_draw 127 = .ok (.getfield 346, 3) := by decide +kernel
theorem dX11_draw_130 : decode cX11_draw 130 = .ok (.iastore, 1) := by decide +kernel
theorem dX11_draw_131 : decode cX11_draw 131 = .ok (.iconst 0, 1) := by decide +kernel
theorem dX11_draw_132 : decode cX11_draw 132 = .ok (.istore 6, 2) := by decide +kernel
theorem dX11_draw_134 : decode cX11_draw 134 = .ok (.iload 6, 2) := by decide +kernel
theorem dX11_draw_136 : decode cX11_draw 136 = .ok (.aload_n 0, 1) := by decide +kernel
theorem dX11_draw_137 : decode cX11_draw 137 = .ok (.getfield 346, 3) := by decide +kernel
theorem dX11_draw_140 : decode cX11_draw 140 = .ok (.if_icmp .ge 31, 3) := by decide +kernel
theorem dX11_draw_143 : decode cX11_draw 143 = .ok (.aload_n 0, 1) := by decide +kernel
theorem dX11_draw_144 : decode cX11_draw 144 = .ok (.getfield 98, 3) := by decide +kernel
theorem dX11_draw_147 : decode cX11_draw 147 = .ok (.bipush 12, 2) := by decide +kernel
theorem dX11_draw_149 : decode cX11_draw 149 = .ok (.aload_n 0, 1) := by decide +kernel
theorem dX11_draw_150 : decode cX11_draw 150 = .ok (.getfield 343, 3) := by decide +kernel
theorem dX11_draw_153 : decode cX11_draw 153 = .ok (.imul, 1) := by decide +kernel
theorem dX11_draw_154 : decode cX11_draw 154 = .ok (.iload 6, 2) := by decide +kernel
theorem dX11_draw_156 : decode cX11_draw 156 = .ok (.iadd, 1) := by decide +kernel
theorem dX11_draw_157 : decode cX11_draw 157 = .ok (.aload_n 0, 1) := by decide +kernel
theorem dX11_draw_158 : decode cX11_draw 158 = .ok (.getfield 92, 3) := by decide +kernel
theorem dX11_draw_161 : decode cX11_draw 161 = .ok (.iload 6, 2) := by decide +kernel
theorem dX11_draw_163 : decode cX11_draw 163 = .ok (.iaload, 1) := by decide +kernel
theorem dX11_draw_164 : decode cX11_draw 164 = .ok (.iastore, 1) := by decide +kernel
theorem dX11_draw_165 : decode cX11_draw 165 = .ok (.iinc 6 1, 3) := by decide +kernel
theorem dX11_draw_168 : decode cX11_draw 168 = .ok (.goto (-34), 3) := by decide +kernel
theorem dX11_draw_171 : decode cX11_draw 171 = .ok (.aload_n 0, 1) := by decide +kernel
theorem dX11_draw_172 : decode cX11_draw 172 = .ok (.dup, 1) := by decide +kernel
theorem dX11_draw_173 : decode cX11_draw 173 = .ok (.getfield 343, 3) := by decide +kernel
theorem dX11_draw_176 : decode cX11_draw 176 = .ok (.iconst 1, 1) := by decide +kernel
theorem dX11_draw_177 : decode cX11_draw 177 = .ok (.iadd, 1) := by decide +kernel
theorem dX11_draw_178 : decode cX11_draw 178 = .ok (.putfield 343, 3) := by decide +kernel
theorem dX11_draw_181 : decode cX11_draw 181 = .ok (.iload 5, 2) := by decide +kernel
theorem dX11_draw_183 : decode cX11_draw 183 = .ok (.ifCond .lt 13, 3) := by decide +kernel
theorem dX11_draw_186 : decode cX11_draw 186 = .ok (.aload_n 0, 1) := by decide +kernel
theorem dX11_draw_187 : decode cX11_draw 187 = .ok (.iload_n 1, 1) := by decide +kernel
theorem dX11_draw_188 : decode cX11_draw 188 = .ok (.invokevirtual 382, 3) := by decide +kernel
theorem dX11_draw_191 : decode cX11_draw 191 = .ok (.aload_n 0, 1) := by decide +kernel
theorem dX11_draw_192 : decode cX11_draw 192 = .ok (.invokevirtual 367, 3) := by decide +kernel
theorem dX11_draw_195 : decode cX11_draw 195 = .ok (.ireturn, 1) := by decide +kernel
theorem dX11_draw_196 : decode cX11_draw 196 = .ok (.iinc 4 1, 3) := by decide +kernel
theorem dX11_draw_199 : decode cX11_draw 199 = .ok (.goto (-150), 3) := by decide +kernel
theorem dX11_draw_202 : decode cX11_draw 202 = .ok (.bipush (-2), 2) := by decide +kernel
theorem dX11_draw_204 : decode cX11_draw 204 = .ok (.ireturn, 1) := by decide +kernel
theorem dX11_row_0 : decode cX11_row 0 = .ok (.iload_n 3, 1) := by decide +kernel
theorem dX11_row_1 : decode cX11_row 1 = .ok (.i2l, 1) := by decide +kernel
theorem dX11_row_2 : decode cX11_row 2 = .ok (.lconst 1, 1) := by decide +kernel
theorem dX11_row_3 : decode cX11_row 3 = .ok (.ldc2_w 356, 3) := by decide +kernel
theorem dX11_row_6 : decode cX11_row 6 = .ok (.invokestatic 117, 3) := by decide +kernel
theorem dX11_row_9 : decode cX11_row 9 = .ok (.ifCond .ne 5, 3) := by decide +kernel
theorem dX11_row_12 : decode cX11_row 12 = .ok (.iconst (-1), 1) := by decide +kernel
theorem dX11_row_13 : decode cX11_row 13 = .ok (.ireturn, 1) := by decide +kernel
theorem dX11_row_14 : decode cX11_row 14 = .ok (.iconst 0, 1) := by decide +kernel
theorem dX11_row_15 : decode cX11_row 15 = .ok (.istore 4, 2) := by decide +kernel
theorem dX11_row_17 : decode cX11_row 17 = .ok (.iload 4, 2) := by decide +kernel
theorem dX11_row_19 : decode cX11_row 19 = .ok (.iload_n 3, 1) := by decide +kernel
theorem dX11_row_20 : decode cX11_row 20 = .ok (.if_icmp .ge 30, 3) := by decide +kernel
theorem dX11_row_23 : decode cX11_row 23 = .ok (.lload_n 1, 1) := by decide +kernel
theorem dX11_row_24 : decode cX11_row 24 = .ok (.iconst 5, 1) := by decide +kernel
theorem dX11_row_25 : decode cX11_row 25 = .ok (.iload 4, 2) := by decide +kernel
theorem dX11_row_27 : decode cX11_row 27 = .ok (.imul, 1) := by decide +kernel
theorem dX11_row_28 : decode cX11_row 28 = .ok (.lshr, 1) := by decide +kernel
theorem dX11_row_29 : decode cX11_row 29 = .ok (.ldc2_w 385, 3) := by decide +kernel
theorem dX11_row_32 : decode cX11_row 32 = .ok (.land, 1) := by decide +kernel
theorem dX11_row_33 : decode cX11_row 33 = .ok (.aload_n 0, 1) := by decide +kernel
theorem dX11_row_34 : decode cX11_row 34 = .ok (.getfield 337, 3) := by decide +kernel
theorem dX11_row_37 : decode cX11_row 37 = .ok (.i2l, 1) := by decide +kernel
theorem dX11_row_38 : decode cX11_row 38 = .ok (.lcmp, 1) := by decide +kernel
theorem dX11_row_39 : decode cX11_row 39 = .ok (.ifCond .lt 5, 3) := by decide +kernel
theorem dX11_row_42 : decode cX11_row 42 = .ok (.iconst (-1), 1) := by decide +kernel
theorem dX11_row_43 : decode cX11_row 43 = .ok (.ireturn, 1) := by decide +kernel
theorem dX11_row_44 : decode cX11_row 44 = .ok (.iinc 4 1, 3) := by decide +kernel
theorem dX11_row_47 : decode cX11_row 47 = .ok (.goto (-30), 3) := by decide +kernel
theorem dX11_row_50 : decode cX11_row 50 = .ok (.aload_n 0, 1) := by decide +kernel
theorem dX11_row_51 : decode cX11_row 51 = .ok (.getfield 340, 3) := by decide +kernel
theorem dX11_row_54 : decode cX11_row 54 = .ok (.bipush 20, 2) := by decide +kernel
theorem dX11_row_56 : decode cX11_row 56 = .ok (.if_icmp .ne 6, 3) := by decide +kernel
theorem dX11_row_59 : decode cX11_row 59 = .ok (.bipush (-3), 2) := by decide +kernel
theorem dX11_row_61 : decode cX11_row 61 = .ok (.ireturn, 1) := by decide +kernel
theorem dX11_row_62 : decode cX11_row 62 = .ok (.aload_n 0, 1) := by decide +kernel
theorem dX11_row_63 : decode cX11_row 63 = .ok (.iload_n 3, 1) := by decide +kernel
theorem dX11_row_64 : decode cX11_row 64 = .ok (.putfield 346, 3) := by decide +kernel
theorem dX11_row_67 : decode cX11_row 67 = .ok (.iconst 0, 1) := by decide +kernel
theorem dX11_row_68 : decode cX11_row 68 = .ok (.istore 4, 2) := by decide +kernel
theorem dX11_row_70 : decode cX11_row 70 = .ok (.iload 4, 2) := by decide +kernel
theorem dX11_row_72 : decode cX11_row 72 = .ok (.iload_n 3, 1) := by decide +kernel
theorem dX11_row_73 : decode cX11_row 73 = .ok (.if_icmp .ge 27, 3) := by decide +kernel
theorem dX11_row_76 : decode cX11_row 76 = .ok (.aload_n 0, 1) := by decide +kernel
theorem dX11_row_77 : decode cX11_row 77 = .ok (.getfield 92, 3) := by decide +kernel
theorem dX11_row_80 : decode cX11_row 80 = .ok (.iload 4, 2) := by decide +kernel
theorem dX11_row_82 : decode cX11_row 82 = .ok (.lload_n 1, 1) := by decide +kernel
theorem dX11_row_83 : decode cX11_row 83 = .ok (.iconst 5, 1) := by decide +kernel
theorem dX11_row_84 : decode cX11_row 84 = .ok (.iload 4, 2) := by decide +kernel
theorem dX11_row_86 : decode cX11_row 86 = .ok (.imul, 1) := by decide +kernel
theorem dX11_row_87 : decode cX11_row 87 = .ok (.lshr, 1) := by decide +kernel
theorem dX11_row_88 : decode cX11_row 88 = .ok (.ldc2_w 385, 3) := by decide +kernel
theorem dX11_row_91 : decode cX11_row 91 = .ok (.land, 1) := by decide +kernel
theorem dX11_row_92 : decode cX11_row 92 = .ok (.l2i, 1) := by decide +kernel
theorem dX11_row_93 : decode cX11_row 93 = .ok (.iastore, 1) := by decide +kernel
theorem dX11_row_94 : decode cX11_row 94 = .ok (.iinc 4 1, 3) := by decide +kernel
theorem dX11_row_97 : decode cX11_row 97 = .ok (.goto (-27), 3) := by decide +kernel
theorem dX11_row_100 : decode cX11_row 100 = .ok (.aload_n 0, 1) := by decide +kernel
theorem dX11_row_101 : decode cX11_row 101 = .ok (.invokevirtual 367, 3) := by decide +kernel
theorem dX11_row_104 : decode cX11_row 104 = .ok (.ireturn, 1) := by decide +kernel
theorem dX11_isRow_0 : decode cX11_isRow 0 = .ok (.iload_n 1, 1) := by decide +kernel
theorem dX11_isRow_1 : decode cX11_isRow 1 = .ok (.i2l, 1) := by decide +kernel
theorem dX11_isRow_2 : decode cX11_isRow 2 = .ok (.lconst 0, 1) := by decide +kernel
theorem dX11_isRow_3 : decode cX11_isRow 3 = .ok (.aload_n 0, 1) := by decide +kernel
theorem dX11_isRow_4 : decode cX11_isRow 4 = .ok (.getfield 340, 3) := by decide +kernel
theorem dX11_isRow_7 : decode cX11_isRow 7 = .ok (.iconst 1, 1) := by decide +kernel
theorem dX11_isRow_8 : decode cX11_isRow 8 = .ok (.isub, 1) := by decide +kernel
theorem dX11_isRow_9 : decode cX11_isRow 9 = .ok (.i2l, 1) := by decide +kernel
theorem dX11_isRow_10 : decode cX11_isRow 10 = .ok (.invokestatic 117, 3) := by decide +kernel
theorem dX11_isRow_13 : decode cX11_isRow 13 = .ok (.ireturn, 1) := by decide +kernel
theorem dX11_least_0 : decode cX11_least 0 = .ok (.aload_n 0, 1) := by decide +kernel
theorem dX11_least_1 : decode cX11_least 1 = .ok (.iload_n 1, 1) := by decide +kernel
theorem dX11_least_2 : decode cX11_least 2 = .ok (.invokevirtual 387, 3) := by decide +kernel
theorem dX11_least_5 : decode cX11_least 5 = .ok (.ifCond .eq 11, 3) := by decide +kernel
theorem dX11_least_8 : decode cX11_least 8 = .ok (.aload_n 0, 1) := by decide +kernel
theorem dX11_least_9 : decode cX11_least 9 = .ok (.iload_n 2, 1) := by decide +kernel
theorem dX11_least_10 : decode cX11_least 10 = .ok (.invokevirtual 331, 3) := by decide +kernel
theorem dX11_least_13 : decode cX11_least 13 = .ok (.ifCond .ne 5, 3) := by decide +kernel
theorem dX11_least_16 : decode cX11_least 16 = .ok (.iconst (-1), 1) := by decide +kernel
theorem dX11_least_17 : decode cX11_least 17 = .ok (.ireturn, 1) := by decide +kernel
theorem dX11_least_18 : decode cX11_least 18 = .ok (.aload_n 0, 1) := by decide +kernel
theorem dX11_least_19 : decode cX11_least 19 = .ok (.getfield 340, 3) := by decide +kernel
theorem dX11_least_22 : decode cX11_least 22 = .ok (.bipush 20, 2) := by decide +kernel
theorem dX11_least_24 : decode cX11_least 24 = .ok (.if_icmp .ne 6, 3) := by decide +kernel
theorem dX11_least_27 : decode cX11_least 27 = .ok (.bipush (-3), 2) := by decide +kernel
theorem dX11_least_29 : decode cX11_least 29 = .ok (.ireturn, 1) := by decide +kernel
theorem dX11_least_30 : decode cX11_least 30 = .ok (.aload_n 0, 1) := by decide +kernel
theorem dX11_least_31 : decode cX11_least 31 = .ok (.iload_n 1, 1) := by decide +kernel
theorem dX11_least_32 : decode cX11_least 32 = .ok (.invokevirtual 390, 3) := by decide +kernel
theorem dX11_least_35 : decode cX11_least 35 = .ok (.aload_n 0, 1) := by decide +kernel
theorem dX11_least_36 : decode cX11_least 36 = .ok (.iload_n 2, 1) := by decide +kernel
theorem dX11_least_37 : decode cX11_least 37 = .ok (.iconst (-1), 1) := by decide +kernel
theorem dX11_least_38 : decode cX11_least 38 = .ok (.invokevirtual 352, 3) := by decide +kernel
theorem dX11_least_41 : decode cX11_least 41 = .ok (.ifCond .ge 6, 3) := by decide +kernel
theorem dX11_least_44 : decode cX11_least 44 = .ok (.bipush (-2), 2) := by decide +kernel
theorem dX11_least_46 : decode cX11_least 46 = .ok (.ireturn, 1) := by decide +kernel
theorem dX11_least_47 : decode cX11_least 47 = .ok (.aload_n 0, 1) := by decide +kernel
theorem dX11_least_48 : decode cX11_least 48 = .ok (.iload_n 2, 1) := by decide +kernel
theorem dX11_least_49 : decode cX11_least 49 = .ok (.invokevirtual 382, 3) := by decide +kernel
theorem dX11_least_52 : decode cX11_least 52 = .ok (.aload_n 0, 1) := by decide +kernel
theorem dX11_least_53 : decode cX11_least 53 = .ok (.invokevirtual 367, 3) := by decide +kernel
theorem dX11_least_56 : decode cX11_least 56 = .ok (.ireturn, 1) := by decide +kernel
theorem dX11_at__0 : decode cX11_at_ 0 = .ok (.aload_n 0, 1) := by decide +kernel
theorem dX11_at__1 : decode cX11_at_ 1 = .ok (.iload_n 1, 1) := by decide +kernel
theorem dX11_at__2 : decode cX11_at_ 2 = .ok (.invokevirtual 387, 3) := by decide +kernel
theorem dX11_at__5 : decode cX11_at_ 5 = .ok (.ifCond .eq 23, 3) := by decide +kernel
theorem dX11_at__8 : decode cX11_at_ 8 = .ok (.iload_n 2, 1) := by decide +kernel
theorem dX11_at__9 : decode cX11_at_ 9 = .ok (.i2l, 1) := by decide +kernel
theorem dX11_at__10 : decode cX11_at_ 10 = .ok (.ldc2_w 312, 3) := by decide +kernel
theorem dX11_at__13 : decode cX11_at_ 13 = .ok (.aload_n 0, 1) := by decide +kernel
theorem dX11_at__14 : decode cX11_at_ 14 = .ok (.getfield 86, 3) := by decide +kernel
theorem dX11_at__17 : decode cX11_at_ 17 = .ok (.iload_n 1, 1) := by decide +kernel
theorem dX11_at__18 : decode cX11_at_ 18 = .ok (.iaload, 1) := by decide +kernel
theorem dX11_at__19 : decode cX11_at_ 19 = .ok (.iconst 1, 1) := by decide +kernel
theorem dX11_at__20 : decode cX11_at_ 20 = .ok (.isub, 1) := by decide +kernel
theorem dX11_at__21 : decode cX11_at_ 21 = .ok (.i2l, 1) := by decide +kernel
theorem dX11_at__22 : decode cX11_at_ 22 = .ok (.invokestatic 117, 3) := by decide +kernel
theorem dX11_at__25 : decode cX11_at_ 25 = .ok (.ifCond .ne 5, 3) := by decide +kernel
theorem dX11_at__28 : decode cX11_at_ 28 = .ok (.iconst (-1), 1) := by decide +kernel
theorem dX11_at__29 : decode cX11_at_ 29 = .ok (.ireturn, 1) := by decide +kernel
theorem dX11_at__30 : decode cX11_at_ 30 = .ok (.iload_n 2, 1) := by decide +kernel
theorem dX11_at__31 : decode cX11_at_ 31 = .ok (.ifCond .ge 12, 3) := by decide +kernel
theorem dX11_at__34 : decode cX11_at_ 34 = .ok (.aload_n 0, 1) := by decide +kernel
theorem dX11_at__35 : decode cX11_at_ 35 = .ok (.getfield 86, 3) := by decide +kernel
theorem dX11_at__38 : decode cX11_at_ 38 = .ok (.iload_n 1, 1) := by decide +kernel
theorem dX11_at__39 : decode cX11_at_ 39 = .ok (.iaload, 1) := by decide +kernel
theorem dX11_at__40 : decode cX11_at_ 40 = .ok (.goto 14, 3) := by decide +kernel
theorem dX11_at__43 : decode cX11_at_ 43 = .ok (.aload_n 0, 1) := by decide +kernel
theorem dX11_at__44 : decode cX11_at_ 44 = .ok (.getfield 89, 3) := by decide +kernel
theorem dX11_at__47 : decode cX11_at_ 47 = .ok (.bipush 12, 2) := by decide +kernel
theorem dX11_at__49 : decode cX11_at_ 49 = .ok (.iload_n 1, 1) := by decide +kernel
theorem dX11_at__50 : decode cX11_at_ 50 = .ok (.imul, 1) := by decide +kernel
theorem dX11_at__51 : decode cX11_at_ 51 = .ok (.iload_n 2, 1) := by decide +kernel
theorem dX11_at__52 : decode cX11_at_ 52 = .ok (.iadd, 1) := by decide +kernel
theorem dX11_at__53 : decode cX11_at_ 53 = .ok (.iaload, 1) := by decide +kernel
theorem dX11_at__54 : decode cX11_at_ 54 = .ok (.ireturn, 1) := by decide +kernel
theorem dX11_breaks_0 : decode cX11_breaks 0 = .ok (.aload_n 0, 1) := by decide +kernel
theorem dX11_breaks_1 : decode cX11_breaks 1 = .ok (.iload_n 1, 1) := by decide +kernel
theorem dX11_breaks_2 : decode cX11_breaks 2 = .ok (.invokevirtual 387, 3) := by decide +kernel
theorem dX11_breaks_5 : decode cX11_breaks 5 = .ok (.ifCond .eq 11, 3) := by decide +kernel
theorem dX11_breaks_8 : decode cX11_breaks 8 = .ok (.aload_n 0, 1) := by decide +kernel
theorem dX11_breaks_9 : decode cX11_breaks 9 = .ok (.iload_n 2, 1) := by decide +kernel
theorem dX11_breaks_10 : decode cX11_breaks 10 = .ok (.invokevirtual 331, 3) := by decide +kernel
theorem dX11_breaks_13 : decode cX11_breaks 13 = .ok (.ifCond .ne 5, 3) := by decide +kernel
theorem dX11_breaks_16 : decode cX11_breaks 16 = .ok (.iconst (-1), 1) := by decide +kernel
theorem dX11_breaks_17 : decode cX11_breaks 17 = .ok (.ireturn, 1) := by decide +kernel
theorem dX11_breaks_18 : decode cX11_breaks 18 = .ok (.aload_n 0, 1) := by decide +kernel
theorem dX11_breaks_19 : decode cX11_breaks 19 = .ok (.iload_n 1, 1) := by decide +kernel
theorem dX11_breaks_20 : decode cX11_breaks 20 = .ok (.invokevirtual 390, 3) := by decide +kernel
theorem dX11_breaks_23 : decode cX11_breaks 23 = .ok (.aload_n 0, 1) := by decide +kernel
theorem dX11_breaks_24 : decode cX11_breaks 24 = .ok (.iload_n 2, 1) := by decide +kernel
theorem dX11_breaks_25 : decode cX11_breaks 25 = .ok (.iconst (-1), 1) := by decide +kernel
theorem dX11_breaks_26 : decode cX11_breaks 26 = .ok (.invokevirtual 352, 3) := by decide +kernel
theorem dX11_breaks_29 : decode cX11_breaks 29 = .ok (.ireturn, 1) := by decide +kernel
theorem dX11_profit_0 : decode cX11_profit 0 = .ok (.aload_n 0, 1) := by decide +kernel
theorem dX11_profit_1 : decode cX11_profit 1 = .ok (.iload_n 1, 1) := by decide +kernel
theorem dX11_profit_2 : decode cX11_profit 2 = .ok (.invokevirtual 387, 3) := by decide +kernel
theorem dX11_profit_5 : decode cX11_profit 5 = .ok (.ifCond .eq 15, 3) := by decide +kernel
theorem dX11_profit_8 : decode cX11_profit 8 = .ok (.iload_n 2, 1) := by decide +kernel
theorem dX11_profit_9 : decode cX11_profit 9 = .ok (.i2l, 1) := by decide +kernel
theorem dX11_profit_10 : decode cX11_profit 10 = .ok (.lconst 0, 1) := by decide +kernel
theorem dX11_profit_11 : decode cX11_profit 11 = .ok (.ldc2_w 306, 3) := by decide +kernel
theorem dX11_profit_14 : decode cX11_profit 14 = .ok (.invokestatic 117, 3) := by decide +kernel
theorem dX11_profit_17 : decode cX11_profit 17 = .ok (.ifCond .ne 7, 3) := by decide +kernel
theorem dX11_profit_20 : decode cX11_profit 20 = .ok (.ldc_w 393, 3) := by decide +kernel
theorem dX11_profit_23 : decode cX11_profit 23 = .ok (.ireturn, 1) := by decide +kernel
theorem dX11_profit_24 : decode cX11_profit 24 = .ok (.aload_n 0, 1) := by decide +kernel
theorem dX11_profit_25 : decode cX11_profit 25 = .ok (.iload_n 1, 1) := by decide +kernel
theorem dX11_profit_26 : decode cX11_profit 26 = .ok (.invokevirtual 390, 3) := by decide +kernel
theorem dX11_profit_29 : decode cX11_profit 29 = .ok (.aload_n 0, 1) := by decide +kernel
theorem dX11_profit_30 : decode cX11_profit 30 = .ok (.invokevirtual 317, 3) := by decide +kernel
theorem dX11_profit_33 : decode cX11_profit 33 = .ok (.iconst 0, 1) := by decide +kernel
theorem dX11_profit_34 : decode cX11_profit 34 = .ok (.istore_n 3, 1) := by decide +kernel
theorem dX11_profit_35 : decode cX11_profit 35 = .ok (.iload_n 3, 1) := by decide +kernel
theorem dX11_profit_36 : decode cX11_profit 36 = .ok (.aload_n 0, 1) := by decide +kernel
theorem dX11_profit_37 : decode cX11_profit 37 = .ok (.getfield 346, 3) := by decide +kernel
theorem dX11_profit_40 : decode cX11_profit 40 = .ok (.if_icmp .ge 19, 3) := by decide +kernel
theorem dX11_profit_43 : decode cX11_profit 43 = .ok (.aload_n 0, 1) := by decide +kernel
theorem dX11_profit_44 : decode cX11_profit 44 = .ok (.aload_n 0, 1) := by decide +kernel
theorem dX11_profit_45 : decode cX11_profit 45 = .ok (.getfield 92, 3) := by decide +kernel
theorem dX11_profit_48 : decode cX11_profit 48 = .ok (.iload_n 3, 1) := by decide +kernel
theorem dX11_profit_49 : decode cX11_profit 49 = .ok (.iaload, 1) := by decide +kernel
theorem dX11_profit_50 : decode cX11_profit 50 = .ok (.invokevirtual 349, 3) := by decide +kernel
theorem dX11_profit_53 : decode cX11_profit 53 = .ok (.iinc 3 1, 3) := by decide +kernel
theorem dX11_profit_56 : decode cX11_profit 56 = .ok (.goto (-21), 3) := by decide +kernel
theorem dX11_profit_59 : decode cX11_profit 59 = .ok (.aload_n 0, 1) := by decide +kernel
theorem dX11_profit_60 : decode cX11_profit 60 = .ok (.getfield 38, 3) := by decide +kernel
theorem dX11_profit_63 : decode cX11_profit 63 = .ok (.bipush 14, 2) := by decide +kernel
theorem dX11_profit_65 : decode cX11_profit 65 = .ok (.iload_n 2, 1) := by decide +kernel
theorem dX11_profit_66 : decode cX11_profit 66 = .ok (.iadd, 1) := by decide +kernel
theorem dX11_profit_67 : decode cX11_profit 67 = .ok (.iaload, 1) := by decide +kernel
theorem dX11_profit_68 : decode cX11_profit 68 = .ok (.aload_n 0, 1) := by decide +kernel
theorem dX11_profit_69 : decode cX11_profit 69 = .ok (.getfield 44, 3) := by decide +kernel
theorem dX11_profit_72 : decode cX11_profit 72 = .ok (.iload_n 2, 1) := by decide +kernel
theorem dX11_profit_73 : decode cX11_profit 73 = .ok (.iaload, 1) := by decide +kernel
theorem dX11_profit_74 : decode cX11_profit 74 = .ok (.isub, 1) := by decide +kernel
theorem dX11_profit_75 : decode cX11_profit 75 = .ok (.ireturn, 1) := by decide +kernel
theorem dX11_met_0 : decode cX11_met 0 = .ok (.iload_n 1, 1) := by decide +kernel
theorem dX11_met_1 : decode cX11_met 1 = .ok (.i2l, 1) := by decide +kernel
theorem dX11_met_2 : decode cX11_met 2 = .ok (.lconst 0, 1) := by decide +kernel
theorem dX11_met_3 : decode cX11_met 3 = .ok (.ldc2_w 231, 3) := by decide +kernel
theorem dX11_met_6 : decode cX11_met 6 = .ok (.invokestatic 117, 3) := by decide +kernel
theorem dX11_met_9 : decode cX11_met 9 = .ok (.ifCond .eq 30, 3) := by decide +kernel
theorem dX11_met_12 : decode cX11_met 12 = .ok (.aload_n 0, 1) := by decide +kernel
theorem dX11_met_13 : decode cX11_met 13 = .ok (.getfield 28, 3) := by decide +kernel
theorem dX11_met_16 : decode cX11_met 16 = .ok (.iload_n 1, 1) := by decide +kernel
theorem dX11_met_17 : decode cX11_met 17 = .ok (.baload, 1) := by decide +kernel
theorem dX11_met_18 : decode cX11_met 18 = .ok (.ifCond .eq 21, 3) := by decide +kernel
theorem dX11_met_21 : decode cX11_met 21 = .ok (.iload_n 2, 1) := by decide +kernel
theorem dX11_met_22 : decode cX11_met 22 = .ok (.i2l, 1) := by decide +kernel
theorem dX11_met_23 : decode cX11_met 23 = .ok (.lconst 0, 1) := by decide +kernel
theorem dX11_met_24 : decode cX11_met 24 = .ok (.aload_n 0, 1) := by decide +kernel
theorem dX11_met_25 : decode cX11_met 25 = .ok (.getfield 25, 3) := by decide +kernel
theorem dX11_met_28 : decode cX11_met 28 = .ok (.iload_n 1, 1) := by decide +kernel
theorem dX11_met_29 : decode cX11_met 29 = .ok (.iaload, 1) := by decide +kernel
theorem dX11_met_30 : decode cX11_met 30 = .ok (.iconst 1, 1) := by decide +kernel
theorem dX11_met_31 : decode cX11_met 31 = .ok (.isub, 1) := by decide +kernel
theorem dX11_met_32 : decode cX11_met 32 = .ok (.i2l, 1) := by decide +kernel
theorem dX11_met_33 : decode cX11_met 33 = .ok (.invokestatic 117, 3) := by decide +kernel
theorem dX11_met_36 : decode cX11_met 36 = .ok (.ifCond .ne 5, 3) := by decide +kernel
theorem dX11_met_39 : decode cX11_met 39 = .ok (.iconst (-1), 1) := by decide +kernel
theorem dX11_met_40 : decode cX11_met 40 = .ok (.ireturn, 1) := by decide +kernel
theorem dX11_met_41 : decode cX11_met 41 = .ok (.aload_n 0, 1) := by decide +kernel
theorem dX11_met_42 : decode cX11_met 42 = .ok (.getfield 53, 3) := by decide +kernel
theorem dX11_met_45 : decode cX11_met 45 = .ok (.bipush 24, 2) := by decide +kernel
theorem dX11_met_47 : decode cX11_met 47 = .ok (.iload_n 1, 1) := by decide +kernel
theorem dX11_met_48 : decode cX11_met 48 = .ok (.imul, 1) := by decide +kernel
theorem dX11_met_49 : decode cX11_met 49 = .ok (.iload_n 2, 1) := by decide +kernel
theorem dX11_met_50 : decode cX11_met 50 = .ok (.iadd, 1) := by decide +kernel
theorem dX11_met_51 : decode cX11_met 51 = .ok (.baload, 1) := by decide +kernel
theorem dX11_met_52 : decode cX11_met 52 = .ok (.ifCond .eq 7, 3) := by decide +kernel
theorem dX11_met_55 : decode cX11_met 55 = .ok (.iconst 1, 1) := by decide +kernel
theorem dX11_met_56 : decode cX11_met 56 = .ok (.goto 4, 3) := by decide +kernel
theorem dX11_met_59 : decode cX11_met 59 = .ok (.iconst 0, 1) := by decide +kernel
theorem dX11_met_60 : decode cX11_met 60 = .ok (.ireturn, 1) := by decide +kernel
theorem dX11_kept_0 : decode cX11_kept 0 = .ok (.iload_n 1, 1) := by decide +kernel
theorem dX11_kept_1 : decode cX11_kept 1 = .ok (.i2l, 1) := by decide +kernel
theorem dX11_kept_2 : decode cX11_kept 2 = .ok (.lconst 0, 1) := by decide +kernel
theorem dX11_kept_3 : decode cX11_kept 3 = .ok (.aload_n 0, 1) := by decide +kernel
theorem dX11_kept_4 : decode cX11_kept 4 = .ok (.getfield 343, 3) := by decide +kernel
theorem dX11_kept_7 : decode cX11_kept 7 = .ok (.iconst 1, 1) := by decide +kernel
theorem dX11_kept_8 : decode cX11_kept 8 = .ok (.isub, 1) := by decide +kernel
theorem dX11_kept_9 : decode cX11_kept 9 = .ok (.i2l, 1) := by decide +kernel
theorem dX11_kept_10 : decode cX11_kept 10 = .ok (.invokestatic 117, 3) := by decide +kernel
theorem dX11_kept_13 : decode cX11_kept 13 = .ok (.ifCond .eq 23, 3) := by decide +kernel
theorem dX11_kept_16 : decode cX11_kept 16 = .ok (.iload_n 2, 1) := by decide +kernel
theorem dX11_kept_17 : decode cX11_kept 17 = .ok (.i2l, 1) := by decide +kernel
theorem dX11_kept_18 : decode cX11_kept 18 = .ok (.ldc2_w 312, 3) := by decide +kernel
theorem dX11_kept_21 : decode cX11_kept 21 = .ok (.aload_n 0, 1) := by decide +kernel
theorem dX11_kept_22 : decode cX11_kept 22 = .ok (.getfield 95, 3) := by decide +kernel
theorem dX11_kept_25 : decode cX11_kept 25 = .ok (.iload_n 1, 1) := by decide +kernel
theorem dX11_kept_26 : decode cX11_kept 26 = .ok (.iaload, 1) := by decide +kernel
theorem dX11_kept_27 : decode cX11_kept 27 = .ok (.iconst 1, 1) := by decide +kernel
theorem dX11_kept_28 : decode cX11_kept 28 = .ok (.isub, 1) := by decide +kernel
theorem dX11_kept_29 : decode cX11_kept 29 = .ok (.i2l, 1) := by decide +kernel
theorem dX11_kept_30 : decode cX11_kept 30 = .ok (.invokestatic 117, 3) := by decide +kernel
theorem dX11_kept_33 : decode cX11_kept 33 = .ok (.ifCond .ne 5, 3) := by decide +kernel
theorem dX11_kept_36 : decode cX11_kept 36 = .ok (.iconst (-1), 1) := by decide +kernel
theorem dX11_kept_37 : decode cX11_kept 37 = .ok (.ireturn, 1) := by decide +kernel
theorem dX11_kept_38 : decode cX11_kept 38 = .ok (.iload_n 2, 1) := by decide +kernel
theorem dX11_kept_39 : decode cX11_kept 39 = .ok (.ifCond .ge 12, 3) := by decide +kernel
theorem dX11_kept_42 : decode cX11_kept 42 = .ok (.aload_n 0, 1) := by decide +kernel
theorem dX11_kept_43 : decode cX11_kept 43 = .ok (.getfield 95, 3) := by decide +kernel
theorem dX11_kept_46 : decode cX11_kept 46 = .ok (.iload_n 1, 1) := by decide +kernel
theorem dX11_kept_47 : decode cX11_kept 47 = .ok (.iaload, 1) := by decide +kernel
theorem dX11_kept_48 : decode cX11_kept 48 = .ok (.goto 14, 3) := by decide +kernel
theorem dX11_kept_51 : decode cX11_kept 51 = .ok (.aload_n 0, 1) := by decide +kernel
theorem dX11_kept_52 : decode cX11_kept 52 = .ok (.getfield 98, 3) := by decide +kernel
theorem dX11_kept_55 : decode cX11_kept 55 = .ok (.bipush 12, 2) := by decide +kernel
theorem dX11_kept_57 : decode cX11_kept 57 = .ok (.iload_n 1, 1) := by decide +kernel
theorem dX11_kept_58 : decode cX11_kept 58 = .ok (.imul, 1) := by decide +kernel
theorem dX11_kept_59 : decode cX11_kept 59 = .ok (.iload_n 2, 1) := by decide +kernel
theorem dX11_kept_60 : decode cX11_kept 60 = .ok (.iadd, 1) := by decide +kernel
theorem dX11_kept_61 : decode cX11_kept 61 = .ok (.iaload, 1) := by decide +kernel
theorem dX11_kept_62 : decode cX11_kept 62 = .ok (.ireturn, 1) := by decide +kernel
theorem dX11_told_0 : decode cX11_told 0 = .ok (.iload_n 1, 1) := by decide +kernel
theorem dX11_told_1 : decode cX11_told 1 = .ok (.ifCond .ne 10, 3) := by decide +kernel
theorem dX11_told_4 : decode cX11_told 4 = .ok (.aload_n 0, 1) := by decide +kernel
theorem dX11_told_5 : decode cX11_told 5 = .ok (.getfield 125, 3) := by decide +kernel
theorem dX11_told_8 : decode cX11_told 8 = .ok (.goto 77, 3) := by decide +kernel
theorem dX11_told_11 : decode cX11_told 11 = .ok (.iload_n 1, 1) := by decide +kernel
theorem dX11_told_12 : decode cX11_told 12 = .ok (.iconst 1, 1) := by decide +kernel
theorem dX11_told_13 : decode cX11_told 13 = .ok (.if_icmp .ne 10, 3) := by decide +kernel
theorem dX11_told_16 : decode cX11_told 16 = .ok (.aload_n 0, 1) := by decide +kernel
theorem dX11_told_17 : decode cX11_told 17 = .ok (.getfield 245, 3) := by decide +kernel
theorem dX11_told_20 : decode cX11_told 20 = .ok (.goto 65, 3) := by decide +kernel
theorem dX11_told_23 : decode cX11_told 23 = .ok (.iload_n 1, 1) := by decide +kernel
theorem dX11_told_24 : decode cX11_told 24 = .ok (.iconst 2, 1) := by decide +kernel
theorem dX11_told_25 : decode cX11_told 25 = .ok (.if_icmp .ne 10, 3) := by decide +kernel
theorem dX11_told_28 : decode cX11_told 28 = .ok (.aload_n 0, 1) := by decide +kernel
theorem dX11_told_29 : decode cX11_told 29 = .ok (.getfield 337, 3) := by decide +kernel
theorem dX11_told_32 : decode cX11_told 32 = .ok (.goto 53, 3) := by decide +kernel
theorem dX11_told_35 : decode cX11_told 35 = .ok (.iload_n 1, 1) := by decide +kernel
theorem dX11_told_36 : decode cX11_told 36 = .ok (.iconst 3, 1) := by decide +kernel
theorem dX11_told_37 : decode cX11_told 37 = .ok (.if_icmp .ne 10, 3) := by decide +kernel
theorem dX11_told_40 : decode cX11_told 40 = .ok (.aload_n 0, 1) := by decide +kernel
theorem dX11_told_41 : decode cX11_told 41 = .ok (.getfield 340, 3) := by decide +kernel
theorem dX11_told_44 : decode cX11_told 44 = .ok (.goto 41, 3) := by decide +kernel
theorem dX11_told_47 : decode cX11_told 47 = .ok (.iload_n 1, 1) := by decide +kernel
theorem dX11_told_48 : decode cX11_told 48 = .ok (.iconst 4, 1) := by decide +kernel
theorem dX11_told_49 : decode cX11_told 49 = .ok (.if_icmp .ne 10, 3) := by decide +kernel
theorem dX11_told_52 : decode cX11_told 52 = .ok (.aload_n 0, 1) := by decide +kernel
theorem dX11_told_53 : decode cX11_told 53 = .ok (.getfield 343, 3) := by decide +kernel
theorem dX11_told_56 : decode cX11_told 56 = .ok (.goto 29, 3) := by decide +kernel
theorem dX11_told_59 : decode cX11_told 59 = .ok (.iload_n 1, 1) := by decide +kernel
theorem dX11_told_60 : decode cX11_told 60 = .ok (.i2l, 1) := by decide +kernel
theorem dX11_told_61 : decode cX11_told 61 = .ok (.ldc2_w 231, 3) := by decide +kernel
theorem dX11_told_64 : decode cX11_told 64 = .ok (.ldc2_w 394, 3) := by decide +kernel
theorem dX11_told_67 : decode cX11_told 67 = .ok (.invokestatic 117, 3) := by decide +kernel
theorem dX11_told_70 : decode cX11_told 70 = .ok (.ifCond .eq 14, 3) := by decide +kernel
theorem dX11_told_73 : decode cX11_told 73 = .ok (.aload_n 0, 1) := by decide +kernel
theorem dX11_told_74 : decode cX11_told 74 = .ok (.getfield 25, 3) := by decide +kernel
theorem dX11_told_77 : decode cX11_told 77 = .ok (.iload_n 1, 1) := by decide +kernel
theorem dX11_told_78 : decode cX11_told 78 = .ok (.iconst 5, 1) := by decide +kernel
theorem dX11_told_79 : decode cX11_told 79 = .ok (.isub, 1) := by decide +kernel
theorem dX11_told_80 : decode cX11_told 80 = .ok (.iaload, 1) := by decide +kernel
theorem dX11_told_81 : decode cX11_told 81 = .ok (.goto 4, 3) := by decide +kernel
theorem dX11_told_84 : decode cX11_told 84 = .ok (.iconst (-1), 1) := by decide +kernel
theorem dX11_told_85 : decode cX11_told 85 = .ok (.ireturn, 1) := by decide +kernel
theorem dJ11_isValidCodePoint_9a6ad_0 : decode cJ11_isValidCodePoint_9a6ad 0 = .ok (.iload_n 0, 1) := by decide +kernel
theorem dJ11_isValidCodePoint_9a6ad_1 : decode cJ11_isValidCodePoint_9a6ad 1 = .ok (.bipush 16, 2) := by decide +kernel
theorem dJ11_isValidCodePoint_9a6ad_3 : decode cJ11_isValidCodePoint_9a6ad 3 = .ok (.iushr, 1) := by decide +kernel
theorem dJ11_isValidCodePoint_9a6ad_4 : decode cJ11_isValidCodePoint_9a6ad 4 = .ok (.istore_n 1, 1) := by decide +kernel
theorem dJ11_isValidCodePoint_9a6ad_5 : decode cJ11_isValidCodePoint_9a6ad 5 = .ok (.iload_n 1, 1) := by decide +kernel
theorem dJ11_isValidCodePoint_9a6ad_6 : decode cJ11_isValidCodePoint_9a6ad 6 = .ok (.bipush 17, 2) := by decide +kernel
theorem dJ11_isValidCodePoint_9a6ad_8 : decode cJ11_isValidCodePoint_9a6ad 8 = .ok (.if_icmp .ge 7, 3) := by decide +kernel
theorem dJ11_isValidCodePoint_9a6ad_11 : decode cJ11_isValidCodePoint_9a6ad 11 = .ok (.iconst 1, 1) := by decide +kernel
theorem dJ11_isValidCodePoint_9a6ad_12 : decode cJ11_isValidCodePoint_9a6ad 12 = .ok (.goto 4, 3) := by decide +kernel
theorem dJ11_isValidCodePoint_9a6ad_15 : decode cJ11_isValidCodePoint_9a6ad 15 = .ok (.iconst 0, 1) := by decide +kernel
theorem dJ11_isValidCodePoint_9a6ad_16 : decode cJ11_isValidCodePoint_9a6ad 16 = .ok (.ireturn, 1) := by decide +kernel
theorem dJ11_highSurrogate_5068e_0 : decode cJ11_highSurrogate_5068e 0 = .ok (.iload_n 0, 1) := by decide +kernel
theorem dJ11_highSurrogate_5068e_1 : decode cJ11_highSurrogate_5068e 1 = .ok (.bipush 10, 2) := by decide +kernel
theorem dJ11_highSurrogate_5068e_3 : decode cJ11_highSurrogate_5068e 3 = .ok (.iushr, 1) := by decide +kernel
theorem dJ11_highSurrogate_5068e_4 : decode cJ11_highSurrogate_5068e 4 = .ok (.ldc 110, 2) := by decide +kernel
theorem dJ11_highSurrogate_5068e_6 : decode cJ11_highSurrogate_5068e 6 = .ok (.iadd, 1) := by decide +kernel
theorem dJ11_highSurrogate_5068e_7 : decode cJ11_highSurrogate_5068e 7 = .ok (.i2c, 1) := by decide +kernel
theorem dJ11_highSurrogate_5068e_8 : decode cJ11_highSurrogate_5068e 8 = .ok (.ireturn, 1) := by decide +kernel
theorem dJ11_lowSurrogate_5068e_0 : decode cJ11_lowSurrogate_5068e 0 = .ok (.iload_n 0, 1) := by decide +kernel
theorem dJ11_lowSurrogate_5068e_1 : decode cJ11_lowSurrogate_5068e 1 = .ok (.sipush 1023, 3) := by decide +kernel
theorem dJ11_lowSurrogate_5068e_4 : decode cJ11_lowSurrogate_5068e 4 = .ok (.iand, 1) := by decide +kernel
theorem dJ11_lowSurrogate_5068e_5 : decode cJ11_lowSurrogate_5068e 5 = .ok (.ldc 76, 2) := by decide +kernel
theorem dJ11_lowSurrogate_5068e_7 : decode cJ11_lowSurrogate_5068e 7 = .ok (.iadd, 1) := by decide +kernel
theorem dJ11_lowSurrogate_5068e_8 : decode cJ11_lowSurrogate_5068e 8 = .ok (.i2c, 1) := by decide +kernel
theorem dJ11_lowSurrogate_5068e_9 : decode cJ11_lowSurrogate_5068e 9 = .ok (.ireturn, 1) := by decide +kernel
theorem dJ9_max_7cf53_0 : decode cJ9_max_7cf53 0 = .ok (.iload_n 0, 1) := by decide +kernel
theorem dJ9_max_7cf53_1 : decode cJ9_max_7cf53 1 = .ok (.iload_n 1, 1) := by decide +kernel
theorem dJ9_max_7cf53_2 : decode cJ9_max_7cf53 2 = .ok (.if_icmp .lt 7, 3) := by decide +kernel
theorem dJ9_max_7cf53_5 : decode cJ9_max_7cf53 5 = .ok (.iload_n 0, 1) := by decide +kernel
theorem dJ9_max_7cf53_6 : decode cJ9_max_7cf53 6 = .ok (.goto 4, 3) := by decide +kernel
theorem dJ9_max_7cf53_9 : decode cJ9_max_7cf53 9 = .ok (.iload_n 1, 1) := by decide +kernel
theorem dJ9_max_7cf53_10 : decode cJ9_max_7cf53 10 = .ok (.ireturn, 1) := by decide +kernel
theorem dJ9_min_7cf53_0 : decode cJ9_min_7cf53 0 = .ok (.iload_n 0, 1) := by decide +kernel
theorem dJ9_min_7cf53_1 : decode cJ9_min_7cf53 1 = .ok (.iload_n 1, 1) := by decide +kernel
theorem dJ9_min_7cf53_2 : decode cJ9_min_7cf53 2 = .ok (.if_icmp .gt 7, 3) := by decide +kernel
theorem dJ9_min_7cf53_5 : decode cJ9_min_7cf53 5 = .ok (.iload_n 0, 1) := by decide +kernel
theorem dJ9_min_7cf53_6 : decode cJ9_min_7cf53 6 = .ok (.goto 4, 3) := by decide +kernel
theorem dJ9_min_7cf53_9 : decode cJ9_min_7cf53 9 = .ok (.iload_n 1, 1) := by decide +kernel
theorem dJ9_min_7cf53_10 : decode cJ9_min_7cf53 10 = .ok (.ireturn, 1) := by decide +kernel
theorem dJ0_length_8abf5_0 : decode cJ0_length_8abf5 0 = .ok (.aload_n 0, 1) := by decide +kernel
theorem dJ0_length_8abf5_1 : decode cJ0_length_8abf5 1 = .ok (.getfield 9, 3) := by decide +kernel
theorem dJ0_length_8abf5_4 : decode cJ0_length_8abf5 4 = .ok (.arraylength, 1) := by decide +kernel
theorem dJ0_length_8abf5_5 : decode cJ0_length_8abf5 5 = .ok (.aload_n 0, 1) := by decide +kernel
theorem dJ0_length_8abf5_6 : decode cJ0_length_8abf5 6 = .ok (.invokevirtual 335, 3) := by decide +kernel
theorem dJ0_length_8abf5_9 : decode cJ0_length_8abf5 9 = .ok (.ishr, 1) := by decide +kernel
theorem dJ0_length_8abf5_10 : decode cJ0_length_8abf5 10 = .ok (.ireturn, 1) := by decide +kernel
theorem dJ0_charAt_5068e_0 : decode cJ0_charAt_5068e 0 = .ok (.aload_n 0, 1) := by decide +kernel
theorem dJ0_charAt_5068e_1 : decode cJ0_charAt_5068e 1 = .ok (.invokevirtual 492, 3) := by decide +kernel
theorem dJ0_charAt_5068e_4 : decode cJ0_charAt_5068e 4 = .ok (.ifCond .eq 12, 3) := by decide +kernel
theorem dJ0_charAt_5068e_7 : decode cJ0_charAt_5068e 7 = .ok (.aload_n 0, 1) := by decide +kernel
theorem dJ0_charAt_5068e_8 : decode cJ0_charAt_5068e 8 = .ok (.getfield 9, 3) := by decide +kernel
theorem dJ0_charAt_5068e_11 : decode cJ0_charAt_5068e 11 = .ok (.iload_n 1, 1) := by decide +kernel
theorem dJ0_charAt_5068e_12 : decode cJ0_charAt_5068e 12 = .ok (.invokestatic 495, 3) := by decide +kernel
theorem dJ0_charAt_5068e_15 : decode cJ0_charAt_5068e 15 = .ok (.ireturn, 1) := by decide +kernel
theorem dJ0_charAt_5068e_16 : decode cJ0_charAt_5068e 16 = .ok (.aload_n 0, 1) := by decide +kernel
theorem dJ0_charAt_5068e_17 : decode cJ0_charAt_5068e 17 = .ok (.getfield 9, 3) := by decide +kernel
theorem dJ0_charAt_5068e_20 : decode cJ0_charAt_5068e 20 = .ok (.iload_n 1, 1) := by decide +kernel
theorem dJ0_charAt_5068e_21 : decode cJ0_charAt_5068e 21 = .ok (.invokestatic 498, 3) := by decide +kernel
theorem dJ0_charAt_5068e_24 : decode cJ0_charAt_5068e 24 = .ok (.ireturn, 1) := by decide +kernel
theorem dJ0_indexOf_0f7a4_0 : decode cJ0_indexOf_0f7a4 0 = .ok (.aload_n 0, 1) := by decide +kernel
theorem dJ0_indexOf_0f7a4_1 : decode cJ0_indexOf_0f7a4 1 = .ok (.iload_n 1, 1) := by decide +kernel
theorem dJ0_indexOf_0f7a4_2 : decode cJ0_indexOf_0f7a4 2 = .ok (.iconst 0, 1) := by decide +kernel
theorem dJ0_indexOf_0f7a4_3 : decode cJ0_indexOf_0f7a4 3 = .ok (.invokevirtual 633, 3) := by decide +kernel
theorem dJ0_indexOf_0f7a4_6 : decode cJ0_indexOf_0f7a4 6 = .ok (.ireturn, 1) := by decide +kernel
theorem dJ0_indexOf_7cf53_0 : decode cJ0_indexOf_7cf53 0 = .ok (.aload_n 0, 1) := by decide +kernel
theorem dJ0_indexOf_7cf53_1 : decode cJ0_indexOf_7cf53 1 = .ok (.invokevirtual 492, 3) := by decide +kernel
theorem dJ0_indexOf_7cf53_4 : decode cJ0_indexOf_7cf53 4 = .ok (.ifCond .eq 19, 3) := by decide +kernel
theorem dJ0_indexOf_7cf53_7 : decode cJ0_indexOf_7cf53 7 = .ok (.aload_n 0, 1) := by decide +kernel
theorem dJ0_indexOf_7cf53_8 : decode cJ0_indexOf_7cf53 8 = .ok (.getfield 9, 3) := by decide +kernel
theorem dJ0_indexOf_7cf53_11 : decode cJ0_indexOf_7cf53 11 = .ok (.iload_n 1, 1) := by decide +kernel
theorem dJ0_indexOf_7cf53_12 : decode cJ0_indexOf_7cf53 12 = .ok (.iload_n 2, 1) := by decide +kernel
theorem dJ0_indexOf_7cf53_13 : decode cJ0_indexOf_7cf53 13 = .ok (.aload_n 0, 1) := by decide +kernel
theorem dJ0_indexOf_7cf53_14 : decode cJ0_indexOf_7cf53 14 = .ok (.invokevirtual 505, 3) := by decide +kernel
theorem dJ0_indexOf_7cf53_17 : decode cJ0_indexOf_7cf53 17 = .ok (.invokestatic 637, 3) := by decide +kernel
theorem dJ0_indexOf_7cf53_20 : decode cJ0_indexOf_7cf53 20 = .ok (.goto 16, 3) := by decide +kernel
theorem dJ0_indexOf_7cf53_23 : decode cJ0_indexOf_7cf53 23 = .ok (.aload_n 0, 1) := by decide +kernel
theorem dJ0_indexOf_7cf53_24 : decode cJ0_indexOf_7cf53 24 = .ok (.getfield 9, 3) := by decide +kernel
theorem dJ0_indexOf_7cf53_27 : decode cJ0_indexOf_7cf53 27 = .ok (.iload_n 1, 1) := by decide +kernel
theorem dJ0_indexOf_7cf53_28 : decode cJ0_indexOf_7cf53 28 = .ok (.iload_n 2, 1) := by decide +kernel
theorem dJ0_indexOf_7cf53_29 : decode cJ0_indexOf_7cf53 29 = .ok (.aload_n 0, 1) := by decide +kernel
theorem dJ0_indexOf_7cf53_30 : decode cJ0_indexOf_7cf53 30 = .ok (.invokevirtual 505, 3) := by decide +kernel
theorem dJ0_indexOf_7cf53_33 : decode cJ0_indexOf_7cf53 33 = .ok (.invokestatic 640, 3) := by decide +kernel
theorem dJ0_indexOf_7cf53_36 : decode cJ0_indexOf_7cf53 36 = .ok (.ireturn, 1) := by decide +kernel
theorem dJ0_coder_7d493_0 : decode cJ0_coder_7d493 0 = .ok (.getstatic 38, 3) := by decide +kernel
theorem dJ0_coder_7d493_3 : decode cJ0_coder_7d493 3 = .ok (.ifCond .eq 10, 3) := by decide +kernel
theorem dJ0_coder_7d493_6 : decode cJ0_coder_7d493 6 = .ok (.aload_n 0, 1) := by decide +kernel
theorem dJ0_coder_7d493_7 : decode cJ0_coder_7d493 7 = .ok (.getfield 15, 3) := by decide +kernel
theorem dJ0_coder_7d493_10 : decode cJ0_coder_7d493 10 = .ok (.goto 4, 3) := by decide +kernel
theorem dJ0_coder_7d493_13 : decode cJ0_coder_7d493 13 = .ok (.iconst 1, 1) := by decide +kernel
theorem dJ0_coder_7d493_14 : decode cJ0_coder_7d493 14 = .ok (.ireturn, 1) := by decide +kernel
theorem dJ0_isLatin1_aae02_0 : decode cJ0_isLatin1_aae02 0 = .ok (.getstatic 38, 3) := by decide +kernel
theorem dJ0_isLatin1_aae02_3 : decode cJ0_isLatin1_aae02 3 = .ok (.ifCond .eq 14, 3) := by decide +kernel
theorem dJ0_isLatin1_aae02_6 : decode cJ0_isLatin1_aae02 6 = .ok (.aload_n 0, 1) := by decide +kernel
theorem dJ0_isLatin1_aae02_7 : decode cJ0_isLatin1_aae02 7 = .ok (.getfield 15, 3) := by decide +kernel
theorem dJ0_isLatin1_aae02_10 : decode cJ0_isLatin1_aae02 10 = .ok (.ifCond .ne 7, 3) := by decide +kernel
theorem dJ0_isLatin1_aae02_13 : decode cJ0_isLatin1_aae02 13 = .ok (.iconst 1, 1) := by decide +kernel
theorem dJ0_isLatin1_aae02_14 : decode cJ0_isLatin1_aae02 14 = .ok (.goto 4, 3) := by decide +kernel
theorem dJ0_isLatin1_aae02_17 : decode cJ0_isLatin1_aae02 17 = .ok (.iconst 0, 1) := by decide +kernel
theorem dJ0_isLatin1_aae02_18 : decode cJ0_isLatin1_aae02 18 = .ok (.ireturn, 1) := by decide +kernel
theorem dJ0_checkIndex_df160_0 : decode cJ0_checkIndex_df160 0 = .ok (.iload_n 0, 1) := by decide +kernel
theorem dJ0_checkIndex_df160_1 : decode cJ0_checkIndex_df160 1 = .ok (.iload_n 1, 1) := by decide +kernel
theorem dJ0_checkIndex_df160_2 : decode cJ0_checkIndex_df160 2 = .ok (.getstatic 1053, 3) := by decide +kernel
theorem dJ0_checkIndex_df160_5 : decode cJ0_checkIndex_df160 5 = .ok (.invokestatic 1059, 3) := by decide +kernel
theorem dJ0_checkIndex_df160_8 : decode cJ0_checkIndex_df160 8 = .ok (.pop, 1) := by decide +kernel
theorem dJ0_checkIndex_df160_9 : decode cJ0_checkIndex_df160 9 = .ok (.return_, 1) := by decide +kernel
theorem dJ0_checkBoundsBeginEnd_23922_0 : decode cJ0_checkBoundsBeginEnd_23922 0 = .ok (.iload_n 0, 1) := by decide +kernel
theorem dJ0_checkBoundsBeginEnd_23922_1 : decode cJ0_checkBoundsBeginEnd_23922 1 = .ok (.iload_n 1, 1) := by decide +kernel
theorem dJ0_checkBoundsBeginEnd_23922_2 : decode cJ0_checkBoundsBeginEnd_23922 2 = .ok (.iload_n 2, 1) := by decide +kernel
theorem dJ0_checkBoundsBeginEnd_23922_3 : decode cJ0_checkBoundsBeginEnd_23922 3 = .ok (.getstatic 1053, 3) := by decide +kernel
theorem dJ0_checkBoundsBeginEnd_23922_6 : decode cJ0_checkBoundsBeginEnd_23922 6 = .ok (.invokestatic 1062, 3) := by decide +kernel
theorem dJ0_checkBoundsBeginEnd_23922_9 : decode cJ0_checkBoundsBeginEnd_23922 9 = .ok (.pop, 1) := by decide +kernel
theorem dJ0_checkBoundsBeginEnd_23922_10 : decode cJ0_checkBoundsBeginEnd_23922 10 = .ok (.return_, 1) := by decide +kernel
theorem dJ1_charAt_3b067_0 : decode cJ1_charAt_3b067 0 = .ok (.iload_n 1, 1) := by decide +kernel
theorem dJ1_charAt_3b067_1 : decode cJ1_charAt_3b067 1 = .ok (.aload_n 0, 1) := by decide +kernel
theorem dJ1_charAt_3b067_2 : decode cJ1_charAt_3b067 2 = .ok (.arraylength, 1) := by decide +kernel
theorem dJ1_charAt_3b067_3 : decode cJ1_charAt_3b067 3 = .ok (.invokestatic 9, 3) := by decide +kernel
theorem dJ1_charAt_3b067_6 : decode cJ1_charAt_3b067 6 = .ok (.aload_n 0, 1) := by decide +kernel
theorem dJ1_charAt_3b067_7 : decode cJ1_charAt_3b067 7 = .ok (.iload_n 1, 1) := by decide +kernel
theorem dJ1_charAt_3b067_8 : decode cJ1_charAt_3b067 8 = .ok (.baload, 1) := by decide +kernel
theorem dJ1_charAt_3b067_9 : decode cJ1_charAt_3b067 9 = .ok (.sipush 255, 3) := by decide +kernel
theorem dJ1_charAt_3b067_12 : decode cJ1_charAt_3b067 12 = .ok (.iand, 1) := by decide +kernel
theorem dJ1_charAt_3b067_13 : decode cJ1_charAt_3b067 13 = .ok (.i2c, 1) := by decide +kernel
theorem dJ1_charAt_3b067_14 : decode cJ1_charAt_3b067 14 = .ok (.ireturn, 1) := by decide +kernel
theorem dJ1_canEncode_9a6ad_0 : decode cJ1_canEncode_9a6ad 0 = .ok (.iload_n 0, 1) := by decide +kernel
theorem dJ1_canEncode_9a6ad_1 : decode cJ1_canEncode_9a6ad 1 = .ok (.ifCond .lt 14, 3) := by decide +kernel
theorem dJ1_canEncode_9a6ad_4 : decode cJ1_canEncode_9a6ad 4 = .ok (.iload_n 0, 1) := by decide +kernel
theorem dJ1_canEncode_9a6ad_5 : decode cJ1_canEncode_9a6ad 5 = .ok (.sipush 255, 3) := by decide +kernel
theorem dJ1_canEncode_9a6ad_8 : decode cJ1_canEncode_9a6ad 8 = .ok (.if_icmp .gt 7, 3) := by decide +kernel
theorem dJ1_canEncode_9a6ad_11 : decode cJ1_canEncode_9a6ad 11 = .ok (.iconst 1, 1) := by decide +kernel
theorem dJ1_canEncode_9a6ad_12 : decode cJ1_canEncode_9a6ad 12 = .ok (.goto 4, 3) := by decide +kernel
theorem dJ1_canEncode_9a6ad_15 : decode cJ1_canEncode_9a6ad 15 = .ok (.iconst 0, 1) := by decide +kernel
theorem dJ1_canEncode_9a6ad_16 : decode cJ1_canEncode_9a6ad 16 = .ok (.ireturn, 1) := by decide +kernel
theorem dJ1_indexOf_4cfef_0 : decode cJ1_indexOf_4cfef 0 = .ok (.iload_n 1, 1) := by decide +kernel
theorem dJ1_indexOf_4cfef_1 : decode cJ1_indexOf_4cfef 1 = .ok (.invokestatic 88, 3) := by decide +kernel
theorem dJ1_indexOf_4cfef_4 : decode cJ1_indexOf_4cfef 4 = .ok (.ifCond .ne 5, 3) := by decide +kernel
theorem dJ1_indexOf_4cfef_7 : decode cJ1_indexOf_4cfef 7 = .ok (.iconst (-1), 1) := by decide +kernel
theorem dJ1_indexOf_4cfef_8 : decode cJ1_indexOf_4cfef 8 = .ok (.ireturn, 1) := by decide +kernel
theorem dJ1_indexOf_4cfef_9 : decode cJ1_indexOf_4cfef 9 = .ok (.iload_n 2, 1) := by decide +kernel
theorem dJ1_indexOf_4cfef_10 : decode cJ1_indexOf_4cfef 10 = .ok (.iconst 0, 1) := by decide +kernel
theorem dJ1_indexOf_4cfef_11 : decode cJ1_indexOf_4cfef 11 = .ok (.invokestatic 92, 3) := by decide +kernel
theorem dJ1_indexOf_4cfef_14 : decode cJ1_indexOf_4cfef 14 = .ok (.istore_n 2, 1) := by decide +kernel
theorem dJ1_indexOf_4cfef_15 : decode cJ1_indexOf_4cfef 15 = .ok (.iload_n 3, 1) := by decide +kernel
theorem dJ1_indexOf_4cfef_16 : decode cJ1_indexOf_4cfef 16 = .ok (.aload_n 0, 1) := by decide +kernel
theorem dJ1_indexOf_4cfef_17 : decode cJ1_indexOf_4cfef 17 = .ok (.arraylength, 1) := by decide +kernel
theorem dJ1_indexOf_4cfef_18 : decode cJ1_indexOf_4cfef 18 = .ok (.invokestatic 38, 3) := by decide +kernel
theorem dJ1_indexOf_4cfef_21 : decode cJ1_indexOf_4cfef 21 = .ok (.istore_n 3, 1) := by decide +kernel
theorem dJ1_indexOf_4cfef_22 : decode cJ1_indexOf_4cfef 22 = .ok (.iload_n 2, 1) := by decide +kernel
theorem dJ1_indexOf_4cfef_23 : decode cJ1_indexOf_4cfef 23 = .ok (.iload_n 3, 1) := by decide +kernel
theorem dJ1_indexOf_4cfef_24 : decode cJ1_indexOf_4cfef 24 = .ok (.if_icmp .lt 5, 3) := by decide +kernel
theorem dJ1_indexOf_4cfef_27 : decode cJ1_indexOf_4cfef 27 = .ok (.iconst (-1), 1) := by decide +kernel
theorem dJ1_indexOf_4cfef_28 : decode cJ1_indexOf_4cfef 28 = .ok (.ireturn, 1) := by decide +kernel
theorem dJ1_indexOf_4cfef_29 : decode cJ1_indexOf_4cfef 29 = .ok (.aload_n 0, 1) := by decide +kernel
theorem dJ1_indexOf_4cfef_30 : decode cJ1_indexOf_4cfef 30 = .ok (.iload_n 1, 1) := by decide +kernel
theorem dJ1_indexOf_4cfef_31 : decode cJ1_indexOf_4cfef 31 = .ok (.iload_n 2, 1) := by decide +kernel
theorem dJ1_indexOf_4cfef_32 : decode cJ1_indexOf_4cfef 32 = .ok (.iload_n 3, 1) := by decide +kernel
theorem dJ1_indexOf_4cfef_33 : decode cJ1_indexOf_4cfef 33 = .ok (.invokestatic 95, 3) := by decide +kernel
theorem dJ1_indexOf_4cfef_36 : decode cJ1_indexOf_4cfef 36 = .ok (.ireturn, 1) := by decide +kernel
theorem dJ1_indexOfChar_4cfef_0 : decode cJ1_indexOfChar_4cfef 0 = .ok (.iload_n 1, 1) := by decide +kernel
theorem dJ1_indexOfChar_4cfef_1 : decode cJ1_indexOfChar_4cfef 1 = .ok (.i2b, 1) := by decide +kernel
theorem dJ1_indexOfChar_4cfef_2 : decode cJ1_indexOfChar_4cfef 2 = .ok (.istore 4, 2) := by decide +kernel
theorem dJ1_indexOfChar_4cfef_4 : decode cJ1_indexOfChar_4cfef 4 = .ok (.iload_n 2, 1) := by decide +kernel
theorem dJ1_indexOfChar_4cfef_5 : decode cJ1_indexOfChar_4cfef 5 = .ok (.istore 5, 2) := by decide +kernel
theorem dJ1_indexOfChar_4cfef_7 : decode cJ1_indexOfChar_4cfef 7 = .ok (.iload 5, 2) := by decide +kernel
theorem dJ1_indexOfChar_4cfef_9 : decode cJ1_indexOfChar_4cfef 9 = .ok (.iload_n 3, 1) := by decide +kernel
theorem dJ1_indexOfChar_4cfef_10 : decode cJ1_indexOfChar_4cfef 10 = .ok (.if_icmp .ge 21, 3) := by decide +kernel
theorem dJ1_indexOfChar_4cfef_13 : decode cJ1_indexOfChar_4cfef 13 = .ok (.aload_n 0, 1) := by decide +kernel
theorem dJ1_indexOfChar_4cfef_14 : decode cJ1_indexOfChar_4cfef 14 = .ok (.iload 5, 2) := by decide +kernel
theorem dJ1_indexOfChar_4cfef_16 : decode cJ1_indexOfChar_4cfef 16 = .ok (.baload, 1) := by decide +kernel
theorem dJ1_indexOfChar_4cfef_17 : decode cJ1_indexOfChar_4cfef 17 = .ok (.iload 4, 2) := by decide +kernel
theorem dJ1_indexOfChar_4cfef_19 : decode cJ1_indexOfChar_4cfef 19 = .ok (.if_icmp .ne 6, 3) := by decide +kernel
theorem dJ1_indexOfChar_4cfef_22 : decode cJ1_indexOfChar_4cfef 22 = .ok (.iload 5, 2) := by decide +kernel
theorem dJ1_indexOfChar_4cfef_24 : decode cJ1_indexOfChar_4cfef 24 = .ok (.ireturn, 1) := by decide +kernel
theorem dJ1_indexOfChar_4cfef_25 : decode cJ1_indexOfChar_4cfef 25 = .ok (.iinc 5 1, 3) := by decide +kernel
theorem dJ1_indexOfChar_4cfef_28 : decode cJ1_indexOfChar_4cfef 28 = .ok (.goto (-21), 3) := by decide +kernel
theorem dJ1_indexOfChar_4cfef_31 : decode cJ1_indexOfChar_4cfef 31 = .ok (.iconst (-1), 1) := by decide +kernel
theorem dJ1_indexOfChar_4cfef_32 : decode cJ1_indexOfChar_4cfef 32 = .ok (.ireturn, 1) := by decide +kernel
theorem dJ2_getChar_3b067_0 : decode cJ2_getChar_3b067 0 = .ok (.getstatic 44, 3) := by decide +kernel
theorem dJ2_getChar_3b067_3 : decode cJ2_getChar_3b067 3 = .ok (.ifCond .ne 25, 3) := by decide +kernel
theorem dJ2_getChar_3b067_6 : decode cJ2_getChar_3b067 6 = .ok (.iload_n 1, 1) := by decide +kernel
theorem dJ2_getChar_3b067_7 : decode cJ2_getChar_3b067 7 = .ok (.ifCond .lt 11, 3) := by decide +kernel
theorem dJ2_getChar_3b067_10 : decode cJ2_getChar_3b067 10 = .ok (.iload_n 1, 1) := by decide +kernel
theorem dJ2_getChar_3b067_11 : decode cJ2_getChar_3b067 11 = .ok (.aload_n 0, 1) := by decide +kernel
theorem dJ2_getChar_3b067_12 : decode cJ2_getChar_3b067 12 = .ok (.invokestatic 48, 3) := by decide +kernel
theorem dJ2_getChar_3b067_15 : decode cJ2_getChar_3b067 15 = .ok (.if_icmp .lt 13, 3) := by decide +kernel
theorem dJ2_getChar_3b067_18 : decode cJ2_getChar_3b067 18 = .ok (.new 52, 3) := by decide +kernel
theorem dJ2_getChar_3b067_21 : decode cJ2_getChar_3b067 21 = .ok (.dup, 1) := by decide +kernel
theorem dJ2_getChar_3b067_22 : decode cJ2_getChar_3b067 22 = .ok (.ldc 54, 2) := by decide +kernel
theorem dJ2_getChar_3b067_24 : decode cJ2_getChar_3b067 24 = .ok (.invokespecial 56, 3) := by decide +kernel
theorem dJ2_getChar_3b067_27 : decode cJ2_getChar_3b067 27 = .ok (.athrow, 1) := by decide +kernel
theorem dJ2_getChar_3b067_28 : decode cJ2_getChar_3b067 28 = .ok (.iload_n 1, 1) := by decide +kernel
theorem dJ2_getChar_3b067_29 : decode cJ2_getChar_3b067 29 = .ok (.iconst 1, 1) := by decide +kernel
theorem dJ2_getChar_3b067_30 : decode cJ2_getChar_3b067 30 = .ok (.ishl, 1) := by decide +kernel
theorem dJ2_getChar_3b067_31 : decode cJ2_getChar_3b067 31 = .ok (.istore_n 1, 1) := by decide +kernel
theorem dJ2_getChar_3b067_32 : decode cJ2_getChar_3b067 32 = .ok (.aload_n 0, 1) := by decide +kernel
theorem dJ2_getChar_3b067_33 : decode cJ2_getChar_3b067 33 = .ok (.iload_n 1, 1) := by decide +kernel
theorem dJ2_getChar_3b067_34 : decode cJ2_getChar_3b067 34 = .ok (.iinc 1 1, 3) := by decide +kernel
theorem dJ2_getChar_3b067_37 : decode cJ2_getChar_3b067 37 = .ok (.baload, 1) := by decide +kernel
theorem dJ2_getChar_3b067_38 : decode cJ2_getChar_3b067 38 = .ok (.sipush 255, 3) := by decide +kernel
theorem dJ2_getChar_3b067_41 : decode cJ2_getChar_3b067 41 = .ok (.iand, 1) := by decide +kernel
theorem dJ2_getChar_3b067_42 : decode cJ2_getChar_3b067 42 = .ok (.getstatic 59, 3) := by decide +kernel
theorem dJ2_getChar_3b067_45 : decode cJ2_getChar_3b067 45 = .ok (.ishl, 1) := by decide +kernel
theorem dJ2_getChar_3b067_46 : decode cJ2_getChar_3b067 46 = .ok (.aload_n 0, 1) := by decide +kernel
theorem dJ2_getChar_3b067_47 : decode cJ2_getChar_3b067 47 = .ok (.iload_n 1, 1) := by decide +kernel
theorem dJ2_getChar_3b067_48 : decode cJ2_getChar_3b067 48 = .ok (.baload, 1) := by decide +kernel
theorem dJ2_getChar_3b067_49 : decode cJ2_getChar_3b067 49 = .ok (.sipush 255, 3) := by decide +kernel
theorem dJ2_getChar_3b067_52 : decode cJ2_getChar_3b067 52 = .ok (.iand, 1) := by decide +kernel
theorem dJ2_getChar_3b067_53 : decode cJ2_getChar_3b067 53 = .ok (.getstatic 63, 3) := by decide +kernel
theorem dJ2_getChar_3b067_56 : decode cJ2_getChar_3b067 56 = .ok (.ishl, 1) := by decide +kernel
theorem dJ2_getChar_3b067_57 : decode cJ2_getChar_3b067 57 = .ok (.ior, 1) := by decide +kernel
theorem dJ2_getChar_3b067_58 : decode cJ2_getChar_3b067 58 = .ok (.i2c, 1) := by decide +kernel
theorem dJ2_getChar_3b067_59 : decode cJ2_getChar_3b067 59 = .ok (.ireturn, 1) := by decide +kernel
theorem dJ2_length_9d52b_0 : decode cJ2_length_9d52b 0 = .ok (.aload_n 0, 1) := by decide +kernel
theorem dJ2_length_9d52b_1 : decode cJ2_length_9d52b 1 = .ok (.arraylength, 1) := by decide +kernel
theorem dJ2_length_9d52b_2 : decode cJ2_length_9d52b 2 = .ok (.iconst 1, 1) := by decide +kernel
theorem dJ2_length_9d52b_3 : decode cJ2_length_9d52b 3 = .ok (.ishr, 1) := by decide +kernel
theorem dJ2_length_9d52b_4 : decode cJ2_length_9d52b 4 = .ok (.ireturn, 1) := by decide +kernel
theorem dJ2_indexOf_4cfef_0 : decode cJ2_indexOf_4cfef 0 = .ok (.iload_n 2, 1) := by decide +kernel
theorem dJ2_indexOf_4cfef_1 : decode cJ2_indexOf_4cfef 1 = .ok (.iconst 0, 1) := by decide +kernel
theorem dJ2_indexOf_4cfef_2 : decode cJ2_indexOf_4cfef 2 = .ok (.invokestatic 224, 3) := by decide +kernel
theorem dJ2_indexOf_4cfef_5 : decode cJ2_indexOf_4cfef 5 = .ok (.istore_n 2, 1) := by decide +kernel
theorem dJ2_indexOf_4cfef_6 : decode cJ2_indexOf_4cfef 6 = .ok (.iload_n 3, 1) := by decide +kernel
theorem dJ2_indexOf_4cfef_7 : decode cJ2_indexOf_4cfef 7 = .ok (.aload_n 0, 1) := by decide +kernel
theorem dJ2_indexOf_4cfef_8 : decode cJ2_indexOf_4cfef 8 = .ok (.arraylength, 1) := by decide +kernel
theorem dJ2_indexOf_4cfef_9 : decode cJ2_indexOf_4cfef 9 = .ok (.iconst 1, 1) := by decide +kernel
theorem dJ2_indexOf_4cfef_10 : decode cJ2_indexOf_4cfef 10 = .ok (.ishr, 1) := by decide +kernel
theorem dJ2_indexOf_4cfef_11 : decode cJ2_indexOf_4cfef 11 = .ok (.invokestatic 183, 3) := by decide +kernel
theorem dJ2_indexOf_4cfef_14 : decode cJ2_indexOf_4cfef 14 = .ok (.istore_n 3, 1) := by decide +kernel
theorem dJ2_indexOf_4cfef_15 : decode cJ2_indexOf_4cfef 15 = .ok (.iload_n 2, 1) := by decide +kernel
theorem dJ2_indexOf_4cfef_16 : decode cJ2_indexOf_4cfef 16 = .ok (.iload_n 3, 1) := by decide +kernel
theorem dJ2_indexOf_4cfef_17 : decode cJ2_indexOf_4cfef 17 = .ok (.if_icmp .lt 5, 3) := by decide +kernel
theorem dJ2_indexOf_4cfef_20 : decode cJ2_indexOf_4cfef 20 = .ok (.iconst (-1), 1) := by decide +kernel
theorem dJ2_indexOf_4cfef_21 : decode cJ2_indexOf_4cfef 21 = .ok (.ireturn, 1) := by decide +kernel
theorem dJ2_indexOf_4cfef_22 : decode cJ2_indexOf_4cfef 22 = .ok (.iload_n 1, 1) := by decide +kernel
theorem dJ2_indexOf_4cfef_23 : decode cJ2_indexOf_4cfef 23 = .ok (.ldc 227, 2) := by decide +kernel
theorem dJ2_indexOf_4cfef_25 : decode cJ2_indexOf_4cfef 25 = .ok (.if_icmp .ge 11, 3) := by decide +kernel
theorem dJ2_indexOf_4cfef_28 : decode cJ2_indexOf_4cfef 28 = .ok (.aload_n 0, 1) := by decide +kernel
theorem dJ2_indexOf_4cfef_29 : decode cJ2_indexOf_4cfef 29 = .ok (.iload_n 1, 1) := by decide +kernel
theorem dJ2_indexOf_4cfef_30 : decode cJ2_indexOf_4cfef 30 = .ok (.iload_n 2, 1) := by decide +kernel
theorem dJ2_indexOf_4cfef_31 : decode cJ2_indexOf_4cfef 31 = .ok (.iload_n 3, 1) := by decide +kernel
theorem dJ2_indexOf_4cfef_32 : decode cJ2_indexOf_4cfef 32 = .ok (.invokestatic 228, 3) := by decide +kernel
theorem dJ2_indexOf_4cfef_35 : decode cJ2_indexOf_4cfef 35 = .ok (.ireturn, 1) := by decide +kernel
theorem dJ2_indexOf_4cfef_36 : decode cJ2_indexOf_4cfef 36 = .ok (.aload_n 0, 1) := by decide +kernel
theorem dJ2_indexOf_4cfef_37 : decode cJ2_indexOf_4cfef 37 = .ok (.iload_n 1, 1) := by decide +kernel
theorem dJ2_indexOf_4cfef_38 : decode cJ2_indexOf_4cfef 38 = .ok (.iload_n 2, 1) := by decide +kernel
theorem dJ2_indexOf_4cfef_39 : decode cJ2_indexOf_4cfef 39 = .ok (.iload_n 3, 1) := by decide +kernel
theorem dJ2_indexOf_4cfef_40 : decode cJ2_indexOf_4cfef 40 = .ok (.invokestatic 232, 3) := by decide +kernel
theorem dJ2_indexOf_4cfef_43 : decode cJ2_indexOf_4cfef 43 = .ok (.ireturn, 1) := by decide +kernel
theorem dJ2_indexOfChar_4cfef_0 : decode cJ2_indexOfChar_4cfef 0 = .ok (.iload_n 2, 1) := by decide +kernel
theorem dJ2_indexOfChar_4cfef_1 : decode cJ2_indexOfChar_4cfef 1 = .ok (.iload_n 3, 1) := by decide +kernel
theorem dJ2_indexOfChar_4cfef_2 : decode cJ2_indexOfChar_4cfef 2 = .ok (.aload_n 0, 1) := by decide +kernel
theorem dJ2_indexOfChar_4cfef_3 : decode cJ2_indexOfChar_4cfef 3 = .ok (.invokestatic 96, 3) := by decide +kernel
theorem dJ2_indexOfChar_4cfef_6 : decode cJ2_indexOfChar_4cfef 6 = .ok (.aload_n 0, 1) := by decide +kernel
theorem dJ2_indexOfChar_4cfef_7 : decode cJ2_indexOfChar_4cfef 7 = .ok (.iload_n 1, 1) := by decide +kernel
theorem dJ2_indexOfChar_4cfef_8 : decode cJ2_indexOfChar_4cfef 8 = .ok (.iload_n 2, 1) := by decide +kernel
theorem dJ2_indexOfChar_4cfef_9 : decode cJ2_indexOfChar_4cfef 9 = .ok (.iload_n 3, 1) := by decide +kernel
theorem dJ2_indexOfChar_4cfef_10 : decode cJ2_indexOfChar_4cfef 10 = .ok (.invokestatic 244, 3) := by decide +kernel
theorem dJ2_indexOfChar_4cfef_13 : decode cJ2_indexOfChar_4cfef 13 = .ok (.ireturn, 1) := by decide +kernel
theorem dJ2_indexOfCharUnsafe_4cfef_0 : decode cJ2_indexOfCharUnsafe_4cfef 0 = .ok (.iload_n 2, 1) := by decide +kernel
theorem dJ2_indexOfCharUnsafe_4cfef_1 : decode cJ2_indexOfCharUnsafe_4cfef 1 = .ok (.istore 4, 2) := by decide +kernel
theorem dJ2_indexOfCharUnsafe_4cfef_3 : decode cJ2_indexOfCharUnsafe_4cfef 3 = .ok (.iload 4, 2) := by decide +kernel
theorem dJ2_indexOfCharUnsafe_4cfef_5 : decode cJ2_indexOfCharUnsafe_4cfef 5 = .ok (.iload_n 3, 1) := by decide +kernel
theorem dJ2_indexOfCharUnsafe_4cfef_6 : decode cJ2_indexOfCharUnsafe_4cfef 6 = .ok (.if_icmp .ge 22, 3) := by decide +kernel
theorem dJ2_indexOfCharUnsafe_4cfef_9 : decode cJ2_indexOfCharUnsafe_4cfef 9 = .ok (.aload_n 0, 1) := by decide +kernel
theorem dJ2_indexOfCharUnsafe_4cfef_10 : decode cJ2_indexOfCharUnsafe_4cfef 10 = .ok (.iload 4, 2) := by decide +kernel
theorem dJ2_indexOfCharUnsafe_4cfef_12 : decode cJ2_indexOfCharUnsafe_4cfef 12 = .ok (.invokestatic 71, 3) := by decide +kernel
theorem dJ2_indexOfCharUnsafe_4cfef_15 : decode cJ2_indexOfCharUnsafe_4cfef 15 = .ok (.iload_n 1, 1) := by decide +kernel
theorem dJ2_indexOfCharUnsafe_4cfef_16 : decode cJ2_indexOfCharUnsafe_4cfef 16 = .ok (.if_icmp .ne 6, 3) := by decide +kernel
theorem dJ2_indexOfCharUnsafe_4cfef_19 : decode cJ2_indexOfCharUnsafe_4cfef 19 = .ok (.iload 4, 2) := by decide +kernel
theorem dJ2_indexOfCharUnsafe_4cfef_21 : decode cJ2_indexOfCharUnsafe_4cfef 21 = .ok (.ireturn, 1) := by decide +kernel
theorem dJ2_indexOfCharUnsafe_4cfef_22 : decode cJ2_indexOfCharUnsafe_4cfef 22 = .ok (.iinc 4 1, 3) := by decide +kernel
theorem dJ2_indexOfCharUnsafe_4cfef_25 : decode cJ2_indexOfCharUnsafe_4cfef 25 = .ok (.goto (-22), 3) := by decide +kernel
theorem dJ2_indexOfCharUnsafe_4cfef_28 : decode cJ2_indexOfCharUnsafe_4cfef 28 = .ok (.iconst (-1), 1) := by decide +kernel
theorem dJ2_indexOfCharUnsafe_4cfef_29 : decode cJ2_indexOfCharUnsafe_4cfef 29 = .ok (.ireturn, 1) := by decide +kernel
theorem dJ2_indexOfSupplementary_4cfef_0 : decode cJ2_indexOfSupplementary_4cfef 0 = .ok (.iload_n 1, 1) := by decide +kernel
theorem dJ2_indexOfSupplementary_4cfef_1 : decode cJ2_indexOfSupplementary_4cfef 1 = .ok (.invokestatic 164, 3) := by decide +kernel
theorem dJ2_indexOfSupplementary_4cfef_4 : decode cJ2_indexOfSupplementary_4cfef 4 = .ok (.ifCond .eq 65, 3) := by decide +kernel
theorem dJ2_indexOfSupplementary_4cfef_7 : decode cJ2_indexOfSupplementary_4cfef 7 = .ok (.iload_n 1, 1) := by decide +kernel
theorem dJ2_indexOfSupplementary_4cfef_8 : decode cJ2_indexOfSupplementary_4cfef 8 = .ok (.invokestatic 157, 3) := by decide +kernel
theorem dJ2_indexOfSupplementary_4cfef_11 : decode cJ2_indexOfSupplementary_4cfef 11 = .ok (.istore 4, 2) := by decide +kernel
theorem dJ2_indexOfSupplementary_4cfef_13 : decode cJ2_indexOfSupplementary_4cfef 13 = .ok (.iload_n 1, 1) := by decide +kernel
theorem dJ2_indexOfSupplementary_4cfef_14 : decode cJ2_indexOfSupplementary_4cfef 14 = .ok (.invokestatic 161, 3) := by decide +kernel
theorem dJ2_indexOfSupplementary_4cfef_17 : decode cJ2_indexOfSupplementary_4cfef 17 = .ok (.istore 5, 2) := by decide +kernel
theorem dJ2_indexOfSupplementary_4cfef_19 : decode cJ2_indexOfSupplementary_4cfef 19 = .ok (.iload_n 2, 1) := by decide +kernel
theorem dJ2_indexOfSupplementary_4cfef_20 : decode cJ2_indexOfSupplementary_4cfef 20 = .ok (.iload_n 3, 1) := by decide +kernel
theorem dJ2_indexOfSupplementary_4cfef_21 : decode cJ2_indexOfSupplementary_4cfef 21 = .ok (.aload_n 0, 1) := by decide +kernel
theorem dJ2_indexOfSupplementary_4cfef_22 : decode cJ2_indexOfSupplementary_4cfef 22 = .ok (.invokestatic 96, 3) := by decide +kernel
theorem dJ2_indexOfSupplementary_4cfef_25 : decode cJ2_indexOfSupplementary_4cfef 25 = .ok (.iload_n 2, 1) := by decide +kernel
theorem dJ2_indexOfSupplementary_4cfef_26 : decode cJ2_indexOfSupplementary_4cfef 26 = .ok (.istore 6, 2) := by decide +kernel
theorem dJ2_indexOfSupplementary_4cfef_28 : decode cJ2_indexOfSupplementary_4cfef 28 = .ok (.iload 6, 2) := by decide +kernel
theorem dJ2_indexOfSupplementary_4cfef_30 : decode cJ2_indexOfSupplementary_4cfef 30 = .ok (.iload_n 3, 1) := by decide +kernel
theorem dJ2_indexOfSupplementary_4cfef_31 : decode cJ2_indexOfSupplementary_4cfef 31 = .ok (.iconst 1, 1) := by decide +kernel
theorem dJ2_indexOfSupplementary_4cfef_32 : decode cJ2_indexOfSupplementary_4cfef 32 = .ok (.isub, 1) := by decide +kernel
theorem dJ2_indexOfSupplementary_4cfef_33 : decode cJ2_indexOfSupplementary_4cfef 33 = .ok (.if_icmp .ge 36, 3) := by decide +kernel
theorem dJ2_indexOfSupplementary_4cfef_36 : decode cJ2_indexOfSupplementary_4cfef 36 = .ok (.aload_n 0, 1) := by decide +kernel
theorem dJ2_indexOfSupplementary_4cfef_37 : decode cJ2_indexOfSupplementary_4cfef 37 = .ok (.iload 6, 2) := by decide +kernel
theorem dJ2_indexOfSupplementary_4cfef_39 : decode cJ2_indexOfSupplementary_4cfef 39 = .ok (.invokestatic 71, 3) := by decide +kernel
theorem dJ2_indexOfSupplementary_4cfef_42 : decode cJ2_indexOfSupplementary_4cfef 42 = .ok (.iload 4, 2) := by decide +kernel
theorem dJ2_indexOfSupplementary_4cfef_44 : decode cJ2_indexOfSupplementary_4cfef 44 = .ok (.if_icmp .ne 19, 3) := by decide +kernel
theorem dJ2_indexOfSupplementary_4cfef_47 : decode cJ2_indexOfSupplementary_4cfef 47 = .ok (.aload_n 0, 1) := by decide +kernel
theorem dJ2_indexOfSupplementary_4cfef_48 : decode cJ2_indexOfSupplementary_4cfef 48 = .ok (.iload 6, 2) := by decide +kernel
theorem dJ2_indexOfSupplementary_4cfef_50 : decode cJ2_indexOfSupplementary_4cfef 50 = .ok (.iconst 1, 1) := by decide +kernel
theorem dJ2_indexOfSupplementary_4cfef_51 : decode cJ2_indexOfSupplementary_4cfef 51 = .ok (.iadd, 1) := by decide +kernel
theorem dJ2_indexOfSupplementary_4cfef_52 : decode cJ2_indexOfSupplementary_4cfef 52 = .ok (.invokestatic 71, 3) := by decide +kernel
theorem dJ2_indexOfSupplementary_4cfef_55 : decode cJ2_indexOfSupplementary_4cfef 55 = .ok (.iload 5, 2) := by decide +kernel
theorem dJ2_indexOfSupplementary_4cfef_57 : decode cJ2_indexOfSupplementary_4cfef 57 = .ok (.if_icmp .ne 6, 3) := by decide +kernel
theorem dJ2_indexOfSupplementary_4cfef_60 : decode cJ2_indexOfSupplementary_4cfef 60 = .ok (.iload 6, 2) := by decide +kernel
theorem dJ2_indexOfSupplementary_4cfef_62 : decode cJ2_indexOfSupplementary_4cfef 62 = .ok (.ireturn, 1) := by decide +kernel
theorem dJ2_indexOfSupplementary_4cfef_63 : decode cJ2_indexOfSupplementary_4cfef 63 = .ok (.iinc 6 1, 3) := by decide +kernel
theorem dJ2_indexOfSupplementary_4cfef_66 : decode cJ2_indexOfSupplementary_4cfef 66 = .ok (.goto (-38), 3) := by decide +kernel
theorem dJ2_indexOfSupplementary_4cfef_69 : decode cJ2_indexOfSupplementary_4cfef 69 = .ok (.iconst (-1), 1) := by decide +kernel
theorem dJ2_indexOfSupplementary_4cfef_70 : decode cJ2_indexOfSupplementary_4cfef 70 = .ok (.ireturn, 1) := by decide +kernel
theorem dJ2_charAt_3b067_0 : decode cJ2_charAt_3b067 0 = .ok (.iload_n 1, 1) := by decide +kernel
theorem dJ2_charAt_3b067_1 : decode cJ2_charAt_3b067 1 = .ok (.aload_n 0, 1) := by decide +kernel
theorem dJ2_charAt_3b067_2 : decode cJ2_charAt_3b067 2 = .ok (.invokestatic 67, 3) := by decide +kernel
theorem dJ2_charAt_3b067_5 : decode cJ2_charAt_3b067 5 = .ok (.aload_n 0, 1) := by decide +kernel
theorem dJ2_charAt_3b067_6 : decode cJ2_charAt_3b067 6 = .ok (.iload_n 1, 1) := by decide +kernel
theorem dJ2_charAt_3b067_7 : decode cJ2_charAt_3b067 7 = .ok (.invokestatic 71, 3) := by decide +kernel
theorem dJ2_charAt_3b067_10 : decode cJ2_charAt_3b067 10 = .ok (.ireturn, 1) := by decide +kernel
theorem dJ2_checkIndex_2214a_0 : decode cJ2_checkIndex_2214a 0 = .ok (.iload_n 0, 1) := by decide +kernel
theorem dJ2_checkIndex_2214a_1 : decode cJ2_checkIndex_2214a 1 = .ok (.aload_n 1, 1) := by decide +kernel
theorem dJ2_checkIndex_2214a_2 : decode cJ2_checkIndex_2214a 2 = .ok (.invokestatic 48, 3) := by decide +kernel
theorem dJ2_checkIndex_2214a_5 : decode cJ2_checkIndex_2214a 5 = .ok (.invokestatic 414, 3) := by decide +kernel
theorem dJ2_checkIndex_2214a_8 : decode cJ2_checkIndex_2214a 8 = .ok (.return_, 1) := by decide +kernel
theorem dJ2_checkBoundsBeginEnd_d044e_0 : decode cJ2_checkBoundsBeginEnd_d044e 0 = .ok (.iload_n 0, 1) := by decide +kernel
theorem dJ2_checkBoundsBeginEnd_d044e_1 : decode cJ2_checkBoundsBeginEnd_d044e 1 = .ok (.iload_n 1, 1) := by decide +kernel
