theorem dX0_init_0 : decode cX0_init 0 = .ok (.aload_n 0, 1) := by decide +kernel
theorem dX0_init_1 : decode cX0_init 1 = .ok (.invokespecial 1, 3) := by decide +kernel
theorem dX0_init_4 : decode cX0_init 4 = .ok (.aload_n 0, 1) := by decide +kernel
theorem dX0_init_5 : decode cX0_init 5 = .ok (.iload_n 1, 1) := by decide +kernel
theorem dX0_init_6 : decode cX0_init 6 = .ok (.putfield 7, 3) := by decide +kernel
theorem dX0_init_9 : decode cX0_init 9 = .ok (.aload_n 0, 1) := by decide +kernel
theorem dX0_init_10 : decode cX0_init 10 = .ok (.iload_n 2, 1) := by decide +kernel
theorem dX0_init_11 : decode cX0_init 11 = .ok (.putfield 13, 3) := by decide +kernel
theorem dX0_init_14 : decode cX0_init 14 = .ok (.aload_n 0, 1) := by decide +kernel
theorem dX0_init_15 : decode cX0_init 15 = .ok (.iload_n 3, 1) := by decide +kernel
theorem dX0_init_16 : decode cX0_init 16 = .ok (.putfield 16, 3) := by decide +kernel
theorem dX0_init_19 : decode cX0_init 19 = .ok (.aload_n 0, 1) := by decide +kernel
theorem dX0_init_20 : decode cX0_init 20 = .ok (.iload 4, 2) := by decide +kernel
theorem dX0_init_22 : decode cX0_init 22 = .ok (.putfield 19, 3) := by decide +kernel
theorem dX0_init_25 : decode cX0_init 25 = .ok (.return_, 1) := by decide +kernel
theorem dX1_init_0 : decode cX1_init 0 = .ok (.aload_n 0, 1) := by decide +kernel
theorem dX1_init_1 : decode cX1_init 1 = .ok (.invokespecial 1, 3) := by decide +kernel
theorem dX1_init_4 : decode cX1_init 4 = .ok (.aload_n 0, 1) := by decide +kernel
theorem dX1_init_5 : decode cX1_init 5 = .ok (.iconst 0, 1) := by decide +kernel
theorem dX1_init_6 : decode cX1_init 6 = .ok (.iload_n 3, 1) := by decide +kernel
theorem dX1_init_7 : decode cX1_init 7 = .ok (.aload_n 1, 1) := by decide +kernel
theorem dX1_init_8 : decode cX1_init 8 = .ok (.arraylength, 1) := by decide +kernel
theorem dX1_init_9 : decode cX1_init 9 = .ok (.aload_n 2, 1) := by decide +kernel
theorem dX1_init_10 : decode cX1_init 10 = .ok (.arraylength, 1) := by decide +kernel
theorem dX1_init_11 : decode cX1_init 11 = .ok (.invokestatic 7, 3) := by decide +kernel
theorem dX1_init_14 : decode cX1_init 14 = .ok (.invokestatic 7, 3) := by decide +kernel
theorem dX1_init_17 : decode cX1_init 17 = .ok (.invokestatic 13, 3) := by decide +kernel
theorem dX1_init_20 : decode cX1_init 20 = .ok (.putfield 16, 3) := by decide +kernel
theorem dX1_init_23 : decode cX1_init 23 = .ok (.aload_n 0, 1) := by decide +kernel
theorem dX1_init_24 : decode cX1_init 24 = .ok (.aload_n 1, 1) := by decide +kernel
theorem dX1_init_25 : decode cX1_init 25 = .ok (.aload_n 0, 1) := by decide +kernel
theorem dX1_init_26 : decode cX1_init 26 = .ok (.getfield 16, 3) := by decide +kernel
theorem dX1_init_29 : decode cX1_init 29 = .ok (.invokestatic 22, 3) := by decide +kernel
theorem dX1_init_32 : decode cX1_init 32 = .ok (.putfield 28, 3) := by decide +kernel
theorem dX1_init_35 : decode cX1_init 35 = .ok (.aload_n 0, 1) := by decide +kernel
theorem dX1_init_36 : decode cX1_init 36 = .ok (.aload_n 2, 1) := by decide +kernel
theorem dX1_init_37 : decode cX1_init 37 = .ok (.aload_n 0, 1) := by decide +kernel
theorem dX1_init_38 : decode cX1_init 38 = .ok (.getfield 16, 3) := by decide +kernel
theorem dX1_init_41 : decode cX1_init 41 = .ok (.invokestatic 22, 3) := by decide +kernel
theorem dX1_init_44 : decode cX1_init 44 = .ok (.putfield 32, 3) := by decide +kernel
theorem dX1_init_47 : decode cX1_init 47 = .ok (.aload_n 0, 1) := by decide +kernel
theorem dX1_init_48 : decode cX1_init 48 = .ok (.iload 4, 2) := by decide +kernel
theorem dX1_init_50 : decode cX1_init 50 = .ok (.putfield 35, 3) := by decide +kernel
theorem dX1_init_53 : decode cX1_init 53 = .ok (.aload_n 0, 1) := by decide +kernel
theorem dX1_init_54 : decode cX1_init 54 = .ok (.iload 5, 2) := by decide +kernel
theorem dX1_init_56 : decode cX1_init 56 = .ok (.putfield 38, 3) := by decide +kernel
theorem dX1_init_59 : decode cX1_init 59 = .ok (.return_, 1) := by decide +kernel
theorem dX1_op_0 : decode cX1_op 0 = .ok (.iload_n 1, 1) := by decide +kernel
theorem dX1_op_1 : decode cX1_op 1 = .ok (.ifCond .lt 21, 3) := by decide +kernel
theorem dX1_op_4 : decode cX1_op 4 = .ok (.iload_n 1, 1) := by decide +kernel
theorem dX1_op_5 : decode cX1_op 5 = .ok (.aload_n 0, 1) := by decide +kernel
theorem dX1_op_6 : decode cX1_op 6 = .ok (.getfield 28, 3) := by decide +kernel
theorem dX1_op_9 : decode cX1_op 9 = .ok (.arraylength, 1) := by decide +kernel
theorem dX1_op_10 : decode cX1_op 10 = .ok (.if_icmp .ge 12, 3) := by decide +kernel
theorem dX1_op_13 : decode cX1_op 13 = .ok (.aload_n 0, 1) := by decide +kernel
theorem dX1_op_14 : decode cX1_op 14 = .ok (.getfield 28, 3) := by decide +kernel
theorem dX1_op_17 : decode cX1_op 17 = .ok (.iload_n 1, 1) := by decide +kernel
theorem dX1_op_18 : decode cX1_op 18 = .ok (.iaload, 1) := by decide +kernel
theorem dX1_op_19 : decode cX1_op 19 = .ok (.goto 4, 3) := by decide +kernel
theorem dX1_op_22 : decode cX1_op 22 = .ok (.iconst 0, 1) := by decide +kernel
theorem dX1_op_23 : decode cX1_op 23 = .ok (.ireturn, 1) := by decide +kernel
theorem dX1_arg_0 : decode cX1_arg 0 = .ok (.iload_n 1, 1) := by decide +kernel
theorem dX1_arg_1 : decode cX1_arg 1 = .ok (.ifCond .lt 21, 3) := by decide +kernel
theorem dX1_arg_4 : decode cX1_arg 4 = .ok (.iload_n 1, 1) := by decide +kernel
theorem dX1_arg_5 : decode cX1_arg 5 = .ok (.aload_n 0, 1) := by decide +kernel
theorem dX1_arg_6 : decode cX1_arg 6 = .ok (.getfield 32, 3) := by decide +kernel
theorem dX1_arg_9 : decode cX1_arg 9 = .ok (.arraylength, 1) := by decide +kernel
theorem dX1_arg_10 : decode cX1_arg 10 = .ok (.if_icmp .ge 12, 3) := by decide +kernel
theorem dX1_arg_13 : decode cX1_arg 13 = .ok (.aload_n 0, 1) := by decide +kernel
theorem dX1_arg_14 : decode cX1_arg 14 = .ok (.getfield 32, 3) := by decide +kernel
theorem dX1_arg_17 : decode cX1_arg 17 = .ok (.iload_n 1, 1) := by decide +kernel
theorem dX1_arg_18 : decode cX1_arg 18 = .ok (.iaload, 1) := by decide +kernel
theorem dX1_arg_19 : decode cX1_arg 19 = .ok (.goto 4, 3) := by decide +kernel
theorem dX1_arg_22 : decode cX1_arg 22 = .ok (.iconst 0, 1) := by decide +kernel
theorem dX1_arg_23 : decode cX1_arg 23 = .ok (.ireturn, 1) := by decide +kernel
theorem dX2_init_0 : decode cX2_init 0 = .ok (.aload_n 0, 1) := by decide +kernel
theorem dX2_init_1 : decode cX2_init 1 = .ok (.invokespecial 3, 3) := by decide +kernel
theorem dX2_init_4 : decode cX2_init 4 = .ok (.aload_n 0, 1) := by decide +kernel
theorem dX2_init_5 : decode cX2_init 5 = .ok (.new 9, 3) := by decide +kernel
theorem dX2_init_8 : decode cX2_init 8 = .ok (.dup, 1) := by decide +kernel
theorem dX2_init_9 : decode cX2_init 9 = .ok (.bipush 8, 2) := by decide +kernel
theorem dX2_init_11 : decode cX2_init 11 = .ok (.invokespecial 11, 3) := by decide +kernel
theorem dX2_init_14 : decode cX2_init 14 = .ok (.putfield 14, 3) := by decide +kernel
theorem dX2_init_17 : decode cX2_init 17 = .ok (.aload_n 0, 1) := by decide +kernel
theorem dX2_init_18 : decode cX2_init 18 = .ok (.aload_n 1, 1) := by decide +kernel
theorem dX2_init_19 : decode cX2_init 19 = .ok (.putfield 20, 3) := by decide +kernel
theorem dX2_init_22 : decode cX2_init 22 = .ok (.aload_n 0, 1) := by decide +kernel
theorem dX2_init_23 : decode cX2_init 23 = .ok (.aload_n 2, 1) := by decide +kernel
theorem dX2_init_24 : decode cX2_init 24 = .ok (.putfield 24, 3) := by decide +kernel
theorem dX2_init_27 : decode cX2_init 27 = .ok (.return_, 1) := by decide +kernel
theorem dX2_keptCount_0 : decode cX2_keptCount 0 = .ok (.aload_n 0, 1) := by decide +kernel
theorem dX2_keptCount_1 : decode cX2_keptCount 1 = .ok (.getfield 14, 3) := by decide +kernel
theorem dX2_keptCount_4 : decode cX2_keptCount 4 = .ok (.invokevirtual 28, 3) := by decide +kernel
theorem dX2_keptCount_7 : decode cX2_keptCount 7 = .ok (.ireturn, 1) := by decide +kernel
theorem dX2_tellKept_0 : decode cX2_tellKept 0 = .ok (.aload_n 0, 1) := by decide +kernel
theorem dX2_tellKept_1 : decode cX2_tellKept 1 = .ok (.getfield 14, 3) := by decide +kernel
theorem dX2_tellKept_4 : decode cX2_tellKept 4 = .ok (.iload_n 1, 1) := by decide +kernel
theorem dX2_tellKept_5 : decode cX2_tellKept 5 = .ok (.iload_n 2, 1) := by decide +kernel
theorem dX2_tellKept_6 : decode cX2_tellKept 6 = .ok (.invokevirtual 32, 3) := by decide +kernel
theorem dX2_tellKept_9 : decode cX2_tellKept 9 = .ok (.ireturn, 1) := by decide +kernel
theorem dX2_forget_0 : decode cX2_forget 0 = .ok (.aload_n 0, 1) := by decide +kernel
theorem dX2_forget_1 : decode cX2_forget 1 = .ok (.getfield 14, 3) := by decide +kernel
theorem dX2_forget_4 : decode cX2_forget 4 = .ok (.invokevirtual 36, 3) := by decide +kernel
theorem dX2_forget_7 : decode cX2_forget 7 = .ok (.aload_n 0, 1) := by decide +kernel
theorem dX2_forget_8 : decode cX2_forget 8 = .ok (.getfield 24, 3) := by decide +kernel
theorem dX2_forget_11 : decode cX2_forget 11 = .ok (.invokevirtual 39, 3) := by decide +kernel
theorem dX2_forget_14 : decode cX2_forget 14 = .ok (.return_, 1) := by decide +kernel
theorem dX2_drawUntilBroken_0 : decode cX2_drawUntilBroken 0 = .ok (.aload_n 0, 1) := by decide +kernel
theorem dX2_drawUntilBroken_1 : decode cX2_drawUntilBroken 1 = .ok (.iload_n 2, 1) := by decide +kernel
theorem dX2_drawUntilBroken_2 : decode cX2_drawUntilBroken 2 = .ok (.putfield 44, 3) := by decide +kernel
theorem dX2_drawUntilBroken_5 : decode cX2_drawUntilBroken 5 = .ok (.iconst 0, 1) := by decide +kernel
theorem dX2_drawUntilBroken_6 : decode cX2_drawUntilBroken 6 = .ok (.istore 5, 2) := by decide +kernel
theorem dX2_drawUntilBroken_8 : decode cX2_drawUntilBroken 8 = .ok (.iload 5, 2) := by decide +kernel
theorem dX2_drawUntilBroken_10 : decode cX2_drawUntilBroken 10 = .ok (.iload_n 3, 1) := by decide +kernel
theorem dX2_drawUntilBroken_11 : decode cX2_drawUntilBroken 11 = .ok (.if_icmp .ge 102, 3) := by decide +kernel
theorem dX2_drawUntilBroken_14 : decode cX2_drawUntilBroken 14 = .ok (.aload_n 0, 1) := by decide +kernel
theorem dX2_drawUntilBroken_15 : decode cX2_drawUntilBroken 15 = .ok (.aload 4, 2) := by decide +kernel
theorem dX2_drawUntilBroken_17 : decode cX2_drawUntilBroken 17 = .ok (.invokevirtual 48, 3) := by decide +kernel
theorem dX2_drawUntilBroken_20 : decode cX2_drawUntilBroken 20 = .ok (.istore 6, 2) := by decide +kernel
theorem dX2_drawUntilBroken_22 : decode cX2_drawUntilBroken 22 = .ok (.aload_n 0, 1) := by decide +kernel
theorem dX2_drawUntilBroken_23 : decode cX2_drawUntilBroken 23 = .ok (.getfield 24, 3) := by decide +kernel
theorem dX2_drawUntilBroken_26 : decode cX2_drawUntilBroken 26 = .ok (.invokevirtual 52, 3) := by decide +kernel
theorem dX2_drawUntilBroken_29 : decode cX2_drawUntilBroken 29 = .ok (.aload_n 0, 1) := by decide +kernel
theorem dX2_drawUntilBroken_30 : decode cX2_drawUntilBroken 30 = .ok (.getfield 20, 3) := by decide +kernel
theorem dX2_drawUntilBroken_33 : decode cX2_drawUntilBroken 33 = .ok (.aload 4, 2) := by decide +kernel
theorem dX2_drawUntilBroken_35 : decode cX2_drawUntilBroken 35 = .ok (.iload 6, 2) := by decide +kernel
theorem dX2_drawUntilBroken_37 : decode cX2_drawUntilBroken 37 = .ok (.aload_n 1, 1) := by decide +kernel
theorem dX2_drawUntilBroken_38 : decode cX2_drawUntilBroken 38 = .ok (.invokevirtual 55, 3) := by decide +kernel
theorem dX2_drawUntilBroken_41 : decode cX2_drawUntilBroken 41 = .ok (.istore 7, 2) := by decide +kernel
theorem dX2_drawUntilBroken_43 : decode cX2_drawUntilBroken 43 = .ok (.aload_n 0, 1) := by decide +kernel
theorem dX2_drawUntilBroken_44 : decode cX2_drawUntilBroken 44 = .ok (.getfield 24, 3) := by decide +kernel
theorem dX2_drawUntilBroken_47 : decode cX2_drawUntilBroken 47 = .ok (.invokevirtual 61, 3) := by decide +kernel
theorem dX2_drawUntilBroken_50 : decode cX2_drawUntilBroken 50 = .ok (.istore 8, 2) := by decide +kernel
theorem dX2_drawUntilBroken_52 : decode cX2_drawUntilBroken 52 = .ok (.iload 7, 2) := by decide +kernel
theorem dX2_drawUntilBroken_54 : decode cX2_drawUntilBroken 54 = .ok (.bipush (-2), 2) := by decide +kernel
theorem dX2_drawUntilBroken_56 : decode cX2_drawUntilBroken 56 = .ok (.if_icmp .ne 8, 3) := by decide +kernel
theorem dX2_drawUntilBroken_59 : decode cX2_drawUntilBroken 59 = .ok (.iload 6, 2) := by decide +kernel
theorem dX2_drawUntilBroken_61 : decode cX2_drawUntilBroken 61 = .ok (.goto 7, 3) := by decide +kernel
theorem dX2_drawUntilBroken_64 : decode cX2_drawUntilBroken 64 = .ok (.iload 7, 2) := by decide +kernel
theorem dX2_drawUntilBroken_66 : decode cX2_drawUntilBroken 66 = .ok (.iconst 1, 1) := by decide +kernel
theorem dX2_drawUntilBroken_67 : decode cX2_drawUntilBroken 67 = .ok (.iadd, 1) := by decide +kernel
theorem dX2_drawUntilBroken_68 : decode cX2_drawUntilBroken 68 = .ok (.istore 9, 2) := by decide +kernel
theorem dX2_drawUntilBroken_70 : decode cX2_drawUntilBroken 70 = .ok (.iload 8, 2) := by decide +kernel
theorem dX2_drawUntilBroken_72 : decode cX2_drawUntilBroken 72 = .ok (.ifCond .eq 25, 3) := by decide +kernel
theorem dX2_drawUntilBroken_75 : decode cX2_drawUntilBroken 75 = .ok (.aload_n 0, 1) := by decide +kernel
theorem dX2_drawUntilBroken_76 : decode cX2_drawUntilBroken 76 = .ok (.getfield 14, 3) := by decide +kernel
theorem dX2_drawUntilBroken_79 : decode cX2_drawUntilBroken 79 = .ok (.invokevirtual 65, 3) := by decide +kernel
theorem dX2_drawUntilBroken_82 : decode cX2_drawUntilBroken 82 = .ok (.ifCond .ne 15, 3) := by decide +kernel
theorem dX2_drawUntilBroken_85 : decode cX2_drawUntilBroken 85 = .ok (.aload_n 0, 1) := by decide +kernel
theorem dX2_drawUntilBroken_86 : decode cX2_drawUntilBroken 86 = .ok (.getfield 14, 3) := by decide +kernel
theorem dX2_drawUntilBroken_89 : decode cX2_drawUntilBroken 89 = .ok (.aload 4, 2) := by decide +kernel
theorem dX2_drawUntilBroken_91 : decode cX2_drawUntilBroken 91 = .ok (.iload 9, 2) := by decide +kernel
theorem dX2_drawUntilBroken_93 : decode cX2_drawUntilBroken 93 = .ok (.invokevirtual 68, 3) := by decide +kernel
theorem dX2_drawUntilBroken_96 : decode cX2_drawUntilBroken 96 = .ok (.pop, 1) := by decide +kernel
theorem dX2_drawUntilBroken_97 : decode cX2_drawUntilBroken 97 = .ok (.iload 7, 2) := by decide +kernel
theorem dX2_drawUntilBroken_99 : decode cX2_drawUntilBroken 99 = .ok (.bipush (-2), 2) := by decide +kernel
theorem dX2_drawUntilBroken_101 : decode cX2_drawUntilBroken 101 = .ok (.if_icmp .eq 6, 3) := by decide +kernel
theorem dX2_drawUntilBroken_104 : decode cX2_drawUntilBroken 104 = .ok (.iload 9, 2) := by decide +kernel
theorem dX2_drawUntilBroken_106 : decode cX2_drawUntilBroken 106 = .ok (.ireturn, 1) := by decide +kernel
theorem dX2_drawUntilBroken_107 : decode cX2_drawUntilBroken 107 = .ok (.iinc 5 1, 3) := by decide +kernel
theorem dX2_drawUntilBroken_110 : decode cX2_drawUntilBroken 110 = .ok (.goto (-102), 3) := by decide +kernel
theorem dX2_drawUntilBroken_113 : decode cX2_drawUntilBroken 113 = .ok (.bipush (-2), 2) := by decide +kernel
theorem dX2_drawUntilBroken_115 : decode cX2_drawUntilBroken 115 = .ok (.ireturn, 1) := by decide +kernel
theorem dX2_drawInto_0 : decode cX2_drawInto 0 = .ok (.aload_n 0, 1) := by decide +kernel
theorem dX2_drawInto_1 : decode cX2_drawInto 1 = .ok (.getfield 20, 3) := by decide +kernel
theorem dX2_drawInto_4 : decode cX2_drawInto 4 = .ok (.invokevirtual 72, 3) := by decide +kernel
theorem dX2_drawInto_7 : decode cX2_drawInto 7 = .ok (.istore_n 2, 1) := by decide +kernel
theorem dX2_drawInto_8 : decode cX2_drawInto 8 = .ok (.iload_n 2, 1) := by decide +kernel
theorem dX2_drawInto_9 : decode cX2_drawInto 9 = .ok (.ifCond .gt 5, 3) := by decide +kernel
theorem dX2_drawInto_12 : decode cX2_drawInto 12 = .ok (.iconst 0, 1) := by decide +kernel
theorem dX2_drawInto_13 : decode cX2_drawInto 13 = .ok (.ireturn, 1) := by decide +kernel
theorem dX2_drawInto_14 : decode cX2_drawInto 14 = .ok (.iconst 0, 1) := by decide +kernel
theorem dX2_drawInto_15 : decode cX2_drawInto 15 = .ok (.istore_n 3, 1) := by decide +kernel
theorem dX2_drawInto_16 : decode cX2_drawInto 16 = .ok (.aload_n 0, 1) := by decide +kernel
theorem dX2_drawInto_17 : decode cX2_drawInto 17 = .ok (.invokevirtual 75, 3) := by decide +kernel
theorem dX2_drawInto_20 : decode cX2_drawInto 20 = .ok (.istore 4, 2) := by decide +kernel
theorem dX2_drawInto_22 : decode cX2_drawInto 22 = .ok (.aload_n 0, 1) := by decide +kernel
theorem dX2_drawInto_23 : decode cX2_drawInto 23 = .ok (.getfield 14, 3) := by decide +kernel
theorem dX2_drawInto_26 : decode cX2_drawInto 26 = .ok (.invokevirtual 28, 3) := by decide +kernel
theorem dX2_drawInto_29 : decode cX2_drawInto 29 = .ok (.ifCond .le 32, 3) := by decide +kernel
theorem dX2_drawInto_32 : decode cX2_drawInto 32 = .ok (.iload 4, 2) := by decide +kernel
theorem dX2_drawInto_34 : decode cX2_drawInto 34 = .ok (.iconst 2, 1) := by decide +kernel
theorem dX2_drawInto_35 : decode cX2_drawInto 35 = .ok (.irem, 1) := by decide +kernel
theorem dX2_drawInto_36 : decode cX2_drawInto 36 = .ok (.iconst 1, 1) := by decide +kernel
theorem dX2_drawInto_37 : decode cX2_drawInto 37 = .ok (.if_icmp .ne 24, 3) := by decide +kernel
theorem dX2_drawInto_40 : decode cX2_drawInto 40 = .ok (.aload_n 0, 1) := by decide +kernel
theorem dX2_drawInto_41 : decode cX2_drawInto 41 = .ok (.getfield 14, 3) := by decide +kernel
theorem dX2_drawInto_44 : decode cX2_drawInto 44 = .ok (.iload 4, 2) := by decide +kernel
theorem dX2_drawInto_46 : decode cX2_drawInto 46 = .ok (.iconst 2, 1) := by decide +kernel
theorem dX2_drawInto_47 : decode cX2_drawInto 47 = .ok (.idiv, 1) := by decide +kernel
theorem dX2_drawInto_48 : decode cX2_drawInto 48 = .ok (.aload_n 0, 1) := by decide +kernel
theorem dX2_drawInto_49 : decode cX2_drawInto 49 = .ok (.getfield 14, 3) := by decide +kernel
theorem dX2_drawInto_52 : decode cX2_drawInto 52 = .ok (.invokevirtual 28, 3) := by decide +kernel
theorem dX2_drawInto_55 : decode cX2_drawInto 55 = .ok (.irem, 1) := by decide +kernel
theorem dX2_drawInto_56 : decode cX2_drawInto 56 = .ok (.aload_n 1, 1) := by decide +kernel
theorem dX2_drawInto_57 : decode cX2_drawInto 57 = .ok (.invokevirtual 78, 3) := by decide +kernel
theorem dX2_drawInto_60 : decode cX2_drawInto 60 = .ok (.istore_n 3, 1) := by decide +kernel
theorem dX2_drawInto_61 : decode cX2_drawInto 61 = .ok (.iload_n 3, 1) := by decide +kernel
theorem dX2_drawInto_62 : decode cX2_drawInto 62 = .ok (.iconst 1, 1) := by decide +kernel
theorem dX2_drawInto_63 : decode cX2_drawInto 63 = .ok (.iadd, 1) := by decide +kernel
theorem dX2_drawInto_64 : decode cX2_drawInto 64 = .ok (.aload_n 0, 1) := by decide +kernel
theorem dX2_drawInto_65 : decode cX2_drawInto 65 = .ok (.invokevirtual 75, 3) := by decide +kernel
theorem dX2_drawInto_68 : decode cX2_drawInto 68 = .ok (.bipush 6, 2) := by decide +kernel
theorem dX2_drawInto_70 : decode cX2_drawInto 70 = .ok (.irem, 1) := by decide +kernel
theorem dX2_drawInto_71 : decode cX2_drawInto 71 = .ok (.iadd, 1) := by decide +kernel
theorem dX2_drawInto_72 : decode cX2_drawInto 72 = .ok (.aload_n 1, 1) := by decide +kernel
theorem dX2_drawInto_73 : decode cX2_drawInto 73 = .ok (.arraylength, 1) := by decide +kernel
theorem dX2_drawInto_74 : decode cX2_drawInto 74 = .ok (.bipush 12, 2) := by decide +kernel
theorem dX2_drawInto_76 : decode cX2_drawInto 76 = .ok (.invokestatic 82, 3) := by decide +kernel
theorem dX2_drawInto_79 : decode cX2_drawInto 79 = .ok (.invokestatic 82, 3) := by decide +kernel
theorem dX2_drawInto_82 : decode cX2_drawInto 82 = .ok (.istore 5, 2) := by decide +kernel
theorem dX2_drawInto_84 : decode cX2_drawInto 84 = .ok (.iload_n 3, 1) := by decide +kernel
theorem dX2_drawInto_85 : decode cX2_drawInto 85 = .ok (.istore 6, 2) := by decide +kernel
theorem dX2_drawInto_87 : decode cX2_drawInto 87 = .ok (.iload 6, 2) := by decide +kernel
theorem dX2_drawInto_89 : decode cX2_drawInto 89 = .ok (.iload 5, 2) := by decide +kernel
theorem dX2_drawInto_91 : decode cX2_drawInto 91 = .ok (.if_icmp .ge 19, 3) := by decide +kernel
theorem dX2_drawInto_94 : decode cX2_drawInto 94 = .ok (.aload_n 1, 1) := by decide +kernel
theorem dX2_drawInto_95 : decode cX2_drawInto 95 = .ok (.iload 6, 2) := by decide +kernel
theorem dX2_drawInto_97 : decode cX2_drawInto 97 = .ok (.aload_n 0, 1) := by decide +kernel
theorem dX2_drawInto_98 : decode cX2_drawInto 98 = .ok (.invokevirtual 75, 3) := by decide +kernel
theorem dX2_drawInto_101 : decode cX2_drawInto 101 = .ok (.iload_n 2, 1) := by decide +kernel
theorem dX2_drawInto_102 : decode cX2_drawInto 102 = .ok (.irem, 1) := by decide +kernel
theorem dX2_drawInto_103 : decode cX2_drawInto 103 = .ok (.iastore, 1) := by decide +kernel
theorem dX2_drawInto_104 : decode cX2_drawInto 104 = .ok (.iinc 6 1, 3) := by decide +kernel
theorem dX2_drawInto_107 : decode cX2_drawInto 107 = .ok (.goto (-20), 3) := by decide +kernel
theorem dX2_drawInto_110 : decode cX2_drawInto 110 = .ok (.iload 5, 2) := by decide +kernel
theorem dX2_drawInto_112 : decode cX2_drawInto 112 = .ok (.ireturn, 1) := by decide +kernel
theorem dX2_drawNumber_0 : decode cX2_drawNumber 0 = .ok (.aload_n 0, 1) := by decide +kernel
theorem dX2_drawNumber_1 : decode cX2_drawNumber 1 = .ok (.aload_n 0, 1) := by decide +kernel
theorem dX2_drawNumber_2 : decode cX2_drawNumber 2 = .ok (.getfield 44, 3) := by decide +kernel
theorem dX2_drawNumber_5 : decode cX2_drawNumber 5 = .ok (.ldc 87, 2) := by decide +kernel
theorem dX2_drawNumber_7 : decode cX2_drawNumber 7 = .ok (.imul, 1) := by decide +kernel
theorem dX2_drawNumber_8 : decode cX2_drawNumber 8 = .ok (.sipush 12345, 3) := by decide +kernel
theorem dX2_drawNumber_11 : decode cX2_drawNumber 11 = .ok (.iadd, 1) := by decide +kernel
theorem dX2_drawNumber_12 : decode cX2_drawNumber 12 = .ok (.putfield 44, 3) := by decide +kernel
theorem dX2_drawNumber_15 : decode cX2_drawNumber 15 = .ok (.aload_n 0, 1) := by decide +kernel
theorem dX2_drawNumber_16 : decode cX2_drawNumber 16 = .ok (.getfield 44, 3) := by decide +kernel
theorem dX2_drawNumber_19 : decode cX2_drawNumber 19 = .ok (.bipush 16, 2) := by decide +kernel
theorem dX2_drawNumber_21 : decode cX2_drawNumber 21 = .ok (.iushr, 1) := by decide +kernel
theorem dX2_drawNumber_22 : decode cX2_drawNumber 22 = .ok (.ireturn, 1) := by decide +kernel
theorem dX3_init_0 : decode cX3_init 0 = .ok (.aload_n 0, 1) := by decide +kernel
theorem dX3_init_1 : decode cX3_init 1 = .ok (.invokespecial 3, 3) := by decide +kernel
theorem dX3_init_4 : decode cX3_init 4 = .ok (.aload_n 0, 1) := by decide +kernel
theorem dX3_init_5 : decode cX3_init 5 = .ok (.sipush 7600, 3) := by decide +kernel
theorem dX3_init_8 : decode cX3_init 8 = .ok (.newarray .int, 2) := by decide +kernel
theorem dX3_init_10 : decode cX3_init 10 = .ok (.putfield 11, 3) := by decide +kernel
theorem dX3_init_13 : decode cX3_init 13 = .ok (.aload_n 0, 1) := by decide +kernel
theorem dX3_init_14 : decode cX3_init 14 = .ok (.sipush 400, 3) := by decide +kernel
theorem dX3_init_17 : decode cX3_init 17 = .ok (.newarray .int, 2) := by decide +kernel
theorem dX3_init_19 : decode cX3_init 19 = .ok (.putfield 15, 3) := by decide +kernel
theorem dX3_init_22 : decode cX3_init 22 = .ok (.aload_n 0, 1) := by decide +kernel
theorem dX3_init_23 : decode cX3_init 23 = .ok (.sipush 400, 3) := by decide +kernel
theorem dX3_init_26 : decode cX3_init 26 = .ok (.newarray .int, 2) := by decide +kernel
theorem dX3_init_28 : decode cX3_init 28 = .ok (.putfield 18, 3) := by decide +kernel
theorem dX3_init_31 : decode cX3_init 31 = .ok (.aload_n 0, 1) := by decide +kernel
theorem dX3_init_32 : decode cX3_init 32 = .ok (.sipush 400, 3) := by decide +kernel
theorem dX3_init_35 : decode cX3_init 35 = .ok (.newarray .int, 2) := by decide +kernel
theorem dX3_init_37 : decode cX3_init 37 = .ok (.putfield 21, 3) := by decide +kernel
theorem dX3_init_40 : decode cX3_init 40 = .ok (.aload_n 0, 1) := by decide +kernel
theorem dX3_init_41 : decode cX3_init 41 = .ok (.sipush 1024, 3) := by decide +kernel
theorem dX3_init_44 : decode cX3_init 44 = .ok (.newarray .int, 2) := by decide +kernel
theorem dX3_init_46 : decode cX3_init 46 = .ok (.putfield 24, 3) := by decide +kernel
theorem dX3_init_49 : decode cX3_init 49 = .ok (.return_, 1) := by decide +kernel
theorem dX3_size_0 : decode cX3_size 0 = .ok (.aload_n 0, 1) := by decide +kernel
theorem dX3_size_1 : decode cX3_size 1 = .ok (.getfield 27, 3) := by decide +kernel
theorem dX3_size_4 : decode cX3_size 4 = .ok (.ireturn, 1) := by decide +kernel
theorem dX3_isFull_0 : decode cX3_isFull 0 = .ok (.aload_n 0, 1) := by decide +kernel
theorem dX3_isFull_1 : decode cX3_isFull 1 = .ok (.getfield 27, 3) := by decide +kernel
theorem dX3_isFull_4 : decode cX3_isFull 4 = .ok (.sipush 400, 3) := by decide +kernel
theorem dX3_isFull_7 : decode cX3_isFull 7 = .ok (.if_icmp .lt 7, 3) := by decide +kernel
theorem dX3_isFull_10 : decode cX3_isFull 10 = .ok (.iconst 1, 1) := by decide +kernel
theorem dX3_isFull_11 : decode cX3_isFull 11 = .ok (.goto 4, 3) := by decide +kernel
theorem dX3_isFull_14 : decode cX3_isFull 14 = .ok (.iconst 0, 1) := by decide +kernel
theorem dX3_isFull_15 : decode cX3_isFull 15 = .ok (.ireturn, 1) := by decide +kernel
theorem dX3_clear_0 : decode cX3_clear 0 = .ok (.aload_n 0, 1) := by decide +kernel
theorem dX3_clear_1 : decode cX3_clear 1 = .ok (.getfield 24, 3) := by decide +kernel
theorem dX3_clear_4 : decode cX3_clear 4 = .ok (.iconst 0, 1) := by decide +kernel
theorem dX3_clear_5 : decode cX3_clear 5 = .ok (.invokestatic 31, 3) := by decide +kernel
theorem dX3_clear_8 : decode cX3_clear 8 = .ok (.aload_n 0, 1) := by decide +kernel
theorem dX3_clear_9 : decode cX3_clear 9 = .ok (.iconst 0, 1) := by decide +kernel
theorem dX3_clear_10 : decode cX3_clear 10 = .ok (.putfield 27, 3) := by decide +kernel
theorem dX3_clear_13 : decode cX3_clear 13 = .ok (.return_, 1) := by decide +kernel
theorem dX3_depth_0 : decode cX3_depth 0 = .ok (.iload_n 1, 1) := by decide +kernel
theorem dX3_depth_1 : decode cX3_depth 1 = .ok (.ifCond .lt 20, 3) := by decide +kernel
theorem dX3_depth_4 : decode cX3_depth 4 = .ok (.iload_n 1, 1) := by decide +kernel
theorem dX3_depth_5 : decode cX3_depth 5 = .ok (.aload_n 0, 1) := by decide +kernel
theorem dX3_depth_6 : decode cX3_depth 6 = .ok (.getfield 27, 3) := by decide +kernel
theorem dX3_depth_9 : decode cX3_depth 9 = .ok (.if_icmp .ge 12, 3) := by decide +kernel
theorem dX3_depth_12 : decode cX3_depth 12 = .ok (.aload_n 0, 1) := by decide +kernel
theorem dX3_depth_13 : decode cX3_depth 13 = .ok (.getfield 21, 3) := by decide +kernel
theorem dX3_depth_16 : decode cX3_depth 16 = .ok (.iload_n 1, 1) := by decide +kernel
theorem dX3_depth_17 : decode cX3_depth 17 = .ok (.iaload, 1) := by decide +kernel
theorem dX3_depth_18 : decode cX3_depth 18 = .ok (.goto 4, 3) := by decide +kernel
theorem dX3_depth_21 : decode cX3_depth 21 = .ok (.iconst 0, 1) := by decide +kernel
theorem dX3_depth_22 : decode cX3_depth 22 = .ok (.ireturn, 1) := by decide +kernel
theorem dX3_enter_0 : decode cX3_enter 0 = .ok (.iload_n 1, 1) := by decide +kernel
theorem dX3_enter_1 : decode cX3_enter 1 = .ok (.ifCond .lt 23, 3) := by decide +kernel
theorem dX3_enter_4 : decode cX3_enter 4 = .ok (.iload_n 1, 1) := by decide +kernel
theorem dX3_enter_5 : decode cX3_enter 5 = .ok (.aload_n 0, 1) := by decide +kernel
theorem dX3_enter_6 : decode cX3_enter 6 = .ok (.getfield 27, 3) := by decide +kernel
theorem dX3_enter_9 : decode cX3_enter 9 = .ok (.if_icmp .ge 15, 3) := by decide +kernel
theorem dX3_enter_12 : decode cX3_enter 12 = .ok (.aload_n 2, 1) := by decide +kernel
theorem dX3_enter_13 : decode cX3_enter 13 = .ok (.aload_n 0, 1) := by decide +kernel
theorem dX3_enter_14 : decode cX3_enter 14 = .ok (.getfield 11, 3) := by decide +kernel
theorem dX3_enter_17 : decode cX3_enter 17 = .ok (.iload_n 1, 1) := by decide +kernel
theorem dX3_enter_18 : decode cX3_enter 18 = .ok (.bipush 19, 2) := by decide +kernel
theorem dX3_enter_20 : decode cX3_enter 20 = .ok (.imul, 1) := by decide +kernel
theorem dX3_enter_21 : decode cX3_enter 21 = .ok (.invokevirtual 37, 3) := by decide +kernel
theorem dX3_enter_24 : decode cX3_enter 24 = .ok (.return_, 1) := by decide +kernel
theorem dX3_slotFor_0 : decode cX3_slotFor 0 = .ok (.aload_n 1, 1) := by decide +kernel
theorem dX3_slotFor_1 : decode cX3_slotFor 1 = .ok (.invokevirtual 42, 3) := by decide +kernel
theorem dX3_slotFor_4 : decode cX3_slotFor 4 = .ok (.istore_n 2, 1) := by decide +kernel
theorem dX3_slotFor_5 : decode cX3_slotFor 5 = .ok (.iconst 0, 1) := by decide +kernel
theorem dX3_slotFor_6 : decode cX3_slotFor 6 = .ok (.istore_n 3, 1) := by decide +kernel
theorem dX3_slotFor_7 : decode cX3_slotFor 7 = .ok (.iload_n 3, 1) := by decide +kernel
theorem dX3_slotFor_8 : decode cX3_slotFor 8 = .ok (.sipush 1024, 3) := by decide +kernel
theorem dX3_slotFor_11 : decode cX3_slotFor 11 = .ok (.if_icmp .ge 55, 3) := by decide +kernel
theorem dX3_slotFor_14 : decode cX3_slotFor 14 = .ok (.iload_n 2, 1) := by decide +kernel
theorem dX3_slotFor_15 : decode cX3_slotFor 15 = .ok (.iload_n 3, 1) := by decide +kernel
theorem dX3_slotFor_16 : decode cX3_slotFor 16 = .ok (.iadd, 1) := by decide +kernel
theorem dX3_slotFor_17 : decode cX3_slotFor 17 = .ok (.sipush 1023, 3) := by decide +kernel
theorem dX3_slotFor_20 : decode cX3_slotFor 20 = .ok (.iand, 1) := by decide +kernel
theorem dX3_slotFor_21 : decode cX3_slotFor 21 = .ok (.istore 4, 2) := by decide +kernel
theorem dX3_slotFor_23 : decode cX3_slotFor 23 = .ok (.aload_n 0, 1) := by decide +kernel
theorem dX3_slotFor_24 : decode cX3_slotFor 24 = .ok (.getfield 24, 3) := by decide +kernel
theorem dX3_slotFor_27 : decode cX3_slotFor 27 = .ok (.iload 4, 2) := by decide +kernel
theorem dX3_slotFor_29 : decode cX3_slotFor 29 = .ok (.iaload, 1) := by decide +kernel
theorem dX3_slotFor_30 : decode cX3_slotFor 30 = .ok (.iconst 1, 1) := by decide +kernel
theorem dX3_slotFor_31 : decode cX3_slotFor 31 = .ok (.isub, 1) := by decide +kernel
theorem dX3_slotFor_32 : decode cX3_slotFor 32 = .ok (.istore 5, 2) := by decide +kernel
theorem dX3_slotFor_34 : decode cX3_slotFor 34 = .ok (.iload 5, 2) := by decide +kernel
theorem dX3_slotFor_36 : decode cX3_slotFor 36 = .ok (.ifCond .ge 6, 3) := by decide +kernel
theorem dX3_slotFor_39 : decode cX3_slotFor 39 = .ok (.iload 4, 2) := by decide +kernel
theorem dX3_slotFor_41 : decode cX3_slotFor 41 = .ok (.ireturn, 1) := by decide +kernel
theorem dX3_slotFor_42 : decode cX3_slotFor 42 = .ok (.aload_n 1, 1) := by decide +kernel
theorem dX3_slotFor_43 : decode cX3_slotFor 43 = .ok (.aload_n 0, 1) := by decide +kernel
theorem dX3_slotFor_44 : decode cX3_slotFor 44 = .ok (.getfield 11, 3) := by decide +kernel
theorem dX3_slotFor_47 : decode cX3_slotFor 47 = .ok (.iload 5, 2) := by decide +kernel
theorem dX3_slotFor_49 : decode cX3_slotFor 49 = .ok (.bipush 19, 2) := by decide +kernel
theorem dX3_slotFor_51 : decode cX3_slotFor 51 = .ok (.imul, 1) := by decide +kernel
theorem dX3_slotFor_52 : decode cX3_slotFor 52 = .ok (.invokevirtual 46, 3) := by decide +kernel
theorem dX3_slotFor_55 : decode cX3_slotFor 55 = .ok (.ifCond .eq 5, 3) := by decide +kernel
theorem dX3_slotFor_58 : decode cX3_slotFor 58 = .ok (.iconst (-1), 1) := by decide +kernel
theorem dX3_slotFor_59 : decode cX3_slotFor 59 = .ok (.ireturn, 1) := by decide +kernel
theorem dX3_slotFor_60 : decode cX3_slotFor 60 = .ok (.iinc 3 1, 3) := by decide +kernel
theorem dX3_slotFor_63 : decode cX3_slotFor 63 = .ok (.goto (-56), 3) := by decide +kernel
theorem dX3_slotFor_66 : decode cX3_slotFor 66 = .ok (.iconst (-1), 1) := by decide +kernel
theorem dX3_slotFor_67 : decode cX3_slotFor 67 = .ok (.ireturn, 1) := by decide +kernel
theorem dX3_add_0 : decode cX3_add 0 = .ok (.aload_n 0, 1) := by decide +kernel
theorem dX3_add_1 : decode cX3_add 1 = .ok (.invokevirtual 50, 3) := by decide +kernel
theorem dX3_add_4 : decode cX3_add 4 = .ok (.ifCond .ne 14, 3) := by decide +kernel
theorem dX3_add_7 : decode cX3_add 7 = .ok (.iload_n 2, 1) := by decide +kernel
theorem dX3_add_8 : decode cX3_add 8 = .ok (.ifCond .lt 10, 3) := by decide +kernel
theorem dX3_add_11 : decode cX3_add 11 = .ok (.iload_n 2, 1) := by decide +kernel
theorem dX3_add_12 : decode cX3_add 12 = .ok (.sipush 1024, 3) := by decide +kernel
theorem dX3_add_15 : decode cX3_add 15 = .ok (.if_icmp .lt 4, 3) := by decide +kernel
theorem dX3_add_18 : decode cX3_add 18 = .ok (.return_, 1) := by decide +kernel
theorem dX3_add_19 : decode cX3_add 19 = .ok (.aload_n 1, 1) := by decide +kernel
theorem dX3_add_20 : decode cX3_add 20 = .ok (.aload_n 0, 1) := by decide +kernel
theorem dX3_add_21 : decode cX3_add 21 = .ok (.getfield 11, 3) := by decide +kernel
theorem dX3_add_24 : decode cX3_add 24 = .ok (.aload_n 0, 1) := by decide +kernel
theorem dX3_add_25 : decode cX3_add 25 = .ok (.getfield 27, 3) := by decide +kernel
theorem dX3_add_28 : decode cX3_add 28 = .ok (.bipush 19, 2) := by decide +kernel
theorem dX3_add_30 : decode cX3_add 30 = .ok (.imul, 1) := by decide +kernel
theorem dX3_add_31 : decode cX3_add 31 = .ok (.invokevirtual 54, 3) := by decide +kernel
theorem dX3_add_34 : decode cX3_add 34 = .ok (.aload_n 0, 1) := by decide +kernel
theorem dX3_add_35 : decode cX3_add 35 = .ok (.getfield 15, 3) := by decide +kernel
theorem dX3_add_38 : decode cX3_add 38 = .ok (.aload_n 0, 1) := by decide +kernel
theorem dX3_add_39 : decode cX3_add 39 = .ok (.getfield 27, 3) := by decide +kernel
theorem dX3_add_42 : decode cX3_add 42 = .ok (.iload_n 3, 1) := by decide +kernel
theorem dX3_add_43 : decode cX3_add 43 = .ok (.iastore, 1) := by decide +kernel
theorem dX3_add_44 : decode cX3_add 44 = .ok (.aload_n 0, 1) := by decide +kernel
theorem dX3_add_45 : decode cX3_add 45 = .ok (.getfield 18, 3) := by decide +kernel
theorem dX3_add_48 : decode cX3_add 48 = .ok (.aload_n 0, 1) := by decide +kernel
theorem dX3_add_49 : decode cX3_add 49 = .ok (.getfield 27, 3) := by decide +kernel
theorem dX3_add_52 : decode cX3_add 52 = .ok (.iload 4, 2) := by decide +kernel
theorem dX3_add_54 : decode cX3_add 54 = .ok (.iastore, 1) := by decide +kernel
theorem dX3_add_55 : decode cX3_add 55 = .ok (.aload_n 0, 1) := by decide +kernel
theorem dX3_add_56 : decode cX3_add 56 = .ok (.getfield 21, 3) := by decide +kernel
theorem dX3_add_59 : decode cX3_add 59 = .ok (.aload_n 0, 1) := by decide +kernel
theorem dX3_add_60 : decode cX3_add 60 = .ok (.getfield 27, 3) := by decide +kernel
theorem dX3_add_63 : decode cX3_add 63 = .ok (.iload_n 3, 1) := by decide +kernel
theorem dX3_add_64 : decode cX3_add 64 = .ok (.ifCond .ge 7, 3) := by decide +kernel
theorem dX3_add_67 : decode cX3_add 67 = .ok (.iconst 0, 1) := by decide +kernel
theorem dX3_add_68 : decode cX3_add 68 = .ok (.goto 10, 3) := by decide +kernel
theorem dX3_add_71 : decode cX3_add 71 = .ok (.aload_n 0, 1) := by decide +kernel
theorem dX3_add_72 : decode cX3_add 72 = .ok (.iload_n 3, 1) := by decide +kernel
theorem dX3_add_73 : decode cX3_add 73 = .ok (.invokevirtual 57, 3) := by decide +kernel
theorem dX3_add_76 : decode cX3_add 76 = .ok (.iconst 1, 1) := by decide +kernel
theorem dX3_add_77 : decode cX3_add 77 = .ok (.iadd, 1) := by decide +kernel
theorem dX3_add_78 : decode cX3_add 78 = .ok (.iastore, 1) := by decide +kernel
theorem dX3_add_79 : decode cX3_add 79 = .ok (.aload_n 0, 1) := by decide +kernel
theorem dX3_add_80 : decode cX3_add 80 = .ok (.dup, 1) := by decide +kernel
theorem dX3_add_81 : decode cX3_add 81 = .ok (.getfield 27, 3) := by decide +kernel
theorem dX3_add_84 : decode cX3_add 84 = .ok (.iconst 1, 1) := by decide +kernel
theorem dX3_add_85 : decode cX3_add 85 = .ok (.iadd, 1) := by decide +kernel
theorem dX3_add_86 : decode cX3_add 86 = .ok (.putfield 27, 3) := by decide +kernel
theorem dX3_add_89 : decode cX3_add 89 = .ok (.aload_n 0, 1) := by decide +kernel
theorem dX3_add_90 : decode cX3_add 90 = .ok (.getfield 24, 3) := by decide +kernel
theorem dX3_add_93 : decode cX3_add 93 = .ok (.iload_n 2, 1) := by decide +kernel
theorem dX3_add_94 : decode cX3_add 94 = .ok (.aload_n 0, 1) := by decide +kernel
theorem dX3_add_95 : decode cX3_add 95 = .ok (.getfield 27, 3) := by decide +kernel
theorem dX3_add_98 : decode cX3_add 98 = .ok (.iastore, 1) := by decide +kernel
theorem dX3_add_99 : decode cX3_add 99 = .ok (.return_, 1) := by decide +kernel
theorem dX3_rowThrough_0 : decode cX3_rowThrough 0 = .ok (.aload_n 0, 1) := by decide +kernel
theorem dX3_rowThrough_1 : decode cX3_rowThrough 1 = .ok (.iload_n 1, 1) := by decide +kernel
theorem dX3_rowThrough_2 : decode cX3_rowThrough 2 = .ok (.invokevirtual 57, 3) := by decide +kernel
theorem dX3_rowThrough_5 : decode cX3_rowThrough 5 = .ok (.iconst 1, 1) := by decide +kernel
theorem dX3_rowThrough_6 : decode cX3_rowThrough 6 = .ok (.iadd, 1) := by decide +kernel
theorem dX3_rowThrough_7 : decode cX3_rowThrough 7 = .ok (.aload_n 3, 1) := by decide +kernel
theorem dX3_rowThrough_8 : decode cX3_rowThrough 8 = .ok (.arraylength, 1) := by decide +kernel
theorem dX3_rowThrough_9 : decode cX3_rowThrough 9 = .ok (.invokestatic 61, 3) := by decide +kernel
theorem dX3_rowThrough_12 : decode cX3_rowThrough 12 = .ok (.istore 4, 2) := by decide +kernel
theorem dX3_rowThrough_14 : decode cX3_rowThrough 14 = .ok (.iload_n 1, 1) := by decide +kernel
theorem dX3_rowThrough_15 : decode cX3_rowThrough 15 = .ok (.istore 5, 2) := by decide +kernel
theorem dX3_rowThrough_17 : decode cX3_rowThrough 17 = .ok (.iload_n 2, 1) := by decide +kernel
theorem dX3_rowThrough_18 : decode cX3_rowThrough 18 = .ok (.istore 6, 2) := by decide +kernel
theorem dX3_rowThrough_20 : decode cX3_rowThrough 20 = .ok (.iload 4, 2) := by decide +kernel
theorem dX3_rowThrough_22 : decode cX3_rowThrough 22 = .ok (.iconst 1, 1) := by decide +kernel
theorem dX3_rowThrough_23 : decode cX3_rowThrough 23 = .ok (.isub, 1) := by decide +kernel
theorem dX3_rowThrough_24 : decode cX3_rowThrough 24 = .ok (.istore 7, 2) := by decide +kernel
theorem dX3_rowThrough_26 : decode cX3_rowThrough 26 = .ok (.iload 7, 2) := by decide +kernel
theorem dX3_rowThrough_28 : decode cX3_rowThrough 28 = .ok (.ifCond .lt 47, 3) := by decide +kernel
theorem dX3_rowThrough_31 : decode cX3_rowThrough 31 = .ok (.aload_n 3, 1) := by decide +kernel
theorem dX3_rowThrough_32 : decode cX3_rowThrough 32 = .ok (.iload 7, 2) := by decide +kernel
theorem dX3_rowThrough_34 : decode cX3_rowThrough 34 = .ok (.iload 6, 2) := by decide +kernel
theorem dX3_rowThrough_36 : decode cX3_rowThrough 36 = .ok (.iastore, 1) := by decide +kernel
theorem dX3_rowThrough_37 : decode cX3_rowThrough 37 = .ok (.iload 5, 2) := by decide +kernel
theorem dX3_rowThrough_39 : decode cX3_rowThrough 39 = .ok (.ifCond .lt 30, 3) := by decide +kernel
theorem dX3_rowThrough_42 : decode cX3_rowThrough 42 = .ok (.iload 5, 2) := by decide +kernel
theorem dX3_rowThrough_44 : decode cX3_rowThrough 44 = .ok (.aload_n 0, 1) := by decide +kernel
theorem dX3_rowThrough_45 : decode cX3_rowThrough 45 = .ok (.getfield 27, 3) := by decide +kernel
theorem dX3_rowThrough_48 : decode cX3_rowThrough 48 = .ok (.if_icmp .ge 21, 3) := by decide +kernel
theorem dX3_rowThrough_51 : decode cX3_rowThrough 51 = .ok (.aload_n 0, 1) := by decide +kernel
theorem dX3_rowThrough_52 : decode cX3_rowThrough 52 = .ok (.getfield 18, 3) := by decide +kernel
theorem dX3_rowThrough_55 : decode cX3_rowThrough 55 = .ok (.iload 5, 2) := by decide +kernel
theorem dX3_rowThrough_57 : decode cX3_rowThrough 57 = .ok (.iaload, 1) := by decide +kernel
theorem dX3_rowThrough_58 : decode cX3_rowThrough 58 = .ok (.istore 6, 2) := by decide +kernel
theorem dX3_rowThrough_60 : decode cX3_rowThrough 60 = .ok (.aload_n 0, 1) := by decide +kernel
theorem dX3_rowThrough_61 : decode cX3_rowThrough 61 = .ok (.getfield 15, 3) := by decide +kernel
theorem dX3_rowThrough_64 : decode cX3_rowThrough 64 = .ok (.iload 5, 2) := by decide +kernel
theorem dX3_rowThrough_66 : decode cX3_rowThrough 66 = .ok (.iaload, 1) := by decide +kernel
theorem dX3_rowThrough_67 : decode cX3_rowThrough 67 = .ok (.istore 5, 2) := by decide +kernel
theorem dX3_rowThrough_69 : decode cX3_rowThrough 69 = .ok (.iinc 7 (-1), 3) := by decide +kernel
theorem dX3_rowThrough_72 : decode cX3_rowThrough 72 = .ok (.goto (-46), 3) := by decide +kernel
theorem dX3_rowThrough_75 : decode cX3_rowThrough 75 = .ok (.iload 4, 2) := by decide +kernel
theorem dX3_rowThrough_77 : decode cX3_rowThrough 77 = .ok (.ireturn, 1) := by decide +kernel
theorem dX4_init_0 : decode cX4_init 0 = .ok (.aload_n 0, 1) := by decide +kernel
theorem dX4_init_1 : decode cX4_init 1 = .ok (.invokespecial 5, 3) := by decide +kernel
theorem dX4_init_4 : decode cX4_init 4 = .ok (.aload_n 0, 1) := by decide +kernel
theorem dX4_init_5 : decode cX4_init 5 = .ok (.new 11, 3) := by decide +kernel
theorem dX4_init_8 : decode cX4_init 8 = .ok (.dup, 1) := by decide +kernel
theorem dX4_init_9 : decode cX4_init 9 = .ok (.iconst 0, 1) := by decide +kernel
theorem dX4_init_10 : decode cX4_init 10 = .ok (.iconst 0, 1) := by decide +kernel
theorem dX4_init_11 : decode cX4_init 11 = .ok (.iconst 0, 1) := by decide +kernel
theorem dX4_init_12 : decode cX4_init 12 = .ok (.iconst 0, 1) := by decide +kernel
theorem dX4_init_13 : decode cX4_init 13 = .ok (.invokespecial 13, 3) := by decide +kernel
theorem dX4_init_16 : decode cX4_init 16 = .ok (.putfield 16, 3) := by decide +kernel
theorem dX4_init_19 : decode cX4_init 19 = .ok (.aload_n 0, 1) := by decide +kernel
theorem dX4_init_20 : decode cX4_init 20 = .ok (.bipush 19, 2) := by decide +kernel
theorem dX4_init_22 : decode cX4_init 22 = .ok (.newarray .int, 2) := by decide +kernel
theorem dX4_init_24 : decode cX4_init 24 = .ok (.putfield 20, 3) := by decide +kernel
theorem dX4_init_27 : decode cX4_init 27 = .ok (.aload_n 0, 1) := by decide +kernel
theorem dX4_init_28 : decode cX4_init 28 = .ok (.iconst 3, 1) := by decide +kernel
theorem dX4_init_29 : decode cX4_init 29 = .ok (.bipush 19, 2) := by decide +kernel
theorem dX4_init_31 : decode cX4_init 31 = .ok (.multianewarray 24 2, 4) := by decide +kernel
theorem dX4_init_35 : decode cX4_init 35 = .ok (.putfield 26, 3) := by decide +kernel
theorem dX4_init_38 : decode cX4_init 38 = .ok (.aload_n 0, 1) := by decide +kernel
theorem dX4_init_39 : decode cX4_init 39 = .ok (.bipush 32, 2) := by decide +kernel
theorem dX4_init_41 : decode cX4_init 41 = .ok (.newarray .long, 2) := by decide +kernel
theorem dX4_init_43 : decode cX4_init 43 = .ok (.putfield 29, 3) := by decide +kernel
theorem dX4_init_46 : decode cX4_init 46 = .ok (.aload_n 0, 1) := by decide +kernel
theorem dX4_init_47 : decode cX4_init 47 = .ok (.aload_n 1, 1) := by decide +kernel
theorem dX4_init_48 : decode cX4_init 48 = .ok (.putfield 33, 3) := by decide +kernel
theorem dX4_init_51 : decode cX4_init 51 = .ok (.return_, 1) := by decide +kernel
theorem dX4_toStart_0 : decode cX4_toStart 0 = .ok (.aload_n 0, 1) := by decide +kernel
theorem dX4_toStart_1 : decode cX4_toStart 1 = .ok (.getfield 20, 3) := by decide +kernel
theorem dX4_toStart_4 : decode cX4_toStart 4 = .ok (.iconst 0, 1) := by decide +kernel
theorem dX4_toStart_5 : decode cX4_toStart 5 = .ok (.invokestatic 37, 3) := by decide +kernel
theorem dX4_toStart_8 : decode cX4_toStart 8 = .ok (.iconst 0, 1) := by decide +kernel
theorem dX4_toStart_9 : decode cX4_toStart 9 = .ok (.istore_n 1, 1) := by decide +kernel
theorem dX4_toStart_10 : decode cX4_toStart 10 = .ok (.iload_n 1, 1) := by decide +kernel
theorem dX4_toStart_11 : decode cX4_toStart 11 = .ok (.iconst 4, 1) := by decide +kernel
theorem dX4_toStart_12 : decode cX4_toStart 12 = .ok (.if_icmp .ge 26, 3) := by decide +kernel
theorem dX4_toStart_15 : decode cX4_toStart 15 = .ok (.aload_n 0, 1) := by decide +kernel
theorem dX4_toStart_16 : decode cX4_toStart 16 = .ok (.getfield 20, 3) := by decide +kernel
theorem dX4_toStart_19 : decode cX4_toStart 19 = .ok (.bipush 14, 2) := by decide +kernel
theorem dX4_toStart_21 : decode cX4_toStart 21 = .ok (.iload_n 1, 1) := by decide +kernel
theorem dX4_toStart_22 : decode cX4_toStart 22 = .ok (.iadd, 1) := by decide +kernel
theorem dX4_toStart_23 : decode cX4_toStart 23 = .ok (.aload_n 0, 1) := by decide +kernel
theorem dX4_toStart_24 : decode cX4_toStart 24 = .ok (.getfield 33, 3) := by decide +kernel
theorem dX4_toStart_27 : decode cX4_toStart 27 = .ok (.iload_n 1, 1) := by decide +kernel
theorem dX4_toStart_28 : decode cX4_toStart 28 = .ok (.invokevirtual 43, 3) := by decide +kernel
theorem dX4_toStart_31 : decode cX4_toStart 31 = .ok (.iastore, 1) := by decide +kernel
theorem dX4_toStart_32 : decode cX4_toStart 32 = .ok (.iinc 1 1, 3) := by decide +kernel
theorem dX4_toStart_35 : decode cX4_toStart 35 = .ok (.goto (-25), 3) := by decide +kernel
theorem dX4_toStart_38 : decode cX4_toStart 38 = .ok (.return_, 1) := by decide +kernel
theorem dX4_load_0 : decode cX4_load 0 = .ok (.iload_n 2, 1) := by decide +kernel
theorem dX4_load_1 : decode cX4_load 1 = .ok (.ifCond .lt 24, 3) := by decide +kernel
theorem dX4_load_4 : decode cX4_load 4 = .ok (.iload_n 2, 1) := by decide +kernel
theorem dX4_load_5 : decode cX4_load 5 = .ok (.aload_n 1, 1) := by decide +kernel
theorem dX4_load_6 : decode cX4_load 6 = .ok (.arraylength, 1) := by decide +kernel
theorem dX4_load_7 : decode cX4_load 7 = .ok (.bipush 19, 2) := by decide +kernel
theorem dX4_load_9 : decode cX4_load 9 = .ok (.isub, 1) := by decide +kernel
theorem dX4_load_10 : decode cX4_load 10 = .ok (.if_icmp .gt 15, 3) := by decide +kernel
theorem dX4_load_13 : decode cX4_load 13 = .ok (.aload_n 1, 1) := by decide +kernel
theorem dX4_load_14 : decode cX4_load 14 = .ok (.iload_n 2, 1) := by decide +kernel
theorem dX4_load_15 : decode cX4_load 15 = .ok (.aload_n 0, 1) := by decide +kernel
theorem dX4_load_16 : decode cX4_load 16 = .ok (.getfield 20, 3) := by decide +kernel
theorem dX4_load_19 : decode cX4_load 19 = .ok (.iconst 0, 1) := by decide +kernel
theorem dX4_load_20 : decode cX4_load 20 = .ok (.bipush 19, 2) := by decide +kernel
theorem dX4_load_22 : decode cX4_load 22 = .ok (.invokestatic 49, 3) := by decide +kernel
theorem dX4_load_25 : decode cX4_load 25 = .ok (.return_, 1) := by decide +kernel
theorem dX4_save_0 : decode cX4_save 0 = .ok (.iload_n 2, 1) := by decide +kernel
theorem dX4_save_1 : decode cX4_save 1 = .ok (.ifCond .lt 24, 3) := by decide +kernel
theorem dX4_save_4 : decode cX4_save 4 = .ok (.iload_n 2, 1) := by decide +kernel
theorem dX4_save_5 : decode cX4_save 5 = .ok (.aload_n 1, 1) := by decide +kernel
theorem dX4_save_6 : decode cX4_save 6 = .ok (.arraylength, 1) := by decide +kernel
theorem dX4_save_7 : decode cX4_save 7 = .ok (.bipush 19, 2) := by decide +kernel
theorem dX4_save_9 : decode cX4_save 9 = .ok (.isub, 1) := by decide +kernel
theorem dX4_save_10 : decode cX4_save 10 = .ok (.if_icmp .gt 15, 3) := by decide +kernel
theorem dX4_save_13 : decode cX4_save 13 = .ok (.aload_n 0, 1) := by decide +kernel
theorem dX4_save_14 : decode cX4_save 14 = .ok (.getfield 20, 3) := by decide +kernel
theorem dX4_save_17 : decode cX4_save 17 = .ok (.iconst 0, 1) := by decide +kernel
theorem dX4_save_18 : decode cX4_save 18 = .ok (.aload_n 1, 1) := by decide +kernel
theorem dX4_save_19 : decode cX4_save 19 = .ok (.iload_n 2, 1) := by decide +kernel
theorem dX4_save_20 : decode cX4_save 20 = .ok (.bipush 19, 2) := by decide +kernel
theorem dX4_save_22 : decode cX4_save 22 = .ok (.invokestatic 49, 3) := by decide +kernel
theorem dX4_save_25 : decode cX4_save 25 = .ok (.return_, 1) := by decide +kernel
theorem dX4_isAt_0 : decode cX4_isAt 0 = .ok (.iload_n 2, 1) := by decide +kernel
theorem dX4_isAt_1 : decode cX4_isAt 1 = .ok (.ifCond .lt 12, 3) := by decide +kernel
theorem dX4_isAt_4 : decode cX4_isAt 4 = .ok (.iload_n 2, 1) := by decide +kernel
theorem dX4_isAt_5 : decode cX4_isAt 5 = .ok (.aload_n 1, 1) := by decide +kernel
theorem dX4_isAt_6 : decode cX4_isAt 6 = .ok (.arraylength, 1) := by decide +kernel
theorem dX4_isAt_7 : decode cX4_isAt 7 = .ok (.bipush 19, 2) := by decide +kernel
theorem dX4_isAt_9 : decode cX4_isAt 9 = .ok (.isub, 1) := by decide +kernel
theorem dX4_isAt_10 : decode cX4_isAt 10 = .ok (.if_icmp .le 5, 3) := by decide +kernel
theorem dX4_isAt_13 : decode cX4_isAt 13 = .ok (.iconst 0, 1) := by decide +kernel
theorem dX4_isAt_14 : decode cX4_isAt 14 = .ok (.ireturn, 1) := by decide +kernel
theorem dX4_isAt_15 : decode cX4_isAt 15 = .ok (.iconst 0, 1) := by decide +kernel
theorem dX4_isAt_16 : decode cX4_isAt 16 = .ok (.istore_n 3, 1) := by decide +kernel
theorem dX4_isAt_17 : decode cX4_isAt 17 = .ok (.iload_n 3, 1) := by decide +kernel
theorem dX4_isAt_18 : decode cX4_isAt 18 = .ok (.bipush 19, 2) := by decide +kernel
theorem dX4_isAt_20 : decode cX4_isAt 20 = .ok (.if_icmp .ge 25, 3) := by decide +kernel
theorem dX4_isAt_23 : decode cX4_isAt 23 = .ok (.aload_n 1, 1) := by decide +kernel
theorem dX4_isAt_24 : decode cX4_isAt 24 = .ok (.iload_n 2, 1) := by decide +kernel
theorem dX4_isAt_25 : decode cX4_isAt 25 = .ok (.iload_n 3, 1) := by decide +kernel
theorem dX4_isAt_26 : decode cX4_isAt 26 = .ok (.iadd, 1) := by decide +kernel
theorem dX4_isAt_27 : decode cX4_isAt 27 = .ok (.iaload, 1) := by decide +kernel
theorem dX4_isAt_28 : decode cX4_isAt 28 = .ok (.aload_n 0, 1) := by decide +kernel
theorem dX4_isAt_29 : decode cX4_isAt 29 = .ok (.getfield 20, 3) := by decide +kernel
theorem dX4_isAt_32 : decode cX4_isAt 32 = .ok (.iload_n 3, 1) := by decide +kernel
theorem dX4_isAt_33 : decode cX4_isAt 33 = .ok (.iaload, 1) := by decide +kernel
theorem dX4_isAt_34 : decode cX4_isAt 34 = .ok (.if_icmp .eq 5, 3) := by decide +kernel
theorem dX4_isAt_37 : decode cX4_isAt 37 = .ok (.iconst 0, 1) := by decide +kernel
theorem dX4_isAt_38 : decode cX4_isAt 38 = .ok (.ireturn, 1) := by decide +kernel
theorem dX4_isAt_39 : decode cX4_isAt 39 = .ok (.iinc 3 1, 3) := by decide +kernel
theorem dX4_isAt_42 : decode cX4_isAt 42 = .ok (.goto (-25), 3) := by decide +kernel
theorem dX4_isAt_45 : decode cX4_isAt 45 = .ok (.iconst 1, 1) := by decide +kernel
theorem dX4_isAt_46 : decode cX4_isAt 46 = .ok (.ireturn, 1) := by decide +kernel
theorem dX4_hash_0 : decode cX4_hash 0 = .ok (.iconst 0, 1) := by decide +kernel
theorem dX4_hash_1 : decode cX4_hash 1 = .ok (.istore_n 1, 1) := by decide +kernel
theorem dX4_hash_2 : decode cX4_hash 2 = .ok (.iconst 0, 1) := by decide +kernel
theorem dX4_hash_3 : decode cX4_hash 3 = .ok (.istore_n 2, 1) := by decide +kernel
theorem dX4_hash_4 : decode cX4_hash 4 = .ok (.iload_n 2, 1) := by decide +kernel
theorem dX4_hash_5 : decode cX4_hash 5 = .ok (.bipush 19, 2) := by decide +kernel
theorem dX4_hash_7 : decode cX4_hash 7 = .ok (.if_icmp .ge 21, 3) := by decide +kernel
theorem dX4_hash_10 : decode cX4_hash 10 = .ok (.iload_n 1, 1) := by decide +kernel
theorem dX4_hash_11 : decode cX4_hash 11 = .ok (.bipush 31, 2) := by decide +kernel
theorem dX4_hash_13 : decode cX4_hash 13 = .ok (.imul, 1) := by decide +kernel
theorem dX4_hash_14 : decode cX4_hash 14 = .ok (.aload_n 0, 1) := by decide +kernel
theorem dX4_hash_15 : decode cX4_hash 15 = .ok (.getfield 20, 3) := by decide +kernel
theorem dX4_hash_18 : decode cX4_hash 18 = .ok (.iload_n 2, 1) := by decide +kernel
theorem dX4_hash_19 : decode cX4_hash 19 = .ok (.iaload, 1) := by decide +kernel
theorem dX4_hash_20 : decode cX4_hash 20 = .ok (.iadd, 1) := by decide +kernel
theorem dX4_hash_21 : decode cX4_hash 21 = .ok (.istore_n 1, 1) := by decide +kernel
theorem dX4_hash_22 : decode cX4_hash 22 = .ok (.iinc 2 1, 3) := by decide +kernel
theorem dX4_hash_25 : decode cX4_hash 25 = .ok (.goto (-21), 3) := by decide +kernel
theorem dX4_hash_28 : decode cX4_hash 28 = .ok (.iload_n 1, 1) := by decide +kernel
theorem dX4_hash_29 : decode cX4_hash 29 = .ok (.iload_n 1, 1) := by decide +kernel
theorem dX4_hash_30 : decode cX4_hash 30 = .ok (.bipush 10, 2) := by decide +kernel
theorem dX4_hash_32 : decode cX4_hash 32 = .ok (.iushr, 1) := by decide +kernel
theorem dX4_hash_33 : decode cX4_hash 33 = .ok (.ixor, 1) := by decide +kernel
theorem dX4_hash_34 : decode cX4_hash 34 = .ok (.iload_n 1, 1) := by decide +kernel
theorem dX4_hash_35 : decode cX4_hash 35 = .ok (.bipush 20, 2) := by decide +kernel
theorem dX4_hash_37 : decode cX4_hash 37 = .ok (.iushr, 1) := by decide +kernel
theorem dX4_hash_38 : decode cX4_hash 38 = .ok (.ixor, 1) := by decide +kernel
theorem dX4_hash_39 : decode cX4_hash 39 = .ok (.ireturn, 1) := by decide +kernel
theorem dX4_cell_0 : decode cX4_cell 0 = .ok (.iload_n 1, 1) := by decide +kernel
theorem dX4_cell_1 : decode cX4_cell 1 = .ok (.ifCond .lt 18, 3) := by decide +kernel
theorem dX4_cell_4 : decode cX4_cell 4 = .ok (.iload_n 1, 1) := by decide +kernel
theorem dX4_cell_5 : decode cX4_cell 5 = .ok (.bipush 19, 2) := by decide +kernel
theorem dX4_cell_7 : decode cX4_cell 7 = .ok (.if_icmp .ge 12, 3) := by decide +kernel
theorem dX4_cell_10 : decode cX4_cell 10 = .ok (.aload_n 0, 1) := by decide +kernel
theorem dX4_cell_11 : decode cX4_cell 11 = .ok (.getfield 20, 3) := by decide +kernel
theorem dX4_cell_14 : decode cX4_cell 14 = .ok (.iload_n 1, 1) := by decide +kernel
theorem dX4_cell_15 : decode cX4_cell 15 = .ok (.iaload, 1) := by decide +kernel
theorem dX4_cell_16 : decode cX4_cell 16 = .ok (.goto 4, 3) := by decide +kernel
theorem dX4_cell_19 : decode cX4_cell 19 = .ok (.iconst 0, 1) := by decide +kernel
theorem dX4_cell_20 : decode cX4_cell 20 = .ok (.ireturn, 1) := by decide +kernel
theorem dX4_attempt_0 : decode cX4_attempt 0 = .ok (.aload_n 1, 1) := by decide +kernel
theorem dX4_attempt_1 : decode cX4_attempt 1 = .ok (.ifnull 16, 3) := by decide +kernel
theorem dX4_attempt_4 : decode cX4_attempt 4 = .ok (.aload_n 0, 1) := by decide +kernel
theorem dX4_attempt_5 : decode cX4_attempt 5 = .ok (.aload_n 1, 1) := by decide +kernel
theorem dX4_attempt_6 : decode cX4_attempt 6 = .ok (.iconst 1, 1) := by decide +kernel
theorem dX4_attempt_7 : decode cX4_attempt 7 = .ok (.invokevirtual 55, 3) := by decide +kernel
theorem dX4_attempt_10 : decode cX4_attempt 10 = .ok (.ifCond .eq 7, 3) := by decide +kernel
theorem dX4_attempt_13 : decode cX4_attempt 13 = .ok (.iconst 1, 1) := by decide +kernel
theorem dX4_attempt_14 : decode cX4_attempt 14 = .ok (.goto 4, 3) := by decide +kernel
theorem dX4_attempt_17 : decode cX4_attempt 17 = .ok (.iconst 0, 1) := by decide +kernel
theorem dX4_attempt_18 : decode cX4_attempt 18 = .ok (.ireturn, 1) := by decide +kernel
theorem dX4_keeps_0 : decode cX4_keeps 0 = .ok (.aload_n 1, 1) := by decide +kernel
theorem dX4_keeps_1 : decode cX4_keeps 1 = .ok (.ifnull 29, 3) := by decide +kernel
theorem dX4_keeps_4 : decode cX4_keeps 4 = .ok (.aload_n 0, 1) := by decide +kernel
theorem dX4_keeps_5 : decode cX4_keeps 5 = .ok (.aload_n 1, 1) := by decide +kernel
theorem dX4_keeps_6 : decode cX4_keeps 6 = .ok (.aload_n 0, 1) := by decide +kernel
theorem dX4_keeps_7 : decode cX4_keeps 7 = .ok (.getfield 16, 3) := by decide +kernel
theorem dX4_keeps_10 : decode cX4_keeps 10 = .ok (.iconst 3, 1) := by decide +kernel
theorem dX4_keeps_11 : decode cX4_keeps 11 = .ok (.invokevirtual 59, 3) := by decide +kernel
theorem dX4_keeps_14 : decode cX4_keeps 14 = .ok (.ifCond .eq 16, 3) := by decide +kernel
theorem dX4_keeps_17 : decode cX4_keeps 17 = .ok (.aload_n 0, 1) := by decide +kernel
theorem dX4_keeps_18 : decode cX4_keeps 18 = .ok (.invokevirtual 63, 3) := by decide +kernel
theorem dX4_keeps_21 : decode cX4_keeps 21 = .ok (.lconst 0, 1) := by decide +kernel
theorem dX4_keeps_22 : decode cX4_keeps 22 = .ok (.lcmp, 1) := by decide +kernel
theorem dX4_keeps_23 : decode cX4_keeps 23 = .ok (.ifCond .eq 7, 3) := by decide +kernel
theorem dX4_keeps_26 : decode cX4_keeps 26 = .ok (.iconst 1, 1) := by decide +kernel
theorem dX4_keeps_27 : decode cX4_keeps 27 = .ok (.goto 4, 3) := by decide +kernel
theorem dX4_keeps_30 : decode cX4_keeps 30 = .ok (.iconst 0, 1) := by decide +kernel
theorem dX4_keeps_31 : decode cX4_keeps 31 = .ok (.ireturn, 1) := by decide +kernel
theorem dX4_perform_0 : decode cX4_perform 0 = .ok (.aload_n 0, 1) := by decide +kernel
theorem dX4_perform_1 : decode cX4_perform 1 = .ok (.getfield 33, 3) := by decide +kernel
theorem dX4_perform_4 : decode cX4_perform 4 = .ok (.aload_n 1, 1) := by decide +kernel
theorem dX4_perform_5 : decode cX4_perform 5 = .ok (.getfield 67, 3) := by decide +kernel
theorem dX4_perform_8 : decode cX4_perform 8 = .ok (.invokevirtual 71, 3) := by decide +kernel
theorem dX4_perform_11 : decode cX4_perform 11 = .ok (.astore_n 3, 1) := by decide +kernel
theorem dX4_perform_12 : decode cX4_perform 12 = .ok (.bipush 14, 2) := by decide +kernel
theorem dX4_perform_14 : decode cX4_perform 14 = .ok (.aload_n 1, 1) := by decide +kernel
theorem dX4_perform_15 : decode cX4_perform 15 = .ok (.getfield 75, 3) := by decide +kernel
theorem dX4_perform_18 : decode cX4_perform 18 = .ok (.iadd, 1) := by decide +kernel
theorem dX4_perform_19 : decode cX4_perform 19 = .ok (.istore 4, 2) := by decide +kernel
theorem dX4_perform_21 : decode cX4_perform 21 = .ok (.aload_n 3, 1) := by decide +kernel
theorem dX4_perform_22 : decode cX4_perform 22 = .ok (.ifnull 26, 3) := by decide +kernel
theorem dX4_perform_25 : decode cX4_perform 25 = .ok (.iload_n 2, 1) := by decide +kernel
theorem dX4_perform_26 : decode cX4_perform 26 = .ok (.iconst 1, 1) := by decide +kernel
theorem dX4_perform_27 : decode cX4_perform 27 = .ok (.if_icmp .lt 21, 3) := by decide +kernel
theorem dX4_perform_30 : decode cX4_perform 30 = .ok (.iload_n 2, 1) := by decide +kernel
theorem dX4_perform_31 : decode cX4_perform 31 = .ok (.iconst 3, 1) := by decide +kernel
theorem dX4_perform_32 : decode cX4_perform 32 = .ok (.if_icmp .gt 16, 3) := by decide +kernel
theorem dX4_perform_35 : decode cX4_perform 35 = .ok (.aload_n 0, 1) := by decide +kernel
theorem dX4_perform_36 : decode cX4_perform 36 = .ok (.iload 4, 2) := by decide +kernel
theorem dX4_perform_38 : decode cX4_perform 38 = .ok (.invokevirtual 78, 3) := by decide +kernel
theorem dX4_perform_41 : decode cX4_perform 41 = .ok (.aload_n 1, 1) := by decide +kernel
theorem dX4_perform_42 : decode cX4_perform 42 = .ok (.getfield 81, 3) := by decide +kernel
theorem dX4_perform_45 : decode cX4_perform 45 = .ok (.if_icmp .ge 5, 3) := by decide +kernel
theorem dX4_perform_48 : decode cX4_perform 48 = .ok (.iconst 0, 1) := by decide +kernel
theorem dX4_perform_49 : decode cX4_perform 49 = .ok (.ireturn, 1) := by decide +kernel
theorem dX4_perform_50 : decode cX4_perform 50 = .ok (.aload_n 0, 1) := by decide +kernel
theorem dX4_perform_51 : decode cX4_perform 51 = .ok (.getfield 20, 3) := by decide +kernel
theorem dX4_perform_54 : decode cX4_perform 54 = .ok (.iconst 0, 1) := by decide +kernel
theorem dX4_perform_55 : decode cX4_perform 55 = .ok (.aload_n 0, 1) := by decide +kernel
theorem dX4_perform_56 : decode cX4_perform 56 = .ok (.getfield 26, 3) := by decide +kernel
theorem dX4_perform_59 : decode cX4_perform 59 = .ok (.iload_n 2, 1) := by decide +kernel
theorem dX4_perform_60 : decode cX4_perform 60 = .ok (.iconst 1, 1) := by decide +kernel
theorem dX4_perform_61 : decode cX4_perform 61 = .ok (.isub, 1) := by decide +kernel
theorem dX4_perform_62 : decode cX4_perform 62 = .ok (.aaload, 1) := by decide +kernel
theorem dX4_perform_63 : decode cX4_perform 63 = .ok (.iconst 0, 1) := by decide +kernel
theorem dX4_perform_64 : decode cX4_perform 64 = .ok (.bipush 19, 2) := by decide +kernel
theorem dX4_perform_66 : decode cX4_perform 66 = .ok (.invokestatic 49, 3) := by decide +kernel
theorem dX4_perform_69 : decode cX4_perform 69 = .ok (.aload_n 0, 1) := by decide +kernel
theorem dX4_perform_70 : decode cX4_perform 70 = .ok (.iload 4, 2) := by decide +kernel
theorem dX4_perform_72 : decode cX4_perform 72 = .ok (.aload_n 0, 1) := by decide +kernel
theorem dX4_perform_73 : decode cX4_perform 73 = .ok (.iload 4, 2) := by decide +kernel
theorem dX4_perform_75 : decode cX4_perform 75 = .ok (.invokevirtual 78, 3) := by decide +kernel
theorem dX4_perform_78 : decode cX4_perform 78 = .ok (.aload_n 1, 1) := by decide +kernel
theorem dX4_perform_79 : decode cX4_perform 79 = .ok (.getfield 81, 3) := by decide +kernel
theorem dX4_perform_82 : decode cX4_perform 82 = .ok (.isub, 1) := by decide +kernel
theorem dX4_perform_83 : decode cX4_perform 83 = .ok (.invokevirtual 84, 3) := by decide +kernel
theorem dX4_perform_86 : decode cX4_perform 86 = .ok (.aload_n 0, 1) := by decide +kernel
theorem dX4_perform_87 : decode cX4_perform 87 = .ok (.getfield 20, 3) := by decide +kernel
theorem dX4_perform_90 : decode cX4_perform 90 = .ok (.bipush 18, 2) := by decide +kernel
theorem dX4_perform_92 : decode cX4_perform 92 = .ok (.dup2, 1) := by decide +kernel
theorem dX4_perform_93 : decode cX4_perform 93 = .ok (.iaload, 1) := by decide +kernel
theorem dX4_perform_94 : decode cX4_perform 94 = .ok (.aload_n 1, 1) := by decide +kernel
theorem dX4_perform_95 : decode cX4_perform 95 = .ok (.getfield 81, 3) := by decide +kernel
theorem dX4_perform_98 : decode cX4_perform 98 = .ok (.iadd, 1) := by decide +kernel
theorem dX4_perform_99 : decode cX4_perform 99 = .ok (.iastore, 1) := by decide +kernel
theorem dX4_perform_100 : decode cX4_perform 100 = .ok (.aload_n 0, 1) := by decide +kernel
theorem dX4_perform_101 : decode cX4_perform 101 = .ok (.aload_n 3, 1) := by decide +kernel
theorem dX4_perform_102 : decode cX4_perform 102 = .ok (.aload_n 1, 1) := by decide +kernel
theorem dX4_perform_103 : decode cX4_perform 103 = .ok (.iload_n 2, 1) := by decide +kernel
theorem dX4_perform_104 : decode cX4_perform 104 = .ok (.invokevirtual 59, 3) := by decide +kernel
theorem dX4_perform_107 : decode cX4_perform 107 = .ok (.istore 5, 2) := by decide +kernel
theorem dX4_perform_109 : decode cX4_perform 109 = .ok (.iload 5, 2) := by decide +kernel
theorem dX4_perform_111 : decode cX4_perform 111 = .ok (.ifCond .ne 22, 3) := by decide +kernel
theorem dX4_perform_114 : decode cX4_perform 114 = .ok (.aload_n 0, 1) := by decide +kernel
theorem dX4_perform_115 : decode cX4_perform 115 = .ok (.getfield 26, 3) := by decide +kernel
theorem dX4_perform_118 : decode cX4_perform 118 = .ok (.iload_n 2, 1) := by decide +kernel
theorem dX4_perform_119 : decode cX4_perform 119 = .ok (.iconst 1, 1) := by decide +kernel
theorem dX4_perform_120 : decode cX4_perform 120 = .ok (.isub, 1) := by decide +kernel
theorem dX4_perform_121 : decode cX4_perform 121 = .ok (.aaload, 1) := by decide +kernel
theorem dX4_perform_122 : decode cX4_perform 122 = .ok (.iconst 0, 1) := by decide +kernel
theorem dX4_perform_123 : decode cX4_perform 123 = .ok (.aload_n 0, 1) := by decide +kernel
theorem dX4_perform_124 : decode cX4_perform 124 = .ok (.getfield 20, 3) := by decide +kernel
theorem dX4_perform_127 : decode cX4_perform 127 = .ok (.iconst 0, 1) := by decide +kernel
theorem dX4_perform_128 : decode cX4_perform 128 = .ok (.bipush 19, 2) := by decide +kernel
theorem dX4_perform_130 : decode cX4_perform 130 = .ok (.invokestatic 49, 3) := by decide +kernel
theorem dX4_perform_133 : decode cX4_perform 133 = .ok (.aload_n 0, 1) := by decide +kernel
theorem dX4_perform_134 : decode cX4_perform 134 = .ok (.iconst 0, 1) := by decide +kernel
theorem dX4_perform_135 : decode cX4_perform 135 = .ok (.putfield 88, 3) := by decide +kernel
theorem dX4_perform_138 : decode cX4_perform 138 = .ok (.iload 5, 2) := by decide +kernel
theorem dX4_perform_140 : decode cX4_perform 140 = .ok (.ireturn, 1) := by decide +kernel
theorem dX4_run_0 : decode cX4_run 0 = .ok (.aload_n 0, 1) := by decide +kernel
theorem dX4_run_1 : decode cX4_run 1 = .ok (.iconst 0, 1) := by decide +kernel
theorem dX4_run_2 : decode cX4_run 2 = .ok (.putfield 88, 3) := by decide +kernel
theorem dX4_run_5 : decode cX4_run 5 = .ok (.iconst 0, 1) := by decide +kernel
theorem dX4_run_6 : decode cX4_run 6 = .ok (.istore 4, 2) := by decide +kernel
theorem dX4_run_8 : decode cX4_run 8 = .ok (.iload 4, 2) := by decide +kernel
theorem dX4_run_10 : decode cX4_run 10 = .ok (.aload_n 1, 1) := by decide +kernel
theorem dX4_run_11 : decode cX4_run 11 = .ok (.getfield 91, 3) := by decide +kernel
theorem dX4_run_14 : decode cX4_run 14 = .ok (.if_icmp .ge 194, 3) := by decide +kernel
theorem dX4_run_17 : decode cX4_run 17 = .ok (.aload_n 1, 1) := by decide +kernel
theorem dX4_run_18 : decode cX4_run 18 = .ok (.iload 4, 2) := by decide +kernel
theorem dX4_run_20 : decode cX4_run 20 = .ok (.invokevirtual 96, 3) := by decide +kernel
theorem dX4_run_23 : decode cX4_run 23 = .ok (.istore 5, 2) := by decide +kernel
theorem dX4_run_25 : decode cX4_run 25 = .ok (.aload_n 1, 1) := by decide +kernel
theorem dX4_run_26 : decode cX4_run 26 = .ok (.iload 4, 2) := by decide +kernel
theorem dX4_run_28 : decode cX4_run 28 = .ok (.invokevirtual 99, 3) := by decide +kernel
theorem dX4_run_31 : decode cX4_run 31 = .ok (.istore 6, 2) := by decide +kernel
theorem dX4_run_33 : decode cX4_run 33 = .ok (.iload 5, 2) := by decide +kernel
theorem dX4_run_35 : decode cX4_run 35 = .ok (.tableswitch 149 18 23 #[37, 67, 78, 101, 115, 134], 37) := by decide +kernel
theorem dX4_run_72 : decode cX4_run 72 = .ok (.aload_n 0, 1) := by decide +kernel
theorem dX4_run_73 : decode cX4_run 73 = .ok (.getfield 33, 3) := by decide +kernel
theorem dX4_run_76 : decode cX4_run 76 = .ok (.aload_n 2, 1) := by decide +kernel
theorem dX4_run_77 : decode cX4_run 77 = .ok (.getfield 67, 3) := by decide +kernel
theorem dX4_run_80 : decode cX4_run 80 = .ok (.aload_n 0, 1) := by decide +kernel
theorem dX4_run_81 : decode cX4_run 81 = .ok (.invokevirtual 102, 3) := by decide +kernel
theorem dX4_run_84 : decode cX4_run 84 = .ok (.ifCond .eq 10, 3) := by decide +kernel
theorem dX4_run_87 : decode cX4_run 87 = .ok (.iload 6, 2) := by decide +kernel
theorem dX4_run_89 : decode cX4_run 89 = .ok (.iconst 1, 1) := by decide +kernel
theorem dX4_run_90 : decode cX4_run 90 = .ok (.iadd, 1) := by decide +kernel
theorem dX4_run_91 : decode cX4_run 91 = .ok (.goto 5, 3) := by decide +kernel
theorem dX4_run_94 : decode cX4_run 94 = .ok (.iload 6, 2) := by decide +kernel
theorem dX4_run_96 : decode cX4_run 96 = .ok (.invokevirtual 106, 3) := by decide +kernel
theorem dX4_run_99 : decode cX4_run 99 = .ok (.goto 103, 3) := by decide +kernel
theorem dX4_run_102 : decode cX4_run 102 = .ok (.aload_n 0, 1) := by decide +kernel
theorem dX4_run_103 : decode cX4_run 103 = .ok (.invokevirtual 63, 3) := by decide +kernel
theorem dX4_run_106 : decode cX4_run 106 = .ok (.lconst 0, 1) := by decide +kernel
theorem dX4_run_107 : decode cX4_run 107 = .ok (.lcmp, 1) := by decide +kernel
theorem dX4_run_108 : decode cX4_run 108 = .ok (.ifCond .ne 94, 3) := by decide +kernel
theorem dX4_run_111 : decode cX4_run 111 = .ok (.iconst 0, 1) := by decide +kernel
theorem dX4_run_112 : decode cX4_run 112 = .ok (.ireturn, 1) := by decide +kernel
theorem dX4_run_113 : decode cX4_run 113 = .ok (.aload_n 0, 1) := by decide +kernel
theorem dX4_run_114 : decode cX4_run 114 = .ok (.invokevirtual 63, 3) := by decide +kernel
theorem dX4_run_117 : decode cX4_run 117 = .ok (.lconst 0, 1) := by decide +kernel
theorem dX4_run_118 : decode cX4_run 118 = .ok (.lcmp, 1) := by decide +kernel
theorem dX4_run_119 : decode cX4_run 119 = .ok (.ifCond .ne 83, 3) := by decide +kernel
theorem dX4_run_122 : decode cX4_run 122 = .ok (.iload 4, 2) := by decide +kernel
theorem dX4_run_124 : decode cX4_run 124 = .ok (.iload 6, 2) := by decide +kernel
theorem dX4_run_126 : decode cX4_run 126 = .ok (.iconst 1, 1) := by decide +kernel
theorem dX4_run_127 : decode cX4_run 127 = .ok (.isub, 1) := by decide +kernel
theorem dX4_run_128 : decode cX4_run 128 = .ok (.invokestatic 109, 3) := by decide +kernel
theorem dX4_run_131 : decode cX4_run 131 = .ok (.istore 4, 2) := by decide +kernel
theorem dX4_run_133 : decode cX4_run 133 = .ok (.goto 69, 3) := by decide +kernel
theorem dX4_run_136 : decode cX4_run 136 = .ok (.aload_n 0, 1) := by decide +kernel
theorem dX4_run_137 : decode cX4_run 137 = .ok (.iload 6, 2) := by decide +kernel
theorem dX4_run_139 : decode cX4_run 139 = .ok (.aload_n 0, 1) := by decide +kernel
theorem dX4_run_140 : decode cX4_run 140 = .ok (.invokevirtual 63, 3) := by decide +kernel
theorem dX4_run_143 : decode cX4_run 143 = .ok (.l2i, 1) := by decide +kernel
theorem dX4_run_144 : decode cX4_run 144 = .ok (.invokevirtual 84, 3) := by decide +kernel
theorem dX4_run_147 : decode cX4_run 147 = .ok (.goto 55, 3) := by decide +kernel
theorem dX4_run_150 : decode cX4_run 150 = .ok (.aload_n 0, 1) := by decide +kernel
theorem dX4_run_151 : decode cX4_run 151 = .ok (.iload 6, 2) := by decide +kernel
theorem dX4_run_153 : decode cX4_run 153 = .ok (.aload_n 2, 1) := by decide +kernel
theorem dX4_run_154 : decode cX4_run 154 = .ok (.getfield 75, 3) := by decide +kernel
theorem dX4_run_157 : decode cX4_run 157 = .ok (.iadd, 1) := by decide +kernel
theorem dX4_run_158 : decode cX4_run 158 = .ok (.aload_n 0, 1) := by decide +kernel
theorem dX4_run_159 : decode cX4_run 159 = .ok (.invokevirtual 63, 3) := by decide +kernel
theorem dX4_run_162 : decode cX4_run 162 = .ok (.l2i, 1) := by decide +kernel
theorem dX4_run_163 : decode cX4_run 163 = .ok (.invokevirtual 84, 3) := by decide +kernel
theorem dX4_run_166 : decode cX4_run 166 = .ok (.goto 36, 3) := by decide +kernel
theorem dX4_run_169 : decode cX4_run 169 = .ok (.aload_n 0, 1) := by decide +kernel
theorem dX4_run_170 : decode cX4_run 170 = .ok (.aload_n 2, 1) := by decide +kernel
theorem dX4_run_171 : decode cX4_run 171 = .ok (.aload_n 0, 1) := by decide +kernel
theorem dX4_run_172 : decode cX4_run 172 = .ok (.invokevirtual 63, 3) := by decide +kernel
theorem dX4_run_175 : decode cX4_run 175 = .ok (.iload_n 3, 1) := by decide +kernel
theorem dX4_run_176 : decode cX4_run 176 = .ok (.invokevirtual 115, 3) := by decide +kernel
theorem dX4_run_179 : decode cX4_run 179 = .ok (.ifCond .ne 23, 3) := by decide +kernel
theorem dX4_run_182 : decode cX4_run 182 = .ok (.iconst 0, 1) := by decide +kernel
theorem dX4_run_183 : decode cX4_run 183 = .ok (.ireturn, 1) := by decide +kernel
theorem dX4_run_184 : decode cX4_run 184 = .ok (.aload_n 0, 1) := by decide +kernel
theorem dX4_run_185 : decode cX4_run 185 = .ok (.aload_n 0, 1) := by decide +kernel
theorem dX4_run_186 : decode cX4_run 186 = .ok (.iload 5, 2) := by decide +kernel
theorem dX4_run_188 : decode cX4_run 188 = .ok (.iload 6, 2) := by decide +kernel
theorem dX4_run_190 : decode cX4_run 190 = .ok (.aload_n 2, 1) := by decide +kernel
theorem dX4_run_191 : decode cX4_run 191 = .ok (.invokevirtual 119, 3) := by decide +kernel
theorem dX4_run_194 : decode cX4_run 194 = .ok (.invokevirtual 123, 3) := by decide +kernel
theorem dX4_run_197 : decode cX4_run 197 = .ok (.ifCond .ne 5, 3) := by decide +kernel
theorem dX4_run_200 : decode cX4_run 200 = .ok (.iconst 0, 1) := by decide +kernel
theorem dX4_run_201 : decode cX4_run 201 = .ok (.ireturn, 1) := by decide +kernel
theorem dX4_run_202 : decode cX4_run 202 = .ok (.iinc 4 1, 3) := by decide +kernel
theorem dX4_run_205 : decode cX4_run 205 = .ok (.goto (-197), 3) := by decide +kernel
theorem dX4_run_208 : decode cX4_run 208 = .ok (.iconst 1, 1) := by decide +kernel
theorem dX4_run_209 : decode cX4_run 209 = .ok (.ireturn, 1) := by decide +kernel
theorem dX4_pay_0 : decode cX4_pay 0 = .ok (.lload_n 2, 1) := by decide +kernel
theorem dX4_pay_1 : decode cX4_pay 1 = .ok (.lconst 0, 1) := by decide +kernel
theorem dX4_pay_2 : decode cX4_pay 2 = .ok (.lcmp, 1) := by decide +kernel
theorem dX4_pay_3 : decode cX4_pay 3 = .ok (.ifCond .lt 16, 3) := by decide +kernel
theorem dX4_pay_6 : decode cX4_pay 6 = .ok (.lload_n 2, 1) := by decide +kernel
theorem dX4_pay_7 : decode cX4_pay 7 = .ok (.aload_n 0, 1) := by decide +kernel
theorem dX4_pay_8 : decode cX4_pay 8 = .ok (.getfield 20, 3) := by decide +kernel
theorem dX4_pay_11 : decode cX4_pay 11 = .ok (.bipush 18, 2) := by decide +kernel
theorem dX4_pay_13 : decode cX4_pay 13 = .ok (.iaload, 1) := by decide +kernel
theorem dX4_pay_14 : decode cX4_pay 14 = .ok (.i2l, 1) := by decide +kernel
theorem dX4_pay_15 : decode cX4_pay 15 = .ok (.lcmp, 1) := by decide +kernel
theorem dX4_pay_16 : decode cX4_pay 16 = .ok (.ifCond .le 5, 3) := by decide +kernel
theorem dX4_pay_19 : decode cX4_pay 19 = .ok (.iconst 0, 1) := by decide +kernel
theorem dX4_pay_20 : decode cX4_pay 20 = .ok (.ireturn, 1) := by decide +kernel
theorem dX4_pay_21 : decode cX4_pay 21 = .ok (.bipush 14, 2) := by decide +kernel
theorem dX4_pay_23 : decode cX4_pay 23 = .ok (.aload_n 1, 1) := by decide +kernel
theorem dX4_pay_24 : decode cX4_pay 24 = .ok (.getfield 75, 3) := by decide +kernel
theorem dX4_pay_27 : decode cX4_pay 27 = .ok (.iadd, 1) := by decide +kernel
theorem dX4_pay_28 : decode cX4_pay 28 = .ok (.istore 5, 2) := by decide +kernel
theorem dX4_pay_30 : decode cX4_pay 30 = .ok (.aload_n 0, 1) := by decide +kernel
theorem dX4_pay_31 : decode cX4_pay 31 = .ok (.getfield 20, 3) := by decide +kernel
theorem dX4_pay_34 : decode cX4_pay 34 = .ok (.bipush 18, 2) := by decide +kernel
theorem dX4_pay_36 : decode cX4_pay 36 = .ok (.dup2, 1) := by decide +kernel
theorem dX4_pay_37 : decode cX4_pay 37 = .ok (.iaload, 1) := by decide +kernel
theorem dX4_pay_38 : decode cX4_pay 38 = .ok (.lload_n 2, 1) := by decide +kernel
theorem dX4_pay_39 : decode cX4_pay 39 = .ok (.l2i, 1) := by decide +kernel
theorem dX4_pay_40 : decode cX4_pay 40 = .ok (.isub, 1) := by decide +kernel
theorem dX4_pay_41 : decode cX4_pay 41 = .ok (.iastore, 1) := by decide +kernel
theorem dX4_pay_42 : decode cX4_pay 42 = .ok (.aload_n 0, 1) := by decide +kernel
theorem dX4_pay_43 : decode cX4_pay 43 = .ok (.iload 5, 2) := by decide +kernel
theorem dX4_pay_45 : decode cX4_pay 45 = .ok (.aload_n 0, 1) := by decide +kernel
theorem dX4_pay_46 : decode cX4_pay 46 = .ok (.iload 5, 2) := by decide +kernel
theorem dX4_pay_48 : decode cX4_pay 48 = .ok (.invokevirtual 78, 3) := by decide +kernel
theorem dX4_pay_51 : decode cX4_pay 51 = .ok (.lload_n 2, 1) := by decide +kernel
theorem dX4_pay_52 : decode cX4_pay 52 = .ok (.l2i, 1) := by decide +kernel
theorem dX4_pay_53 : decode cX4_pay 53 = .ok (.iadd, 1) := by decide +kernel
theorem dX4_pay_54 : decode cX4_pay 54 = .ok (.invokevirtual 84, 3) := by decide +kernel
theorem dX4_pay_57 : decode cX4_pay 57 = .ok (.aload_n 0, 1) := by decide +kernel
theorem dX4_pay_58 : decode cX4_pay 58 = .ok (.getfield 33, 3) := by decide +kernel
theorem dX4_pay_61 : decode cX4_pay 61 = .ok (.aload_n 1, 1) := by decide +kernel
theorem dX4_pay_62 : decode cX4_pay 62 = .ok (.getfield 75, 3) := by decide +kernel
theorem dX4_pay_65 : decode cX4_pay 65 = .ok (.invokevirtual 127, 3) := by decide +kernel
theorem dX4_pay_68 : decode cX4_pay 68 = .ok (.astore 6, 2) := by decide +kernel
theorem dX4_pay_70 : decode cX4_pay 70 = .ok (.aload 6, 2) := by decide +kernel
theorem dX4_pay_72 : decode cX4_pay 72 = .ok (.ifnull 20, 3) := by decide +kernel
theorem dX4_pay_75 : decode cX4_pay 75 = .ok (.iload 4, 2) := by decide +kernel
theorem dX4_pay_77 : decode cX4_pay 77 = .ok (.iconst 3, 1) := by decide +kernel
theorem dX4_pay_78 : decode cX4_pay 78 = .ok (.if_icmp .ge 14, 3) := by decide +kernel
theorem dX4_pay_81 : decode cX4_pay 81 = .ok (.aload_n 0, 1) := by decide +kernel
theorem dX4_pay_82 : decode cX4_pay 82 = .ok (.aload 6, 2) := by decide +kernel
theorem dX4_pay_84 : decode cX4_pay 84 = .ok (.iload 4, 2) := by decide +kernel
theorem dX4_pay_86 : decode cX4_pay 86 = .ok (.iconst 1, 1) := by decide +kernel
theorem dX4_pay_87 : decode cX4_pay 87 = .ok (.iadd, 1) := by decide +kernel
theorem dX4_pay_88 : decode cX4_pay 88 = .ok (.invokevirtual 55, 3) := by decide +kernel
theorem dX4_pay_91 : decode cX4_pay 91 = .ok (.pop, 1) := by decide +kernel
theorem dX4_pay_92 : decode cX4_pay 92 = .ok (.iconst 1, 1) := by decide +kernel
theorem dX4_pay_93 : decode cX4_pay 93 = .ok (.ireturn, 1) := by decide +kernel
theorem dX4_reckon_0 : decode cX4_reckon 0 = .ok (.iload_n 1, 1) := by decide +kernel
theorem dX4_reckon_1 : decode cX4_reckon 1 = .ok (.tableswitch 146 1 9 #[51, 54, 61, 73, 107, 113, 119, 125, 140], 51) := by decide +kernel
theorem dX4_reckon_52 : decode cX4_reckon 52 = .ok (.iload_n 2, 1) := by decide +kernel
theorem dX4_reckon_53 : decode cX4_reckon 53 = .ok (.i2l, 1) := by decide +kernel
theorem dX4_reckon_54 : decode cX4_reckon 54 = .ok (.lreturn, 1) := by decide +kernel
theorem dX4_reckon_55 : decode cX4_reckon 55 = .ok (.aload_n 0, 1) := by decide +kernel
theorem dX4_reckon_56 : decode cX4_reckon 56 = .ok (.iload_n 2, 1) := by decide +kernel
theorem dX4_reckon_57 : decode cX4_reckon 57 = .ok (.invokevirtual 78, 3) := by decide +kernel
theorem dX4_reckon_60 : decode cX4_reckon 60 = .ok (.i2l, 1) := by decide +kernel
theorem dX4_reckon_61 : decode cX4_reckon 61 = .ok (.lreturn, 1) := by decide +kernel
theorem dX4_reckon_62 : decode cX4_reckon 62 = .ok (.aload_n 0, 1) := by decide +kernel
theorem dX4_reckon_63 : decode cX4_reckon 63 = .ok (.iload_n 2, 1) := by decide +kernel
theorem dX4_reckon_64 : decode cX4_reckon 64 = .ok (.aload_n 3, 1) := by decide +kernel
theorem dX4_reckon_65 : decode cX4_reckon 65 = .ok (.getfield 75, 3) := by decide +kernel
theorem dX4_reckon_68 : decode cX4_reckon 68 = .ok (.iadd, 1) := by decide +kernel
theorem dX4_reckon_69 : decode cX4_reckon 69 = .ok (.invokevirtual 78, 3) := by decide +kernel
theorem dX4_reckon_72 : decode cX4_reckon 72 = .ok (.i2l, 1) := by decide +kernel
theorem dX4_reckon_73 : decode cX4_reckon 73 = .ok (.lreturn, 1) := by decide +kernel
theorem dX4_reckon_74 : decode cX4_reckon 74 = .ok (.aload_n 0, 1) := by decide +kernel
theorem dX4_reckon_75 : decode cX4_reckon 75 = .ok (.iload_n 2, 1) := by decide +kernel
theorem dX4_reckon_76 : decode cX4_reckon 76 = .ok (.invokevirtual 78, 3) := by decide +kernel
theorem dX4_reckon_79 : decode cX4_reckon 79 = .ok (.i2l, 1) := by decide +kernel
theorem dX4_reckon_80 : decode cX4_reckon 80 = .ok (.aload_n 0, 1) := by decide +kernel
theorem dX4_reckon_81 : decode cX4_reckon 81 = .ok (.iload_n 2, 1) := by decide +kernel
theorem dX4_reckon_82 : decode cX4_reckon 82 = .ok (.iconst 1, 1) := by decide +kernel
theorem dX4_reckon_83 : decode cX4_reckon 83 = .ok (.iadd, 1) := by decide +kernel
theorem dX4_reckon_84 : decode cX4_reckon 84 = .ok (.invokevirtual 78, 3) := by decide +kernel
theorem dX4_reckon_87 : decode cX4_reckon 87 = .ok (.i2l, 1) := by decide +kernel
theorem dX4_reckon_88 : decode cX4_reckon 88 = .ok (.ladd, 1) := by decide +kernel
theorem dX4_reckon_89 : decode cX4_reckon 89 = .ok (.aload_n 0, 1) := by decide +kernel
theorem dX4_reckon_90 : decode cX4_reckon 90 = .ok (.iload_n 2, 1) := by decide +kernel
theorem dX4_reckon_91 : decode cX4_reckon 91 = .ok (.iconst 2, 1) := by decide +kernel
theorem dX4_reckon_92 : decode cX4_reckon 92 = .ok (.iadd, 1) := by decide +kernel
theorem dX4_reckon_93 : decode cX4_reckon 93 = .ok (.invokevirtual 78, 3) := by decide +kernel
theorem dX4_reckon_96 : decode cX4_reckon 96 = .ok (.i2l, 1) := by decide +kernel
theorem dX4_reckon_97 : decode cX4_reckon 97 = .ok (.ladd, 1) := by decide +kernel
theorem dX4_reckon_98 : decode cX4_reckon 98 = .ok (.aload_n 0, 1) := by decide +kernel
theorem dX4_reckon_99 : decode cX4_reckon 99 = .ok (.iload_n 2, 1) := by decide +kernel
theorem dX4_reckon_100 : decode cX4_reckon 100 = .ok (.iconst 3, 1) := by decide +kernel
theorem dX4_reckon_101 : decode cX4_reckon 101 = .ok (.iadd, 1) := by decide +kernel
theorem dX4_reckon_102 : decode cX4_reckon 102 = .ok (.invokevirtual 78, 3) := by decide +kernel
theorem dX4_reckon_105 : decode cX4_reckon 105 = .ok (.i2l, 1) := by decide +kernel
theorem dX4_reckon_106 : decode cX4_reckon 106 = .ok (.ladd, 1) := by decide +kernel
theorem dX4_reckon_107 : decode cX4_reckon 107 = .ok (.lreturn, 1) := by decide +kernel
theorem dX4_reckon_108 : decode cX4_reckon 108 = .ok (.aload_n 3, 1) := by decide +kernel
theorem dX4_reckon_109 : decode cX4_reckon 109 = .ok (.getfield 131, 3) := by decide +kernel
theorem dX4_reckon_112 : decode cX4_reckon 112 = .ok (.i2l, 1) := by decide +kernel
theorem dX4_reckon_113 : decode cX4_reckon 113 = .ok (.lreturn, 1) := by decide +kernel
theorem dX4_reckon_114 : decode cX4_reckon 114 = .ok (.aload_n 3, 1) := by decide +kernel
theorem dX4_reckon_115 : decode cX4_reckon 115 = .ok (.getfield 81, 3) := by decide +kernel
theorem dX4_reckon_118 : decode cX4_reckon 118 = .ok (.i2l, 1) := by decide +kernel
theorem dX4_reckon_119 : decode cX4_reckon 119 = .ok (.lreturn, 1) := by decide +kernel
theorem dX4_reckon_120 : decode cX4_reckon 120 = .ok (.aload_n 3, 1) := by decide +kernel
theorem dX4_reckon_121 : decode cX4_reckon 121 = .ok (.getfield 75, 3) := by decide +kernel
theorem dX4_reckon_124 : decode cX4_reckon 124 = .ok (.i2l, 1) := by decide +kernel
theorem dX4_reckon_125 : decode cX4_reckon 125 = .ok (.lreturn, 1) := by decide +kernel
theorem dX4_reckon_126 : decode cX4_reckon 126 = .ok (.aload_n 0, 1) := by decide +kernel
theorem dX4_reckon_127 : decode cX4_reckon 127 = .ok (.invokevirtual 63, 3) := by decide +kernel
theorem dX4_reckon_130 : decode cX4_reckon 130 = .ok (.lconst 0, 1) := by decide +kernel
theorem dX4_reckon_131 : decode cX4_reckon 131 = .ok (.lcmp, 1) := by decide +kernel
theorem dX4_reckon_132 : decode cX4_reckon 132 = .ok (.ifCond .ne 7, 3) := by decide +kernel
theorem dX4_reckon_135 : decode cX4_reckon 135 = .ok (.lconst 1, 1) := by decide +kernel
theorem dX4_reckon_136 : decode cX4_reckon 136 = .ok (.goto 4, 3) := by decide +kernel
theorem dX4_reckon_139 : decode cX4_reckon 139 = .ok (.lconst 0, 1) := by decide +kernel
theorem dX4_reckon_140 : decode cX4_reckon 140 = .ok (.lreturn, 1) := by decide +kernel
theorem dX4_reckon_141 : decode cX4_reckon 141 = .ok (.aload_n 0, 1) := by decide +kernel
theorem dX4_reckon_142 : decode cX4_reckon 142 = .ok (.invokevirtual 63, 3) := by decide +kernel
theorem dX4_reckon_145 : decode cX4_reckon 145 = .ok (.lneg, 1) := by decide +kernel
theorem dX4_reckon_146 : decode cX4_reckon 146 = .ok (.lreturn, 1) := by decide +kernel
theorem dX4_reckon_147 : decode cX4_reckon 147 = .ok (.aload_n 0, 1) := by decide +kernel
theorem dX4_reckon_148 : decode cX4_reckon 148 = .ok (.invokevirtual 63, 3) := by decide +kernel
theorem dX4_reckon_151 : decode cX4_reckon 151 = .ok (.lstore 4, 2) := by decide +kernel
theorem dX4_reckon_153 : decode cX4_reckon 153 = .ok (.aload_n 0, 1) := by decide +kernel
theorem dX4_reckon_154 : decode cX4_reckon 154 = .ok (.invokevirtual 63, 3) := by decide +kernel
theorem dX4_reckon_157 : decode cX4_reckon 157 = .ok (.lstore 6, 2) := by decide +kernel
theorem dX4_reckon_159 : decode cX4_reckon 159 = .ok (.iload_n 1, 1) := by decide +kernel
theorem dX4_reckon_160 : decode cX4_reckon 160 = .ok (.lload 6, 2) := by decide +kernel
theorem dX4_reckon_162 : decode cX4_reckon 162 = .ok (.lload 4, 2) := by decide +kernel
theorem dX4_reckon_164 : decode cX4_reckon 164 = .ok (.invokestatic 134, 3) := by decide +kernel
theorem dX4_reckon_167 : decode cX4_reckon 167 = .ok (.lreturn, 1) := by decide +kernel
theorem dX4_operate_0 : decode cX4_operate 0 = .ok (.iload_n 0, 1) := by decide +kernel
theorem dX4_operate_1 : decode cX4_operate 1 = .ok (.tableswitch 135 10 17 #[47, 51, 55, 73, 77, 93, 111, 123], 47) := by decide +kernel
theorem dX4_operate_48 : decode cX4_operate 48 = .ok (.lload_n 1, 1) := by decide +kernel
theorem dX4_operate_49 : decode cX4_operate 49 = .ok (.lload_n 3, 1) := by decide +kernel
theorem dX4_operate_50 : decode cX4_operate 50 = .ok (.ladd, 1) := by decide +kernel
theorem dX4_operate_51 : decode cX4_operate 51 = .ok (.lreturn, 1) := by decide +kernel
theorem dX4_operate_52 : decode cX4_operate 52 = .ok (.lload_n 1, 1) := by decide +kernel
theorem dX4_operate_53 : decode cX4_operate 53 = .ok (.lload_n 3, 1) := by decide +kernel
theorem dX4_operate_54 : decode cX4_operate 54 = .ok (.lsub, 1) := by decide +kernel
theorem dX4_operate_55 : decode cX4_operate 55 = .ok (.lreturn, 1) := by decide +kernel
theorem dX4_operate_56 : decode cX4_operate 56 = .ok (.lload_n 1, 1) := by decide +kernel
theorem dX4_operate_57 : decode cX4_operate 57 = .ok (.lconst 0, 1) := by decide +kernel
theorem dX4_operate_58 : decode cX4_operate 58 = .ok (.lcmp, 1) := by decide +kernel
theorem dX4_operate_59 : decode cX4_operate 59 = .ok (.ifCond .ne 9, 3) := by decide +kernel
theorem dX4_operate_62 : decode cX4_operate 62 = .ok (.lload_n 3, 1) := by decide +kernel
theorem dX4_operate_63 : decode cX4_operate 63 = .ok (.lconst 0, 1) := by decide +kernel
theorem dX4_operate_64 : decode cX4_operate 64 = .ok (.lcmp, 1) := by decide +kernel
theorem dX4_operate_65 : decode cX4_operate 65 = .ok (.ifCond .eq 7, 3) := by decide +kernel
theorem dX4_operate_68 : decode cX4_operate 68 = .ok (.lconst 1, 1) := by decide +kernel
theorem dX4_operate_69 : decode cX4_operate 69 = .ok (.goto 4, 3) := by decide +kernel
theorem dX4_operate_72 : decode cX4_operate 72 = .ok (.lconst 0, 1) := by decide +kernel
theorem dX4_operate_73 : decode cX4_operate 73 = .ok (.lreturn, 1) := by decide +kernel
theorem dX4_operate_74 : decode cX4_operate 74 = .ok (.lload_n 1, 1) := by decide +kernel
theorem dX4_operate_75 : decode cX4_operate 75 = .ok (.lload_n 3, 1) := by decide +kernel
theorem dX4_operate_76 : decode cX4_operate 76 = .ok (.lmul, 1) := by decide +kernel
theorem dX4_operate_77 : decode cX4_operate 77 = .ok (.lreturn, 1) := by decide +kernel
theorem dX4_operate_78 : decode cX4_operate 78 = .ok (.lload_n 3, 1) := by decide +kernel
theorem dX4_operate_79 : decode cX4_operate 79 = .ok (.lconst 0, 1) := by decide +kernel
theorem dX4_operate_80 : decode cX4_operate 80 = .ok (.lcmp, 1) := by decide +kernel
theorem dX4_operate_81 : decode cX4_operate 81 = .ok (.ifCond .ne 9, 3) := by decide +kernel
theorem dX4_operate_84 : decode cX4_operate 84 = .ok (.ldc2_w 138, 3) := by decide +kernel
theorem dX4_operate_87 : decode cX4_operate 87 = .ok (.goto 6, 3) := by decide +kernel
theorem dX4_operate_90 : decode cX4_operate 90 = .ok (.lload_n 1, 1) := by decide +kernel
theorem dX4_operate_91 : decode cX4_operate 91 = .ok (.lload_n 3, 1) := by decide +kernel
theorem dX4_operate_92 : decode cX4_operate 92 = .ok (.ldiv, 1) := by decide +kernel
theorem dX4_operate_93 : decode cX4_operate 93 = .ok (.lreturn, 1) := by decide +kernel
theorem dX4_operate_94 : decode cX4_operate 94 = .ok (.lload_n 1, 1) := by decide +kernel
theorem dX4_operate_95 : decode cX4_operate 95 = .ok (.lconst 0, 1) := by decide +kernel
theorem dX4_operate_96 : decode cX4_operate 96 = .ok (.lcmp, 1) := by decide +kernel
theorem dX4_operate_97 : decode cX4_operate 97 = .ok (.ifCond .eq 13, 3) := by decide +kernel
theorem dX4_operate_100 : decode cX4_operate 100 = .ok (.lload_n 3, 1) := by decide +kernel
theorem dX4_operate_101 : decode cX4_operate 101 = .ok (.lconst 0, 1) := by decide +kernel
theorem dX4_operate_102 : decode cX4_operate 102 = .ok (.lcmp, 1) := by decide +kernel
theorem dX4_operate_103 : decode cX4_operate 103 = .ok (.ifCond .eq 7, 3) := by decide +kernel
theorem dX4_operate_106 : decode cX4_operate 106 = .ok (.lconst 1, 1) := by decide +kernel
theorem dX4_operate_107 : decode cX4_operate 107 = .ok (.goto 4, 3) := by decide +kernel
theorem dX4_operate_110 : decode cX4_operate 110 = .ok (.lconst 0, 1) := by decide +kernel
theorem dX4_operate_111 : decode cX4_operate 111 = .ok (.lreturn, 1) := by decide +kernel
theorem dX4_operate_112 : decode cX4_operate 112 = .ok (.lload_n 1, 1) := by decide +kernel
theorem dX4_operate_113 : decode cX4_operate 113 = .ok (.lload_n 3, 1) := by decide +kernel
theorem dX4_operate_114 : decode cX4_operate 114 = .ok (.lcmp, 1) := by decide +kernel
theorem dX4_operate_115 : decode cX4_operate 115 = .ok (.ifCond .ge 7, 3) := by decide +kernel
theorem dX4_operate_118 : decode cX4_operate 118 = .ok (.lconst 1, 1) := by decide +kernel
theorem dX4_operate_119 : decode cX4_operate 119 = .ok (.goto 4, 3) := by decide +kernel
theorem dX4_operate_122 : decode cX4_operate 122 = .ok (.lconst 0, 1) := by decide +kernel
theorem dX4_operate_123 : decode cX4_operate 123 = .ok (.lreturn, 1) := by decide +kernel
theorem dX4_operate_124 : decode cX4_operate 124 = .ok (.lload_n 1, 1) := by decide +kernel
theorem dX4_operate_125 : decode cX4_operate 125 = .ok (.lload_n 3, 1) := by decide +kernel
theorem dX4_operate_126 : decode cX4_operate 126 = .ok (.lcmp, 1) := by decide +kernel
theorem dX4_operate_127 : decode cX4_operate 127 = .ok (.ifCond .ne 7, 3) := by decide +kernel
theorem dX4_operate_130 : decode cX4_operate 130 = .ok (.lconst 1, 1) := by decide +kernel
theorem dX4_operate_131 : decode cX4_operate 131 = .ok (.goto 4, 3) := by decide +kernel
theorem dX4_operate_134 : decode cX4_operate 134 = .ok (.lconst 0, 1) := by decide +kernel
theorem dX4_operate_135 : decode cX4_operate 135 = .ok (.lreturn, 1) := by decide +kernel
theorem dX4_operate_136 : decode cX4_operate 136 = .ok (.ldc2_w 138, 3) := by decide +kernel
theorem dX4_operate_139 : decode cX4_operate 139 = .ok (.lreturn, 1) := by decide +kernel
theorem dX4_push_0 : decode cX4_push 0 = .ok (.lload_n 1, 1) := by decide +kernel
theorem dX4_push_1 : decode cX4_push 1 = .ok (.ldc2_w 140, 3) := by decide +kernel
theorem dX4_push_4 : decode cX4_push 4 = .ok (.lcmp, 1) := by decide +kernel
theorem dX4_push_5 : decode cX4_push 5 = .ok (.ifCond .lt 27, 3) := by decide +kernel
theorem dX4_push_8 : decode cX4_push 8 = .ok (.lload_n 1, 1) := by decide +kernel
theorem dX4_push_9 : decode cX4_push 9 = .ok (.ldc2_w 142, 3) := by decide +kernel
theorem dX4_push_12 : decode cX4_push 12 = .ok (.lcmp, 1) := by decide +kernel
theorem dX4_push_13 : decode cX4_push 13 = .ok (.ifCond .gt 19, 3) := by decide +kernel
theorem dX4_push_16 : decode cX4_push 16 = .ok (.aload_n 0, 1) := by decide +kernel
theorem dX4_push_17 : decode cX4_push 17 = .ok (.getfield 88, 3) := by decide +kernel
theorem dX4_push_20 : decode cX4_push 20 = .ok (.ifCond .lt 12, 3) := by decide +kernel
theorem dX4_push_23 : decode cX4_push 23 = .ok (.aload_n 0, 1) := by decide +kernel
theorem dX4_push_24 : decode cX4_push 24 = .ok (.getfield 88, 3) := by decide +kernel
theorem dX4_push_27 : decode cX4_push 27 = .ok (.bipush 32, 2) := by decide +kernel
theorem dX4_push_29 : decode cX4_push 29 = .ok (.if_icmp .lt 5, 3) := by decide +kernel
theorem dX4_push_32 : decode cX4_push 32 = .ok (.iconst 0, 1) := by decide +kernel
theorem dX4_push_33 : decode cX4_push 33 = .ok (.ireturn, 1) := by decide +kernel
theorem dX4_push_34 : decode cX4_push 34 = .ok (.aload_n 0, 1) := by decide +kernel
theorem dX4_push_35 : decode cX4_push 35 = .ok (.getfield 29, 3) := by decide +kernel
theorem dX4_push_38 : decode cX4_push 38 = .ok (.aload_n 0, 1) := by decide +kernel
theorem dX4_push_39 : decode cX4_push 39 = .ok (.getfield 88, 3) := by decide +kernel
theorem dX4_push_42 : decode cX4_push 42 = .ok (.lload_n 1, 1) := by decide +kernel
theorem dX4_push_43 : decode cX4_push 43 = .ok (.lastore, 1) := by decide +kernel
theorem dX4_push_44 : decode cX4_push 44 = .ok (.aload_n 0, 1) := by decide +kernel
theorem dX4_push_45 : decode cX4_push 45 = .ok (.dup, 1) := by decide +kernel
theorem dX4_push_46 : decode cX4_push 46 = .ok (.getfield 88, 3) := by decide +kernel
theorem dX4_push_49 : decode cX4_push 49 = .ok (.iconst 1, 1) := by decide +kernel
theorem dX4_push_50 : decode cX4_push 50 = .ok (.iadd, 1) := by decide +kernel
theorem dX4_push_51 : decode cX4_push 51 = .ok (.putfield 88, 3) := by decide +kernel
theorem dX4_push_54 : decode cX4_push 54 = .ok (.iconst 1, 1) := by decide +kernel
theorem dX4_push_55 : decode cX4_push 55 = .ok (.ireturn, 1) := by decide +kernel
theorem dX4_pop_0 : decode cX4_pop 0 = .ok (.aload_n 0, 1) := by decide +kernel
theorem dX4_pop_1 : decode cX4_pop 1 = .ok (.getfield 88, 3) := by decide +kernel
theorem dX4_pop_4 : decode cX4_pop 4 = .ok (.iconst 1, 1) := by decide +kernel
theorem dX4_pop_5 : decode cX4_pop 5 = .ok (.if_icmp .lt 12, 3) := by decide +kernel
theorem dX4_pop_8 : decode cX4_pop 8 = .ok (.aload_n 0, 1) := by decide +kernel
theorem dX4_pop_9 : decode cX4_pop 9 = .ok (.getfield 88, 3) := by decide +kernel
theorem dX4_pop_12 : decode cX4_pop 12 = .ok (.bipush 32, 2) := by decide +kernel
theorem dX4_pop_14 : decode cX4_pop 14 = .ok (.if_icmp .le 5, 3) := by decide +kernel
theorem dX4_pop_17 : decode cX4_pop 17 = .ok (.lconst 0, 1) := by decide +kernel
theorem dX4_pop_18 : decode cX4_pop 18 = .ok (.lreturn, 1) := by decide +kernel
theorem dX4_pop_19 : decode cX4_pop 19 = .ok (.aload_n 0, 1) := by decide +kernel
theorem dX4_pop_20 : decode cX4_pop 20 = .ok (.dup, 1) := by decide +kernel
theorem dX4_pop_21 : decode cX4_pop 21 = .ok (.getfield 88, 3) := by decide +kernel
theorem dX4_pop_24 : decode cX4_pop 24 = .ok (.iconst 1, 1) := by decide +kernel
theorem dX4_pop_25 : decode cX4_pop 25 = .ok (.isub, 1) := by decide +kernel
theorem dX4_pop_26 : decode cX4_pop 26 = .ok (.putfield 88, 3) := by decide +kernel
theorem dX4_pop_29 : decode cX4_pop 29 = .ok (.aload_n 0, 1) := by decide +kernel
theorem dX4_pop_30 : decode cX4_pop 30 = .ok (.getfield 29, 3) := by decide +kernel
theorem dX4_pop_33 : decode cX4_pop 33 = .ok (.aload_n 0, 1) := by decide +kernel
theorem dX4_pop_34 : decode cX4_pop 34 = .ok (.getfield 88, 3) := by decide +kernel
theorem dX4_pop_37 : decode cX4_pop 37 = .ok (.laload, 1) := by decide +kernel
theorem dX4_pop_38 : decode cX4_pop 38 = .ok (.lreturn, 1) := by decide +kernel
theorem dX4_isZeroOnTop_0 : decode cX4_isZeroOnTop 0 = .ok (.aload_n 0, 1) := by decide +kernel
theorem dX4_isZeroOnTop_1 : decode cX4_isZeroOnTop 1 = .ok (.getfield 88, 3) := by decide +kernel
theorem dX4_isZeroOnTop_4 : decode cX4_isZeroOnTop 4 = .ok (.iconst 1, 1) := by decide +kernel
theorem dX4_isZeroOnTop_5 : decode cX4_isZeroOnTop 5 = .ok (.if_icmp .lt 28, 3) := by decide +kernel
theorem dX4_isZeroOnTop_8 : decode cX4_isZeroOnTop 8 = .ok (.aload_n 0, 1) := by decide +kernel
theorem dX4_isZeroOnTop_9 : decode cX4_isZeroOnTop 9 = .ok (.getfield 88, 3) := by decide +kernel
theorem dX4_isZeroOnTop_12 : decode cX4_isZeroOnTop 12 = .ok (.bipush 32, 2) := by decide +kernel
theorem dX4_isZeroOnTop_14 : decode cX4_isZeroOnTop 14 = .ok (.if_icmp .gt 19, 3) := by decide +kernel
theorem dX4_isZeroOnTop_17 : decode cX4_isZeroOnTop 17 = .ok (.aload_n 0, 1) := by decide +kernel
theorem dX4_isZeroOnTop_18 : decode cX4_isZeroOnTop 18 = .ok (.getfield 29, 3) := by decide +kernel
theorem dX4_isZeroOnTop_21 : decode cX4_isZeroOnTop 21 = .ok (.aload_n 0, 1) := by decide +kernel
theorem dX4_isZeroOnTop_22 : decode cX4_isZeroOnTop 22 = .ok (.getfield 88, 3) := by decide +kernel
theorem dX4_isZeroOnTop_25 : decode cX4_isZeroOnTop 25 = .ok (.iconst 1, 1) := by decide +kernel
theorem dX4_isZeroOnTop_26 : decode cX4_isZeroOnTop 26 = .ok (.isub, 1) := by decide +kernel
theorem dX4_isZeroOnTop_27 : decode cX4_isZeroOnTop 27 = .ok (.laload, 1) := by decide +kernel
theorem dX4_isZeroOnTop_28 : decode cX4_isZeroOnTop 28 = .ok (.lconst 0, 1) := by decide +kernel
theorem dX4_isZeroOnTop_29 : decode cX4_isZeroOnTop 29 = .ok (.lcmp, 1) := by decide +kernel
theorem dX4_isZeroOnTop_30 : decode cX4_isZeroOnTop 30 = .ok (.ifCond .ne 7, 3) := by decide +kernel
theorem dX4_isZeroOnTop_33 : decode cX4_isZeroOnTop 33 = .ok (.iconst 1, 1) := by decide +kernel
theorem dX4_isZeroOnTop_34 : decode cX4_isZeroOnTop 34 = .ok (.goto 4, 3) := by decide +kernel
theorem dX4_isZeroOnTop_37 : decode cX4_isZeroOnTop 37 = .ok (.iconst 0, 1) := by decide +kernel
theorem dX4_isZeroOnTop_38 : decode cX4_isZeroOnTop 38 = .ok (.ireturn, 1) := by decide +kernel
theorem dX4_put_0 : decode cX4_put 0 = .ok (.iload_n 1, 1) := by decide +kernel
theorem dX4_put_1 : decode cX4_put 1 = .ok (.ifCond .lt 16, 3) := by decide +kernel
theorem dX4_put_4 : decode cX4_put 4 = .ok (.iload_n 1, 1) := by decide +kernel
theorem dX4_put_5 : decode cX4_put 5 = .ok (.bipush 19, 2) := by decide +kernel
theorem dX4_put_7 : decode cX4_put 7 = .ok (.if_icmp .ge 10, 3) := by decide +kernel
theorem dX4_put_10 : decode cX4_put 10 = .ok (.aload_n 0, 1) := by decide +kernel
theorem dX4_put_11 : decode cX4_put 11 = .ok (.getfield 20, 3) := by decide +kernel
theorem dX4_put_14 : decode cX4_put 14 = .ok (.iload_n 1, 1) := by decide +kernel
theorem dX4_put_15 : decode cX4_put 15 = .ok (.iload_n 2, 1) := by decide +kernel
theorem dX4_put_16 : decode cX4_put 16 = .ok (.iastore, 1) := by decide +kernel
theorem dX4_put_17 : decode cX4_put 17 = .ok (.return_, 1) := by decide +kernel
theorem dX5_init_0 : decode cX5_init 0 = .ok (.aload_n 0, 1) := by decide +kernel
theorem dX5_init_1 : decode cX5_init 1 = .ok (.invokespecial 3, 3) := by decide +kernel
theorem dX5_init_4 : decode cX5_init 4 = .ok (.aload_n 0, 1) := by decide +kernel
theorem dX5_init_5 : decode cX5_init 5 = .ok (.sipush 208, 3) := by decide +kernel
theorem dX5_init_8 : decode cX5_init 8 = .ok (.newarray .int, 2) := by decide +kernel
theorem dX5_init_10 : decode cX5_init 10 = .ok (.putfield 11, 3) := by decide +kernel
theorem dX5_init_13 : decode cX5_init 13 = .ok (.aload_n 0, 1) := by decide +kernel
theorem dX5_init_14 : decode cX5_init 14 = .ok (.sipush 208, 3) := by decide +kernel
theorem dX5_init_17 : decode cX5_init 17 = .ok (.newarray .int, 2) := by decide +kernel
theorem dX5_init_19 : decode cX5_init 19 = .ok (.putfield 17, 3) := by decide +kernel
theorem dX5_init_22 : decode cX5_init 22 = .ok (.aload_n 0, 1) := by decide +kernel
theorem dX5_init_23 : decode cX5_init 23 = .ok (.aload_n 1, 1) := by decide +kernel
theorem dX5_init_24 : decode cX5_init 24 = .ok (.putfield 20, 3) := by decide +kernel
theorem dX5_init_27 : decode cX5_init 27 = .ok (.return_, 1) := by decide +kernel
theorem dX5_readMethod_0 : decode cX5_readMethod 0 = .ok (.aload_n 0, 1) := by decide +kernel
theorem dX5_readMethod_1 : decode cX5_readMethod 1 = .ok (.iconst 0, 1) := by decide +kernel
theorem dX5_readMethod_2 : decode cX5_readMethod 2 = .ok (.invokevirtual 24, 3) := by decide +kernel
theorem dX5_readMethod_5 : decode cX5_readMethod 5 = .ok (.aload_n 0, 1) := by decide +kernel
theorem dX5_readMethod_6 : decode cX5_readMethod 6 = .ok (.iconst 0, 1) := by decide +kernel
theorem dX5_readMethod_7 : decode cX5_readMethod 7 = .ok (.invokevirtual 28, 3) := by decide +kernel
theorem dX5_readMethod_10 : decode cX5_readMethod 10 = .ok (.ifCond .eq 20, 3) := by decide +kernel
theorem dX5_readMethod_13 : decode cX5_readMethod 13 = .ok (.aload_n 0, 1) := by decide +kernel
theorem dX5_readMethod_14 : decode cX5_readMethod 14 = .ok (.getfield 20, 3) := by decide +kernel
theorem dX5_readMethod_17 : decode cX5_readMethod 17 = .ok (.invokevirtual 32, 3) := by decide +kernel
theorem dX5_readMethod_20 : decode cX5_readMethod 20 = .ok (.ifCond .ne 10, 3) := by decide +kernel
theorem dX5_readMethod_23 : decode cX5_readMethod 23 = .ok (.aload_n 0, 1) := by decide +kernel
theorem dX5_readMethod_24 : decode cX5_readMethod 24 = .ok (.invokevirtual 36, 3) := by decide +kernel
theorem dX5_readMethod_27 : decode cX5_readMethod 27 = .ok (.goto 4, 3) := by decide +kernel
theorem dX5_readMethod_30 : decode cX5_readMethod 30 = .ok (.aconst_null, 1) := by decide +kernel
theorem dX5_readMethod_31 : decode cX5_readMethod 31 = .ok (.areturn, 1) := by decide +kernel
theorem dX5_readRule_0 : decode cX5_readRule 0 = .ok (.aload_n 0, 1) := by decide +kernel
theorem dX5_readRule_1 : decode cX5_readRule 1 = .ok (.iconst 1, 1) := by decide +kernel
theorem dX5_readRule_2 : decode cX5_readRule 2 = .ok (.invokevirtual 24, 3) := by decide +kernel
theorem dX5_readRule_5 : decode cX5_readRule 5 = .ok (.aload_n 0, 1) := by decide +kernel
theorem dX5_readRule_6 : decode cX5_readRule 6 = .ok (.iconst 0, 1) := by decide +kernel
theorem dX5_readRule_7 : decode cX5_readRule 7 = .ok (.invokevirtual 40, 3) := by decide +kernel
theorem dX5_readRule_10 : decode cX5_readRule 10 = .ok (.ifCond .eq 20, 3) := by decide +kernel
theorem dX5_readRule_13 : decode cX5_readRule 13 = .ok (.aload_n 0, 1) := by decide +kernel
theorem dX5_readRule_14 : decode cX5_readRule 14 = .ok (.getfield 20, 3) := by decide +kernel
theorem dX5_readRule_17 : decode cX5_readRule 17 = .ok (.invokevirtual 32, 3) := by decide +kernel
theorem dX5_readRule_20 : decode cX5_readRule 20 = .ok (.ifCond .ne 10, 3) := by decide +kernel
theorem dX5_readRule_23 : decode cX5_readRule 23 = .ok (.aload_n 0, 1) := by decide +kernel
theorem dX5_readRule_24 : decode cX5_readRule 24 = .ok (.invokevirtual 36, 3) := by decide +kernel
theorem dX5_readRule_27 : decode cX5_readRule 27 = .ok (.goto 4, 3) := by decide +kernel
theorem dX5_readRule_30 : decode cX5_readRule 30 = .ok (.aconst_null, 1) := by decide +kernel
theorem dX5_readRule_31 : decode cX5_readRule 31 = .ok (.areturn, 1) := by decide +kernel
theorem dX5_begin_0 : decode cX5_begin 0 = .ok (.aload_n 0, 1) := by decide +kernel
theorem dX5_begin_1 : decode cX5_begin 1 = .ok (.iload_n 1, 1) := by decide +kernel
theorem dX5_begin_2 : decode cX5_begin 2 = .ok (.putfield 43, 3) := by decide +kernel
theorem dX5_begin_5 : decode cX5_begin 5 = .ok (.aload_n 0, 1) := by decide +kernel
theorem dX5_begin_6 : decode cX5_begin 6 = .ok (.iconst 0, 1) := by decide +kernel
theorem dX5_begin_7 : decode cX5_begin 7 = .ok (.putfield 47, 3) := by decide +kernel
theorem dX5_begin_10 : decode cX5_begin 10 = .ok (.aload_n 0, 1) := by decide +kernel
theorem dX5_begin_11 : decode cX5_begin 11 = .ok (.iconst 0, 1) := by decide +kernel
theorem dX5_begin_12 : decode cX5_begin 12 = .ok (.putfield 51, 3) := by decide +kernel
theorem dX5_begin_15 : decode cX5_begin 15 = .ok (.aload_n 0, 1) := by decide +kernel
theorem dX5_begin_16 : decode cX5_begin 16 = .ok (.iconst 0, 1) := by decide +kernel
theorem dX5_begin_17 : decode cX5_begin 17 = .ok (.putfield 54, 3) := by decide +kernel
theorem dX5_begin_20 : decode cX5_begin 20 = .ok (.aload_n 0, 1) := by decide +kernel
theorem dX5_begin_21 : decode cX5_begin 21 = .ok (.getfield 20, 3) := by decide +kernel
theorem dX5_begin_24 : decode cX5_begin 24 = .ok (.invokevirtual 57, 3) := by decide +kernel
theorem dX5_begin_27 : decode cX5_begin 27 = .ok (.return_, 1) := by decide +kernel
theorem dX5_finished_0 : decode cX5_finished 0 = .ok (.new 60, 3) := by decide +kernel
theorem dX5_finished_3 : decode cX5_finished 3 = .ok (.dup, 1) := by decide +kernel
theorem dX5_finished_4 : decode cX5_finished 4 = .ok (.aload_n 0, 1) := by decide +kernel
theorem dX5_finished_5 : decode cX5_finished 5 = .ok (.getfield 11, 3) := by decide +kernel
theorem dX5_finished_8 : decode cX5_finished 8 = .ok (.aload_n 0, 1) := by decide +kernel
theorem dX5_finished_9 : decode cX5_finished 9 = .ok (.getfield 17, 3) := by decide +kernel
theorem dX5_finished_12 : decode cX5_finished 12 = .ok (.aload_n 0, 1) := by decide +kernel
theorem dX5_finished_13 : decode cX5_finished 13 = .ok (.getfield 47, 3) := by decide +kernel
theorem dX5_finished_16 : decode cX5_finished 16 = .ok (.aload_n 0, 1) := by decide +kernel
theorem dX5_finished_17 : decode cX5_finished 17 = .ok (.getfield 51, 3) := by decide +kernel
theorem dX5_finished_20 : decode cX5_finished 20 = .ok (.aload_n 0, 1) := by decide +kernel
theorem dX5_finished_21 : decode cX5_finished 21 = .ok (.getfield 54, 3) := by decide +kernel
theorem dX5_finished_24 : decode cX5_finished 24 = .ok (.invokespecial 62, 3) := by decide +kernel
theorem dX5_finished_27 : decode cX5_finished 27 = .ok (.areturn, 1) := by decide +kernel
theorem dX5_readStatements_0 : decode cX5_readStatements 0 = .ok (.iconst 0, 1) := by decide +kernel
theorem dX5_readStatements_1 : decode cX5_readStatements 1 = .ok (.istore_n 2, 1) := by decide +kernel
theorem dX5_readStatements_2 : decode cX5_readStatements 2 = .ok (.iload_n 2, 1) := by decide +kernel
theorem dX5_readStatements_3 : decode cX5_readStatements 3 = .ok (.bipush 12, 2) := by decide +kernel
theorem dX5_readStatements_5 : decode cX5_readStatements 5 = .ok (.if_icmp .gt 43, 3) := by decide +kernel
theorem dX5_readStatements_8 : decode cX5_readStatements 8 = .ok (.aload_n 0, 1) := by decide +kernel
theorem dX5_readStatements_9 : decode cX5_readStatements 9 = .ok (.getfield 20, 3) := by decide +kernel
theorem dX5_readStatements_12 : decode cX5_readStatements 12 = .ok (.invokevirtual 32, 3) := by decide +kernel
theorem dX5_readStatements_15 : decode cX5_readStatements 15 = .ok (.ifCond .eq 15, 3) := by decide +kernel
theorem dX5_readStatements_18 : decode cX5_readStatements 18 = .ok (.aload_n 0, 1) := by decide +kernel
theorem dX5_readStatements_19 : decode cX5_readStatements 19 = .ok (.getfield 20, 3) := by decide +kernel
theorem dX5_readStatements_22 : decode cX5_readStatements 22 = .ok (.invokevirtual 32, 3) := by decide +kernel
theorem dX5_readStatements_25 : decode cX5_readStatements 25 = .ok (.bipush 125, 2) := by decide +kernel
theorem dX5_readStatements_27 : decode cX5_readStatements 27 = .ok (.if_icmp .ne 5, 3) := by decide +kernel
theorem dX5_readStatements_30 : decode cX5_readStatements 30 = .ok (.iconst 1, 1) := by decide +kernel
theorem dX5_readStatements_31 : decode cX5_readStatements 31 = .ok (.ireturn, 1) := by decide +kernel
theorem dX5_readStatements_32 : decode cX5_readStatements 32 = .ok (.aload_n 0, 1) := by decide +kernel
theorem dX5_readStatements_33 : decode cX5_readStatements 33 = .ok (.iload_n 1, 1) := by decide +kernel
theorem dX5_readStatements_34 : decode cX5_readStatements 34 = .ok (.invokevirtual 65, 3) := by decide +kernel
theorem dX5_readStatements_37 : decode cX5_readStatements 37 = .ok (.ifCond .ne 5, 3) := by decide +kernel
theorem dX5_readStatements_40 : decode cX5_readStatements 40 = .ok (.iconst 0, 1) := by decide +kernel
theorem dX5_readStatements_41 : decode cX5_readStatements 41 = .ok (.ireturn, 1) := by decide +kernel
theorem dX5_readStatements_42 : decode cX5_readStatements 42 = .ok (.iinc 2 1, 3) := by decide +kernel
theorem dX5_readStatements_45 : decode cX5_readStatements 45 = .ok (.goto (-43), 3) := by decide +kernel
theorem dX5_readStatements_48 : decode cX5_readStatements 48 = .ok (.iconst 0, 1) := by decide +kernel
theorem dX5_readStatements_49 : decode cX5_readStatements 49 = .ok (.ireturn, 1) := by decide +kernel
theorem dX5_readStatement_0 : decode cX5_readStatement 0 = .ok (.aload_n 0, 1) := by decide +kernel
theorem dX5_readStatement_1 : decode cX5_readStatement 1 = .ok (.getfield 20, 3) := by decide +kernel
theorem dX5_readStatement_4 : decode cX5_readStatement 4 = .ok (.invokevirtual 32, 3) := by decide +kernel
theorem dX5_readStatement_7 : decode cX5_readStatement 7 = .ok (.istore_n 2, 1) := by decide +kernel
theorem dX5_readStatement_8 : decode cX5_readStatement 8 = .ok (.iload_n 2, 1) := by decide +kernel
theorem dX5_readStatement_9 : decode cX5_readStatement 9 = .ok (.invokestatic 68, 3) := by decide +kernel
