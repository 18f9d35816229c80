/-! the code, instruction by instruction: printed by a program of mine (wip/whole/gen_blocks.py, emit.py) -/
theorem qd_8_0 : decode qm8.2.2.1 0 = .ok (.aload_n 0, 1) := by decide +kernel
theorem qd_8_1 : decode qm8.2.2.1 1 = .ok (.getfield 10, 3) := by decide +kernel
theorem qd_8_4 : decode qm8.2.2.1 4 = .ok (.lload_n 1, 1) := by decide +kernel
theorem qd_8_5 : decode qm8.2.2.1 5 = .ok (.iload_n 3, 1) := by decide +kernel
theorem qd_8_6 : decode qm8.2.2.1 6 = .ok (.invokevirtual 63, 3) := by decide +kernel
theorem qd_8_9 : decode qm8.2.2.1 9 = .ok (.ireturn, 1) := by decide +kernel
theorem qd_9_0 : decode qm9.2.2.1 0 = .ok (.iload_n 3, 1) := by decide +kernel
theorem qd_9_1 : decode qm9.2.2.1 1 = .ok (.iconst 1, 1) := by decide +kernel
theorem qd_9_2 : decode qm9.2.2.1 2 = .ok (.if_icmp .lt 9, 3) := by decide +kernel
theorem qd_9_5 : decode qm9.2.2.1 5 = .ok (.iload_n 3, 1) := by decide +kernel
theorem qd_9_6 : decode qm9.2.2.1 6 = .ok (.bipush 8, 2) := by decide +kernel
theorem qd_9_8 : decode qm9.2.2.1 8 = .ok (.if_icmp .le 5, 3) := by decide +kernel
theorem qd_9_11 : decode qm9.2.2.1 11 = .ok (.iconst (-1), 1) := by decide +kernel
theorem qd_9_12 : decode qm9.2.2.1 12 = .ok (.ireturn, 1) := by decide +kernel
theorem qd_9_13 : decode qm9.2.2.1 13 = .ok (.aload_n 0, 1) := by decide +kernel
theorem qd_9_14 : decode qm9.2.2.1 14 = .ok (.getfield 15, 3) := by decide +kernel
theorem qd_9_17 : decode qm9.2.2.1 17 = .ok (.iload_n 3, 1) := by decide +kernel
theorem qd_9_18 : decode qm9.2.2.1 18 = .ok (.iadd, 1) := by decide +kernel
theorem qd_9_19 : decode qm9.2.2.1 19 = .ok (.sipush 500, 3) := by decide +kernel
theorem qd_9_22 : decode qm9.2.2.1 22 = .ok (.if_icmp .le 6, 3) := by decide +kernel
theorem qd_9_25 : decode qm9.2.2.1 25 = .ok (.bipush (-3), 2) := by decide +kernel
theorem qd_9_27 : decode qm9.2.2.1 27 = .ok (.ireturn, 1) := by decide +kernel
theorem qd_9_28 : decode qm9.2.2.1 28 = .ok (.iload_n 3, 1) := by decide +kernel
theorem qd_9_29 : decode qm9.2.2.1 29 = .ok (.iconst 1, 1) := by decide +kernel
theorem qd_9_30 : decode qm9.2.2.1 30 = .ok (.isub, 1) := by decide +kernel
theorem qd_9_31 : decode qm9.2.2.1 31 = .ok (.istore 4, 2) := by decide +kernel
theorem qd_9_33 : decode qm9.2.2.1 33 = .ok (.iload 4, 2) := by decide +kernel
theorem qd_9_35 : decode qm9.2.2.1 35 = .ok (.ifCond .lt 40, 3) := by decide +kernel
theorem qd_9_38 : decode qm9.2.2.1 38 = .ok (.aload_n 0, 1) := by decide +kernel
theorem qd_9_39 : decode qm9.2.2.1 39 = .ok (.getfield 9, 3) := by decide +kernel
theorem qd_9_42 : decode qm9.2.2.1 42 = .ok (.aload_n 0, 1) := by decide +kernel
theorem qd_9_43 : decode qm9.2.2.1 43 = .ok (.getfield 15, 3) := by decide +kernel
theorem qd_9_46 : decode qm9.2.2.1 46 = .ok (.lload_n 1, 1) := by decide +kernel
theorem qd_9_47 : decode qm9.2.2.1 47 = .ok (.bipush 8, 2) := by decide +kernel
theorem qd_9_49 : decode qm9.2.2.1 49 = .ok (.iload 4, 2) := by decide +kernel
theorem qd_9_51 : decode qm9.2.2.1 51 = .ok (.imul, 1) := by decide +kernel
theorem qd_9_52 : decode qm9.2.2.1 52 = .ok (.lushr, 1) := by decide +kernel
theorem qd_9_53 : decode qm9.2.2.1 53 = .ok (.l2i, 1) := by decide +kernel
theorem qd_9_54 : decode qm9.2.2.1 54 = .ok (.sipush 255, 3) := by decide +kernel
theorem qd_9_57 : decode qm9.2.2.1 57 = .ok (.iand, 1) := by decide +kernel
theorem qd_9_58 : decode qm9.2.2.1 58 = .ok (.iastore, 1) := by decide +kernel
theorem qd_9_59 : decode qm9.2.2.1 59 = .ok (.aload_n 0, 1) := by decide +kernel
theorem qd_9_60 : decode qm9.2.2.1 60 = .ok (.dup, 1) := by decide +kernel
theorem qd_9_61 : decode qm9.2.2.1 61 = .ok (.getfield 15, 3) := by decide +kernel
theorem qd_9_64 : decode qm9.2.2.1 64 = .ok (.iconst 1, 1) := by decide +kernel
theorem qd_9_65 : decode qm9.2.2.1 65 = .ok (.iadd, 1) := by decide +kernel
theorem qd_9_66 : decode qm9.2.2.1 66 = .ok (.putfield 15, 3) := by decide +kernel
theorem qd_9_69 : decode qm9.2.2.1 69 = .ok (.iinc 4 (-1), 3) := by decide +kernel
theorem qd_9_72 : decode qm9.2.2.1 72 = .ok (.goto (-39), 3) := by decide +kernel
theorem qd_9_75 : decode qm9.2.2.1 75 = .ok (.aload_n 0, 1) := by decide +kernel
theorem qd_9_76 : decode qm9.2.2.1 76 = .ok (.getfield 15, 3) := by decide +kernel
theorem qd_9_79 : decode qm9.2.2.1 79 = .ok (.ireturn, 1) := by decide +kernel
theorem qd_10_0 : decode qm10.2.2.1 0 = .ok (.aload_n 0, 1) := by decide +kernel
theorem qd_10_1 : decode qm10.2.2.1 1 = .ok (.getfield 10, 3) := by decide +kernel
theorem qd_10_4 : decode qm10.2.2.1 4 = .ok (.iload_n 1, 1) := by decide +kernel
theorem qd_10_5 : decode qm10.2.2.1 5 = .ok (.iload_n 2, 1) := by decide +kernel
theorem qd_10_6 : decode qm10.2.2.1 6 = .ok (.invokevirtual 67, 3) := by decide +kernel
theorem qd_10_9 : decode qm10.2.2.1 9 = .ok (.ireturn, 1) := by decide +kernel
theorem qd_11_0 : decode qm11.2.2.1 0 = .ok (.iload_n 1, 1) := by decide +kernel
theorem qd_11_1 : decode qm11.2.2.1 1 = .ok (.ifCond .lt 22, 3) := by decide +kernel
theorem qd_11_4 : decode qm11.2.2.1 4 = .ok (.iload_n 1, 1) := by decide +kernel
theorem qd_11_5 : decode qm11.2.2.1 5 = .ok (.aload_n 0, 1) := by decide +kernel
theorem qd_11_6 : decode qm11.2.2.1 6 = .ok (.getfield 15, 3) := by decide +kernel
theorem qd_11_9 : decode qm11.2.2.1 9 = .ok (.if_icmp .ge 14, 3) := by decide +kernel
theorem qd_11_12 : decode qm11.2.2.1 12 = .ok (.iload_n 2, 1) := by decide +kernel
theorem qd_11_13 : decode qm11.2.2.1 13 = .ok (.ifCond .lt 10, 3) := by decide +kernel
theorem qd_11_16 : decode qm11.2.2.1 16 = .ok (.iload_n 2, 1) := by decide +kernel
theorem qd_11_17 : decode qm11.2.2.1 17 = .ok (.sipush 255, 3) := by decide +kernel
theorem qd_11_20 : decode qm11.2.2.1 20 = .ok (.if_icmp .le 5, 3) := by decide +kernel
theorem qd_11_23 : decode qm11.2.2.1 23 = .ok (.iconst 0, 1) := by decide +kernel
theorem qd_11_24 : decode qm11.2.2.1 24 = .ok (.ireturn, 1) := by decide +kernel
theorem qd_11_25 : decode qm11.2.2.1 25 = .ok (.aload_n 0, 1) := by decide +kernel
theorem qd_11_26 : decode qm11.2.2.1 26 = .ok (.getfield 9, 3) := by decide +kernel
theorem qd_11_29 : decode qm11.2.2.1 29 = .ok (.iload_n 1, 1) := by decide +kernel
theorem qd_11_30 : decode qm11.2.2.1 30 = .ok (.iload_n 2, 1) := by decide +kernel
theorem qd_11_31 : decode qm11.2.2.1 31 = .ok (.iastore, 1) := by decide +kernel
theorem qd_11_32 : decode qm11.2.2.1 32 = .ok (.iconst 1, 1) := by decide +kernel
theorem qd_11_33 : decode qm11.2.2.1 33 = .ok (.ireturn, 1) := by decide +kernel
theorem qd_12_0 : decode qm12.2.2.1 0 = .ok (.aload_n 0, 1) := by decide +kernel
theorem qd_12_1 : decode qm12.2.2.1 1 = .ok (.getfield 10, 3) := by decide +kernel
theorem qd_12_4 : decode qm12.2.2.1 4 = .ok (.iload_n 1, 1) := by decide +kernel
theorem qd_12_5 : decode qm12.2.2.1 5 = .ok (.invokevirtual 71, 3) := by decide +kernel
theorem qd_12_8 : decode qm12.2.2.1 8 = .ok (.ireturn, 1) := by decide +kernel
theorem qd_13_0 : decode qm13.2.2.1 0 = .ok (.iload_n 1, 1) := by decide +kernel
theorem qd_13_1 : decode qm13.2.2.1 1 = .ok (.ifCond .lt 11, 3) := by decide +kernel
theorem qd_13_4 : decode qm13.2.2.1 4 = .ok (.iload_n 1, 1) := by decide +kernel
theorem qd_13_5 : decode qm13.2.2.1 5 = .ok (.aload_n 0, 1) := by decide +kernel
theorem qd_13_6 : decode qm13.2.2.1 6 = .ok (.getfield 15, 3) := by decide +kernel
theorem qd_13_9 : decode qm13.2.2.1 9 = .ok (.if_icmp .le 5, 3) := by decide +kernel
theorem qd_13_12 : decode qm13.2.2.1 12 = .ok (.iconst (-1), 1) := by decide +kernel
theorem qd_13_13 : decode qm13.2.2.1 13 = .ok (.ireturn, 1) := by decide +kernel
theorem qd_13_14 : decode qm13.2.2.1 14 = .ok (.aload_n 0, 1) := by decide +kernel
theorem qd_13_15 : decode qm13.2.2.1 15 = .ok (.getfield 15, 3) := by decide +kernel
theorem qd_13_18 : decode qm13.2.2.1 18 = .ok (.iload_n 1, 1) := by decide +kernel
theorem qd_13_19 : decode qm13.2.2.1 19 = .ok (.isub, 1) := by decide +kernel
theorem qd_13_20 : decode qm13.2.2.1 20 = .ok (.istore_n 2, 1) := by decide +kernel
theorem qd_13_21 : decode qm13.2.2.1 21 = .ok (.aload_n 0, 1) := by decide +kernel
theorem qd_13_22 : decode qm13.2.2.1 22 = .ok (.iload_n 1, 1) := by decide +kernel
theorem qd_13_23 : decode qm13.2.2.1 23 = .ok (.putfield 15, 3) := by decide +kernel
theorem qd_13_26 : decode qm13.2.2.1 26 = .ok (.iload_n 2, 1) := by decide +kernel
theorem qd_13_27 : decode qm13.2.2.1 27 = .ok (.ireturn, 1) := by decide +kernel
theorem qd_14_0 : decode qm14.2.2.1 0 = .ok (.aload_n 0, 1) := by decide +kernel
theorem qd_14_1 : decode qm14.2.2.1 1 = .ok (.getfield 10, 3) := by decide +kernel
theorem qd_14_4 : decode qm14.2.2.1 4 = .ok (.invokevirtual 122, 3) := by decide +kernel
theorem qd_14_7 : decode qm14.2.2.1 7 = .ok (.ireturn, 1) := by decide +kernel
theorem qd_15_0 : decode qm15.2.2.1 0 = .ok (.aload_n 0, 1) := by decide +kernel
theorem qd_15_1 : decode qm15.2.2.1 1 = .ok (.getfield 22, 3) := by decide +kernel
theorem qd_15_4 : decode qm15.2.2.1 4 = .ok (.ireturn, 1) := by decide +kernel
theorem qd_16_0 : decode qm16.2.2.1 0 = .ok (.aload_n 0, 1) := by decide +kernel
theorem qd_16_1 : decode qm16.2.2.1 1 = .ok (.iconst 0, 1) := by decide +kernel
theorem qd_16_2 : decode qm16.2.2.1 2 = .ok (.putfield 59, 3) := by decide +kernel
theorem qd_16_5 : decode qm16.2.2.1 5 = .ok (.aload_n 0, 1) := by decide +kernel
theorem qd_16_6 : decode qm16.2.2.1 6 = .ok (.getfield 10, 3) := by decide +kernel
theorem qd_16_9 : decode qm16.2.2.1 9 = .ok (.invokevirtual 75, 3) := by decide +kernel
theorem qd_16_12 : decode qm16.2.2.1 12 = .ok (.aload_n 0, 1) := by decide +kernel
theorem qd_16_13 : decode qm16.2.2.1 13 = .ok (.getfield 46, 3) := by decide +kernel
theorem qd_16_16 : decode qm16.2.2.1 16 = .ok (.invokevirtual 78, 3) := by decide +kernel
theorem qd_16_19 : decode qm16.2.2.1 19 = .ok (.aload_n 0, 1) := by decide +kernel
theorem qd_16_20 : decode qm16.2.2.1 20 = .ok (.getfield 21, 3) := by decide +kernel
theorem qd_16_23 : decode qm16.2.2.1 23 = .ok (.invokevirtual 81, 3) := by decide +kernel
theorem qd_16_26 : decode qm16.2.2.1 26 = .ok (.aload_n 0, 1) := by decide +kernel
theorem qd_16_27 : decode qm16.2.2.1 27 = .ok (.getfield 21, 3) := by decide +kernel
theorem qd_16_30 : decode qm16.2.2.1 30 = .ok (.invokevirtual 84, 3) := by decide +kernel
theorem qd_16_33 : decode qm16.2.2.1 33 = .ok (.aload_n 0, 1) := by decide +kernel
theorem qd_16_34 : decode qm16.2.2.1 34 = .ok (.getfield 30, 3) := by decide +kernel
theorem qd_16_37 : decode qm16.2.2.1 37 = .ok (.invokevirtual 87, 3) := by decide +kernel
theorem qd_16_40 : decode qm16.2.2.1 40 = .ok (.aload_n 0, 1) := by decide +kernel
theorem qd_16_41 : decode qm16.2.2.1 41 = .ok (.getfield 46, 3) := by decide +kernel
theorem qd_16_44 : decode qm16.2.2.1 44 = .ok (.invokevirtual 90, 3) := by decide +kernel
theorem qd_16_47 : decode qm16.2.2.1 47 = .ok (.aload_n 0, 1) := by decide +kernel
theorem qd_16_48 : decode qm16.2.2.1 48 = .ok (.getfield 46, 3) := by decide +kernel
theorem qd_16_51 : decode qm16.2.2.1 51 = .ok (.invokevirtual 93, 3) := by decide +kernel
theorem qd_16_54 : decode qm16.2.2.1 54 = .ok (.aload_n 0, 1) := by decide +kernel
theorem qd_16_55 : decode qm16.2.2.1 55 = .ok (.getfield 46, 3) := by decide +kernel
theorem qd_16_58 : decode qm16.2.2.1 58 = .ok (.invokevirtual 96, 3) := by decide +kernel
theorem qd_16_61 : decode qm16.2.2.1 61 = .ok (.aload_n 0, 1) := by decide +kernel
theorem qd_16_62 : decode qm16.2.2.1 62 = .ok (.getfield 37, 3) := by decide +kernel
theorem qd_16_65 : decode qm16.2.2.1 65 = .ok (.invokevirtual 99, 3) := by decide +kernel
theorem qd_16_68 : decode qm16.2.2.1 68 = .ok (.aload_n 0, 1) := by decide +kernel
theorem qd_16_69 : decode qm16.2.2.1 69 = .ok (.getfield 10, 3) := by decide +kernel
theorem qd_16_72 : decode qm16.2.2.1 72 = .ok (.invokevirtual 102, 3) := by decide +kernel
theorem qd_16_75 : decode qm16.2.2.1 75 = .ok (.aload_n 0, 1) := by decide +kernel
theorem qd_16_76 : decode qm16.2.2.1 76 = .ok (.getfield 30, 3) := by decide +kernel
theorem qd_16_79 : decode qm16.2.2.1 79 = .ok (.aload_n 0, 1) := by decide +kernel
theorem qd_16_80 : decode qm16.2.2.1 80 = .ok (.getfield 37, 3) := by decide +kernel
theorem qd_16_83 : decode qm16.2.2.1 83 = .ok (.getfield 105, 3) := by decide +kernel
theorem qd_16_86 : decode qm16.2.2.1 86 = .ok (.invokevirtual 109, 3) := by decide +kernel
theorem qd_16_89 : decode qm16.2.2.1 89 = .ok (.invokevirtual 115, 3) := by decide +kernel
theorem qd_16_92 : decode qm16.2.2.1 92 = .ok (.aload_n 0, 1) := by decide +kernel
theorem qd_16_93 : decode qm16.2.2.1 93 = .ok (.iconst 1, 1) := by decide +kernel
theorem qd_16_94 : decode qm16.2.2.1 94 = .ok (.putfield 59, 3) := by decide +kernel
theorem qd_16_97 : decode qm16.2.2.1 97 = .ok (.aload_n 0, 1) := by decide +kernel
theorem qd_16_98 : decode qm16.2.2.1 98 = .ok (.getfield 21, 3) := by decide +kernel
theorem qd_16_101 : decode qm16.2.2.1 101 = .ok (.getfield 119, 3) := by decide +kernel
theorem qd_16_104 : decode qm16.2.2.1 104 = .ok (.invokevirtual 109, 3) := by decide +kernel
theorem qd_16_107 : decode qm16.2.2.1 107 = .ok (.ireturn, 1) := by decide +kernel
theorem qd_17_0 : decode qm17.2.2.1 0 = .ok (.aload_n 0, 1) := by decide +kernel
theorem qd_17_1 : decode qm17.2.2.1 1 = .ok (.iconst 0, 1) := by decide +kernel
theorem qd_17_2 : decode qm17.2.2.1 2 = .ok (.putfield 19, 3) := by decide +kernel
theorem qd_17_5 : decode qm17.2.2.1 5 = .ok (.aload_n 0, 1) := by decide +kernel
theorem qd_17_6 : decode qm17.2.2.1 6 = .ok (.bipush (-2), 2) := by decide +kernel
theorem qd_17_8 : decode qm17.2.2.1 8 = .ok (.putfield 22, 3) := by decide +kernel
theorem qd_17_11 : decode qm17.2.2.1 11 = .ok (.return_, 1) := by decide +kernel
theorem qd_18_0 : decode qm18.2.2.1 0 = .ok (.aload_n 0, 1) := by decide +kernel
theorem qd_18_1 : decode qm18.2.2.1 1 = .ok (.getfield 9, 3) := by decide +kernel
theorem qd_18_4 : decode qm18.2.2.1 4 = .ok (.aload_n 0, 1) := by decide +kernel
theorem qd_18_5 : decode qm18.2.2.1 5 = .ok (.getfield 9, 3) := by decide +kernel
theorem qd_18_8 : decode qm18.2.2.1 8 = .ok (.iconst 4, 1) := by decide +kernel
theorem qd_18_9 : decode qm18.2.2.1 9 = .ok (.invokevirtual 38, 3) := by decide +kernel
theorem qd_18_12 : decode qm18.2.2.1 12 = .ok (.ldc 44, 2) := by decide +kernel
theorem qd_18_14 : decode qm18.2.2.1 14 = .ok (.if_icmp .ne 7, 3) := by decide +kernel
theorem qd_18_17 : decode qm18.2.2.1 17 = .ok (.iconst 1, 1) := by decide +kernel
theorem qd_18_18 : decode qm18.2.2.1 18 = .ok (.goto 4, 3) := by decide +kernel
theorem qd_18_21 : decode qm18.2.2.1 21 = .ok (.iconst 0, 1) := by decide +kernel
theorem qd_18_22 : decode qm18.2.2.1 22 = .ok (.iconst 0, 1) := by decide +kernel
theorem qd_18_23 : decode qm18.2.2.1 23 = .ok (.invokevirtual 45, 3) := by decide +kernel
theorem qd_18_26 : decode qm18.2.2.1 26 = .ok (.aload_n 0, 1) := by decide +kernel
theorem qd_18_27 : decode qm18.2.2.1 27 = .ok (.aload_n 0, 1) := by decide +kernel
theorem qd_18_28 : decode qm18.2.2.1 28 = .ok (.getfield 9, 3) := by decide +kernel
theorem qd_18_31 : decode qm18.2.2.1 31 = .ok (.iconst 2, 1) := by decide +kernel
theorem qd_18_32 : decode qm18.2.2.1 32 = .ok (.invokevirtual 38, 3) := by decide +kernel
theorem qd_18_35 : decode qm18.2.2.1 35 = .ok (.putfield 49, 3) := by decide +kernel
theorem qd_18_38 : decode qm18.2.2.1 38 = .ok (.aload_n 0, 1) := by decide +kernel
theorem qd_18_39 : decode qm18.2.2.1 39 = .ok (.aload_n 0, 1) := by decide +kernel
theorem qd_18_40 : decode qm18.2.2.1 40 = .ok (.getfield 9, 3) := by decide +kernel
theorem qd_18_43 : decode qm18.2.2.1 43 = .ok (.iconst 2, 1) := by decide +kernel
theorem qd_18_44 : decode qm18.2.2.1 44 = .ok (.invokevirtual 38, 3) := by decide +kernel
theorem qd_18_47 : decode qm18.2.2.1 47 = .ok (.putfield 53, 3) := by decide +kernel
theorem qd_18_50 : decode qm18.2.2.1 50 = .ok (.aload_n 0, 1) := by decide +kernel
theorem qd_18_51 : decode qm18.2.2.1 51 = .ok (.getfield 53, 3) := by decide +kernel
theorem qd_18_54 : decode qm18.2.2.1 54 = .ok (.bipush 45, 2) := by decide +kernel
theorem qd_18_56 : decode qm18.2.2.1 56 = .ok (.if_icmp .lt 16, 3) := by decide +kernel
theorem qd_18_59 : decode qm18.2.2.1 59 = .ok (.aload_n 0, 1) := by decide +kernel
theorem qd_18_60 : decode qm18.2.2.1 60 = .ok (.getfield 53, 3) := by decide +kernel
theorem qd_18_63 : decode qm18.2.2.1 63 = .ok (.bipush 55, 2) := by decide +kernel
theorem qd_18_65 : decode qm18.2.2.1 65 = .ok (.if_icmp .gt 7, 3) := by decide +kernel
theorem qd_18_68 : decode qm18.2.2.1 68 = .ok (.iconst 1, 1) := by decide +kernel
theorem qd_18_69 : decode qm18.2.2.1 69 = .ok (.goto 4, 3) := by decide +kernel
theorem qd_18_72 : decode qm18.2.2.1 72 = .ok (.iconst 0, 1) := by decide +kernel
theorem qd_18_73 : decode qm18.2.2.1 73 = .ok (.istore_n 1, 1) := by decide +kernel
theorem qd_18_74 : decode qm18.2.2.1 74 = .ok (.aload_n 0, 1) := by decide +kernel
theorem qd_18_75 : decode qm18.2.2.1 75 = .ok (.getfield 53, 3) := by decide +kernel
theorem qd_18_78 : decode qm18.2.2.1 78 = .ok (.bipush 56, 2) := by decide +kernel
theorem qd_18_80 : decode qm18.2.2.1 80 = .ok (.if_icmp .lt 32, 3) := by decide +kernel
theorem qd_18_83 : decode qm18.2.2.1 83 = .ok (.aload_n 0, 1) := by decide +kernel
theorem qd_18_84 : decode qm18.2.2.1 84 = .ok (.getfield 53, 3) := by decide +kernel
theorem qd_18_87 : decode qm18.2.2.1 87 = .ok (.bipush 69, 2) := by decide +kernel
theorem qd_18_89 : decode qm18.2.2.1 89 = .ok (.if_icmp .gt 23, 3) := by decide +kernel
theorem qd_18_92 : decode qm18.2.2.1 92 = .ok (.aload_n 0, 1) := by decide +kernel
theorem qd_18_93 : decode qm18.2.2.1 93 = .ok (.getfield 49, 3) := by decide +kernel
theorem qd_18_96 : decode qm18.2.2.1 96 = .ok (.ifCond .eq 12, 3) := by decide +kernel
theorem qd_18_99 : decode qm18.2.2.1 99 = .ok (.aload_n 0, 1) := by decide +kernel
theorem qd_18_100 : decode qm18.2.2.1 100 = .ok (.getfield 49, 3) := by decide +kernel
theorem qd_18_103 : decode qm18.2.2.1 103 = .ok (.ldc 56, 2) := by decide +kernel
theorem qd_18_105 : decode qm18.2.2.1 105 = .ok (.if_icmp .ne 7, 3) := by decide +kernel
theorem qd_18_108 : decode qm18.2.2.1 108 = .ok (.iconst 1, 1) := by decide +kernel
theorem qd_18_109 : decode qm18.2.2.1 109 = .ok (.goto 4, 3) := by decide +kernel
theorem qd_18_112 : decode qm18.2.2.1 112 = .ok (.iconst 0, 1) := by decide +kernel
theorem qd_18_113 : decode qm18.2.2.1 113 = .ok (.istore_n 2, 1) := by decide +kernel
theorem qd_18_114 : decode qm18.2.2.1 114 = .ok (.aload_n 0, 1) := by decide +kernel
theorem qd_18_115 : decode qm18.2.2.1 115 = .ok (.getfield 9, 3) := by decide +kernel
theorem qd_18_118 : decode qm18.2.2.1 118 = .ok (.iload_n 1, 1) := by decide +kernel
theorem qd_18_119 : decode qm18.2.2.1 119 = .ok (.ifCond .ne 7, 3) := by decide +kernel
theorem qd_18_122 : decode qm18.2.2.1 122 = .ok (.iload_n 2, 1) := by decide +kernel
theorem qd_18_123 : decode qm18.2.2.1 123 = .ok (.ifCond .eq 7, 3) := by decide +kernel
theorem qd_18_126 : decode qm18.2.2.1 126 = .ok (.iconst 1, 1) := by decide +kernel
theorem qd_18_127 : decode qm18.2.2.1 127 = .ok (.goto 4, 3) := by decide +kernel
theorem qd_18_130 : decode qm18.2.2.1 130 = .ok (.iconst 0, 1) := by decide +kernel
theorem qd_18_131 : decode qm18.2.2.1 131 = .ok (.aload_n 0, 1) := by decide +kernel
theorem qd_18_132 : decode qm18.2.2.1 132 = .ok (.getfield 9, 3) := by decide +kernel
theorem qd_18_135 : decode qm18.2.2.1 135 = .ok (.invokevirtual 57, 3) := by decide +kernel
theorem qd_18_138 : decode qm18.2.2.1 138 = .ok (.iconst 4, 1) := by decide +kernel
theorem qd_18_139 : decode qm18.2.2.1 139 = .ok (.isub, 1) := by decide +kernel
theorem qd_18_140 : decode qm18.2.2.1 140 = .ok (.invokevirtual 61, 3) := by decide +kernel
theorem qd_18_143 : decode qm18.2.2.1 143 = .ok (.return_, 1) := by decide +kernel
theorem qd_19_0 : decode qm19.2.2.1 0 = .ok (.iload_n 1, 1) := by decide +kernel
theorem qd_19_1 : decode qm19.2.2.1 1 = .ok (.aload_n 0, 1) := by decide +kernel
theorem qd_19_2 : decode qm19.2.2.1 2 = .ok (.getfield 15, 3) := by decide +kernel
theorem qd_19_5 : decode qm19.2.2.1 5 = .ok (.aload_n 0, 1) := by decide +kernel
theorem qd_19_6 : decode qm19.2.2.1 6 = .ok (.getfield 19, 3) := by decide +kernel
theorem qd_19_9 : decode qm19.2.2.1 9 = .ok (.isub, 1) := by decide +kernel
theorem qd_19_10 : decode qm19.2.2.1 10 = .ok (.if_icmp .le 19, 3) := by decide +kernel
theorem qd_19_13 : decode qm19.2.2.1 13 = .ok (.aload_n 0, 1) := by decide +kernel
theorem qd_19_14 : decode qm19.2.2.1 14 = .ok (.aload_n 0, 1) := by decide +kernel
theorem qd_19_15 : decode qm19.2.2.1 15 = .ok (.getfield 15, 3) := by decide +kernel
theorem qd_19_18 : decode qm19.2.2.1 18 = .ok (.putfield 22, 3) := by decide +kernel
theorem qd_19_21 : decode qm19.2.2.1 21 = .ok (.new 25, 3) := by decide +kernel
theorem qd_19_29 : decode qm19.2.2.1 29 = .ok (.iconst 0, 1) := by decide +kernel
theorem qd_19_30 : decode qm19.2.2.1 30 = .ok (.istore_n 2, 1) := by decide +kernel
theorem qd_19_31 : decode qm19.2.2.1 31 = .ok (.iconst 0, 1) := by decide +kernel
theorem qd_19_32 : decode qm19.2.2.1 32 = .ok (.istore_n 3, 1) := by decide +kernel
theorem qd_19_33 : decode qm19.2.2.1 33 = .ok (.iload_n 3, 1) := by decide +kernel
theorem qd_19_34 : decode qm19.2.2.1 34 = .ok (.iload_n 1, 1) := by decide +kernel
theorem qd_19_35 : decode qm19.2.2.1 35 = .ok (.if_icmp .ge 26, 3) := by decide +kernel
theorem qd_19_38 : decode qm19.2.2.1 38 = .ok (.iload_n 2, 1) := by decide +kernel
theorem qd_19_39 : decode qm19.2.2.1 39 = .ok (.bipush 8, 2) := by decide +kernel
theorem qd_19_41 : decode qm19.2.2.1 41 = .ok (.ishl, 1) := by decide +kernel
theorem qd_19_42 : decode qm19.2.2.1 42 = .ok (.aload_n 0, 1) := by decide +kernel
theorem qd_19_43 : decode qm19.2.2.1 43 = .ok (.getfield 9, 3) := by decide +kernel
theorem qd_19_46 : decode qm19.2.2.1 46 = .ok (.aload_n 0, 1) := by decide +kernel
theorem qd_19_47 : decode qm19.2.2.1 47 = .ok (.getfield 19, 3) := by decide +kernel
theorem qd_19_50 : decode qm19.2.2.1 50 = .ok (.iload_n 3, 1) := by decide +kernel
theorem qd_19_51 : decode qm19.2.2.1 51 = .ok (.iadd, 1) := by decide +kernel
theorem qd_19_52 : decode qm19.2.2.1 52 = .ok (.iaload, 1) := by decide +kernel
theorem qd_19_53 : decode qm19.2.2.1 53 = .ok (.ior, 1) := by decide +kernel
theorem qd_19_54 : decode qm19.2.2.1 54 = .ok (.istore_n 2, 1) := by decide +kernel
theorem qd_19_55 : decode qm19.2.2.1 55 = .ok (.iinc 3 1, 3) := by decide +kernel
theorem qd_19_58 : decode qm19.2.2.1 58 = .ok (.goto (-25), 3) := by decide +kernel
theorem qd_19_61 : decode qm19.2.2.1 61 = .ok (.aload_n 0, 1) := by decide +kernel
theorem qd_19_62 : decode qm19.2.2.1 62 = .ok (.dup, 1) := by decide +kernel
theorem qd_19_63 : decode qm19.2.2.1 63 = .ok (.getfield 19, 3) := by decide +kernel
theorem qd_19_66 : decode qm19.2.2.1 66 = .ok (.iload_n 1, 1) := by decide +kernel
theorem qd_19_67 : decode qm19.2.2.1 67 = .ok (.iadd, 1) := by decide +kernel
theorem qd_19_68 : decode qm19.2.2.1 68 = .ok (.putfield 19, 3) := by decide +kernel
theorem qd_19_71 : decode qm19.2.2.1 71 = .ok (.iload_n 2, 1) := by decide +kernel
theorem qd_19_72 : decode qm19.2.2.1 72 = .ok (.ireturn, 1) := by decide +kernel
theorem qd_20_0 : decode qm20.2.2.1 0 = .ok (.iload_n 1, 1) := by decide +kernel
theorem qd_20_1 : decode qm20.2.2.1 1 = .ok (.ifCond .ne 16, 3) := by decide +kernel
theorem qd_20_4 : decode qm20.2.2.1 4 = .ok (.aload_n 0, 1) := by decide +kernel
theorem qd_20_5 : decode qm20.2.2.1 5 = .ok (.iload_n 2, 1) := by decide +kernel
theorem qd_20_6 : decode qm20.2.2.1 6 = .ok (.putfield 22, 3) := by decide +kernel
theorem qd_20_9 : decode qm20.2.2.1 9 = .ok (.new 25, 3) := by decide +kernel
theorem qd_20_17 : decode qm20.2.2.1 17 = .ok (.return_, 1) := by decide +kernel
theorem qd_21_0 : decode qm21.2.2.1 0 = .ok (.aload_n 0, 1) := by decide +kernel
theorem qd_21_1 : decode qm21.2.2.1 1 = .ok (.getfield 19, 3) := by decide +kernel
theorem qd_21_4 : decode qm21.2.2.1 4 = .ok (.ireturn, 1) := by decide +kernel
theorem qd_22_0 : decode qm22.2.2.1 0 = .ok (.iload_n 1, 1) := by decide +kernel
theorem qd_22_1 : decode qm22.2.2.1 1 = .ok (.ifCond .ne 16, 3) := by decide +kernel
theorem qd_22_4 : decode qm22.2.2.1 4 = .ok (.aload_n 0, 1) := by decide +kernel
theorem qd_22_5 : decode qm22.2.2.1 5 = .ok (.iload_n 2, 1) := by decide +kernel
theorem qd_22_6 : decode qm22.2.2.1 6 = .ok (.putfield 22, 3) := by decide +kernel
theorem qd_22_9 : decode qm22.2.2.1 9 = .ok (.new 28, 3) := by decide +kernel
theorem qd_22_17 : decode qm22.2.2.1 17 = .ok (.return_, 1) := by decide +kernel
theorem qd_23_0 : decode qm23.2.2.1 0 = .ok (.aload_n 0, 1) := by decide +kernel
theorem qd_23_1 : decode qm23.2.2.1 1 = .ok (.getfield 20, 3) := by decide +kernel
theorem qd_23_4 : decode qm23.2.2.1 4 = .ok (.invokevirtual 32, 3) := by decide +kernel
theorem qd_23_7 : decode qm23.2.2.1 7 = .ok (.aload_n 0, 1) := by decide +kernel
theorem qd_23_8 : decode qm23.2.2.1 8 = .ok (.iconst 0, 1) := by decide +kernel
theorem qd_23_9 : decode qm23.2.2.1 9 = .ok (.putfield 28, 3) := by decide +kernel
theorem qd_23_12 : decode qm23.2.2.1 12 = .ok (.aload_n 0, 1) := by decide +kernel
theorem qd_23_13 : decode qm23.2.2.1 13 = .ok (.getfield 9, 3) := by decide +kernel
theorem qd_23_16 : decode qm23.2.2.1 16 = .ok (.iconst 2, 1) := by decide +kernel
theorem qd_23_17 : decode qm23.2.2.1 17 = .ok (.invokevirtual 35, 3) := by decide +kernel
theorem qd_23_20 : decode qm23.2.2.1 20 = .ok (.istore_n 1, 1) := by decide +kernel
theorem qd_23_21 : decode qm23.2.2.1 21 = .ok (.aload_n 0, 1) := by decide +kernel
theorem qd_23_22 : decode qm23.2.2.1 22 = .ok (.getfield 9, 3) := by decide +kernel
theorem qd_23_25 : decode qm23.2.2.1 25 = .ok (.iload_n 1, 1) := by decide +kernel
theorem qd_23_26 : decode qm23.2.2.1 26 = .ok (.iconst 1, 1) := by decide +kernel
theorem qd_23_27 : decode qm23.2.2.1 27 = .ok (.if_icmp .lt 7, 3) := by decide +kernel
theorem qd_23_30 : decode qm23.2.2.1 30 = .ok (.iconst 1, 1) := by decide +kernel
theorem qd_23_31 : decode qm23.2.2.1 31 = .ok (.goto 4, 3) := by decide +kernel
theorem qd_23_34 : decode qm23.2.2.1 34 = .ok (.iconst 0, 1) := by decide +kernel
theorem qd_23_35 : decode qm23.2.2.1 35 = .ok (.aload_n 0, 1) := by decide +kernel
theorem qd_23_36 : decode qm23.2.2.1 36 = .ok (.getfield 9, 3) := by decide +kernel
theorem qd_23_39 : decode qm23.2.2.1 39 = .ok (.invokevirtual 41, 3) := by decide +kernel
theorem qd_23_42 : decode qm23.2.2.1 42 = .ok (.iconst 2, 1) := by decide +kernel
theorem qd_23_43 : decode qm23.2.2.1 43 = .ok (.isub, 1) := by decide +kernel
theorem qd_23_44 : decode qm23.2.2.1 44 = .ok (.invokevirtual 45, 3) := by decide +kernel
theorem qd_23_47 : decode qm23.2.2.1 47 = .ok (.aload_n 0, 1) := by decide +kernel
theorem qd_23_48 : decode qm23.2.2.1 48 = .ok (.getfield 20, 3) := by decide +kernel
theorem qd_23_51 : decode qm23.2.2.1 51 = .ok (.iconst 0, 1) := by decide +kernel
theorem qd_23_52 : decode qm23.2.2.1 52 = .ok (.invokevirtual 49, 3) := by decide +kernel
theorem qd_23_55 : decode qm23.2.2.1 55 = .ok (.pop, 1) := by decide +kernel
theorem qd_23_56 : decode qm23.2.2.1 56 = .ok (.iconst 1, 1) := by decide +kernel
theorem qd_23_57 : decode qm23.2.2.1 57 = .ok (.istore_n 2, 1) := by decide +kernel
theorem qd_23_58 : decode qm23.2.2.1 58 = .ok (.iload_n 2, 1) := by decide +kernel
theorem qd_23_59 : decode qm23.2.2.1 59 = .ok (.iload_n 1, 1) := by decide +kernel
theorem qd_23_60 : decode qm23.2.2.1 60 = .ok (.if_icmp .ge 105, 3) := by decide +kernel
theorem qd_23_63 : decode qm23.2.2.1 63 = .ok (.aload_n 0, 1) := by decide +kernel
theorem qd_23_64 : decode qm23.2.2.1 64 = .ok (.getfield 9, 3) := by decide +kernel
theorem qd_23_67 : decode qm23.2.2.1 67 = .ok (.invokevirtual 41, 3) := by decide +kernel
theorem qd_23_70 : decode qm23.2.2.1 70 = .ok (.istore_n 3, 1) := by decide +kernel
theorem qd_23_71 : decode qm23.2.2.1 71 = .ok (.aload_n 0, 1) := by decide +kernel
theorem qd_23_72 : decode qm23.2.2.1 72 = .ok (.getfield 9, 3) := by decide +kernel
theorem qd_23_75 : decode qm23.2.2.1 75 = .ok (.iconst 1, 1) := by decide +kernel
theorem qd_23_76 : decode qm23.2.2.1 76 = .ok (.invokevirtual 35, 3) := by decide +kernel
theorem qd_23_79 : decode qm23.2.2.1 79 = .ok (.istore 4, 2) := by decide +kernel
theorem qd_23_81 : decode qm23.2.2.1 81 = .ok (.iload 4, 2) := by decide +kernel
theorem qd_23_83 : decode qm23.2.2.1 83 = .ok (.iconst 5, 1) := by decide +kernel
theorem qd_23_84 : decode qm23.2.2.1 84 = .ok (.if_icmp .eq 10, 3) := by decide +kernel
theorem qd_23_87 : decode qm23.2.2.1 87 = .ok (.iload 4, 2) := by decide +kernel
theorem qd_23_89 : decode qm23.2.2.1 89 = .ok (.bipush 6, 2) := by decide +kernel
theorem qd_23_91 : decode qm23.2.2.1 91 = .ok (.if_icmp .ne 7, 3) := by decide +kernel
theorem qd_23_94 : decode qm23.2.2.1 94 = .ok (.iconst 1, 1) := by decide +kernel
theorem qd_23_95 : decode qm23.2.2.1 95 = .ok (.goto 4, 3) := by decide +kernel
theorem qd_23_98 : decode qm23.2.2.1 98 = .ok (.iconst 0, 1) := by decide +kernel
theorem qd_23_99 : decode qm23.2.2.1 99 = .ok (.istore 5, 2) := by decide +kernel
theorem qd_23_101 : decode qm23.2.2.1 101 = .ok (.aload_n 0, 1) := by decide +kernel
theorem qd_23_102 : decode qm23.2.2.1 102 = .ok (.getfield 9, 3) := by decide +kernel
theorem qd_23_105 : decode qm23.2.2.1 105 = .ok (.iload 5, 2) := by decide +kernel
theorem qd_23_107 : decode qm23.2.2.1 107 = .ok (.ifCond .eq 10, 3) := by decide +kernel
theorem qd_23_110 : decode qm23.2.2.1 110 = .ok (.iload_n 2, 1) := by decide +kernel
theorem qd_23_111 : decode qm23.2.2.1 111 = .ok (.iconst 1, 1) := by decide +kernel
theorem qd_23_112 : decode qm23.2.2.1 112 = .ok (.iadd, 1) := by decide +kernel
theorem qd_23_113 : decode qm23.2.2.1 113 = .ok (.iload_n 1, 1) := by decide +kernel
theorem qd_23_114 : decode qm23.2.2.1 114 = .ok (.if_icmp .ge 7, 3) := by decide +kernel
theorem qd_23_117 : decode qm23.2.2.1 117 = .ok (.iconst 1, 1) := by decide +kernel
theorem qd_23_118 : decode qm23.2.2.1 118 = .ok (.goto 4, 3) := by decide +kernel
theorem qd_23_121 : decode qm23.2.2.1 121 = .ok (.iconst 0, 1) := by decide +kernel
theorem qd_23_122 : decode qm23.2.2.1 122 = .ok (.iload_n 3, 1) := by decide +kernel
theorem qd_23_123 : decode qm23.2.2.1 123 = .ok (.invokevirtual 45, 3) := by decide +kernel
theorem qd_23_126 : decode qm23.2.2.1 126 = .ok (.aload_n 0, 1) := by decide +kernel
theorem qd_23_127 : decode qm23.2.2.1 127 = .ok (.aload_n 0, 1) := by decide +kernel
theorem qd_23_128 : decode qm23.2.2.1 128 = .ok (.getfield 20, 3) := by decide +kernel
theorem qd_23_131 : decode qm23.2.2.1 131 = .ok (.iload 4, 2) := by decide +kernel
theorem qd_23_133 : decode qm23.2.2.1 133 = .ok (.invokevirtual 49, 3) := by decide +kernel
theorem qd_23_136 : decode qm23.2.2.1 136 = .ok (.iload 4, 2) := by decide +kernel
theorem qd_23_138 : decode qm23.2.2.1 138 = .ok (.iload_n 3, 1) := by decide +kernel
theorem qd_23_139 : decode qm23.2.2.1 139 = .ok (.invokevirtual 52, 3) := by decide +kernel
theorem qd_23_142 : decode qm23.2.2.1 142 = .ok (.iload 5, 2) := by decide +kernel
theorem qd_23_144 : decode qm23.2.2.1 144 = .ok (.ifCond .eq 15, 3) := by decide +kernel
theorem qd_23_147 : decode qm23.2.2.1 147 = .ok (.iinc 2 1, 3) := by decide +kernel
theorem qd_23_150 : decode qm23.2.2.1 150 = .ok (.aload_n 0, 1) := by decide +kernel
theorem qd_23_151 : decode qm23.2.2.1 151 = .ok (.getfield 20, 3) := by decide +kernel
theorem qd_23_154 : decode qm23.2.2.1 154 = .ok (.iconst 0, 1) := by decide +kernel
theorem qd_23_155 : decode qm23.2.2.1 155 = .ok (.invokevirtual 49, 3) := by decide +kernel
theorem qd_23_158 : decode qm23.2.2.1 158 = .ok (.pop, 1) := by decide +kernel
theorem qd_23_159 : decode qm23.2.2.1 159 = .ok (.iinc 2 1, 3) := by decide +kernel
theorem qd_23_162 : decode qm23.2.2.1 162 = .ok (.goto (-104), 3) := by decide +kernel
theorem qd_23_165 : decode qm23.2.2.1 165 = .ok (.return_, 1) := by decide +kernel
theorem qd_24_0 : decode qm24.2.2.1 0 = .ok (.aload_n 0, 1) := by decide +kernel
theorem qd_24_1 : decode qm24.2.2.1 1 = .ok (.iconst 0, 1) := by decide +kernel
theorem qd_24_2 : decode qm24.2.2.1 2 = .ok (.putfield 19, 3) := by decide +kernel
theorem qd_24_5 : decode qm24.2.2.1 5 = .ok (.return_, 1) := by decide +kernel
theorem qd_25_0 : decode qm25.2.2.1 0 = .ok (.aload_n 0, 1) := by decide +kernel
theorem qd_25_1 : decode qm25.2.2.1 1 = .ok (.getfield 19, 3) := by decide +kernel
theorem qd_25_4 : decode qm25.2.2.1 4 = .ok (.aload_n 0, 1) := by decide +kernel
theorem qd_25_5 : decode qm25.2.2.1 5 = .ok (.getfield 9, 3) := by decide +kernel
theorem qd_25_8 : decode qm25.2.2.1 8 = .ok (.imul, 1) := by decide +kernel
theorem qd_25_9 : decode qm25.2.2.1 9 = .ok (.istore_n 2, 1) := by decide +kernel
theorem qd_25_10 : decode qm25.2.2.1 10 = .ok (.iload_n 2, 1) := by decide +kernel
theorem qd_25_11 : decode qm25.2.2.1 11 = .ok (.aload_n 0, 1) := by decide +kernel
theorem qd_25_12 : decode qm25.2.2.1 12 = .ok (.getfield 9, 3) := by decide +kernel
theorem qd_25_15 : decode qm25.2.2.1 15 = .ok (.iadd, 1) := by decide +kernel
theorem qd_25_16 : decode qm25.2.2.1 16 = .ok (.aload_n 0, 1) := by decide +kernel
theorem qd_25_17 : decode qm25.2.2.1 17 = .ok (.getfield 15, 3) := by decide +kernel
theorem qd_25_20 : decode qm25.2.2.1 20 = .ok (.arraylength, 1) := by decide +kernel
theorem qd_25_21 : decode qm25.2.2.1 21 = .ok (.if_icmp .le 6, 3) := by decide +kernel
theorem qd_25_24 : decode qm25.2.2.1 24 = .ok (.bipush (-2), 2) := by decide +kernel
theorem qd_25_26 : decode qm25.2.2.1 26 = .ok (.ireturn, 1) := by decide +kernel
theorem qd_25_27 : decode qm25.2.2.1 27 = .ok (.aload_n 0, 1) := by decide +kernel
theorem qd_25_28 : decode qm25.2.2.1 28 = .ok (.getfield 15, 3) := by decide +kernel
theorem qd_25_31 : decode qm25.2.2.1 31 = .ok (.iload_n 2, 1) := by decide +kernel
theorem qd_25_32 : decode qm25.2.2.1 32 = .ok (.iload_n 2, 1) := by decide +kernel
theorem qd_25_33 : decode qm25.2.2.1 33 = .ok (.aload_n 0, 1) := by decide +kernel
theorem qd_25_34 : decode qm25.2.2.1 34 = .ok (.getfield 9, 3) := by decide +kernel
theorem qd_25_37 : decode qm25.2.2.1 37 = .ok (.iadd, 1) := by decide +kernel
theorem qd_25_38 : decode qm25.2.2.1 38 = .ok (.iconst 0, 1) := by decide +kernel
theorem qd_25_39 : decode qm25.2.2.1 39 = .ok (.invokestatic 22, 3) := by decide +kernel
theorem qd_25_42 : decode qm25.2.2.1 42 = .ok (.aload_n 0, 1) := by decide +kernel
theorem qd_25_43 : decode qm25.2.2.1 43 = .ok (.getfield 15, 3) := by decide +kernel
theorem qd_25_46 : decode qm25.2.2.1 46 = .ok (.iload_n 2, 1) := by decide +kernel
theorem qd_25_47 : decode qm25.2.2.1 47 = .ok (.iload_n 1, 1) := by decide +kernel
theorem qd_25_48 : decode qm25.2.2.1 48 = .ok (.iastore, 1) := by decide +kernel
theorem qd_25_49 : decode qm25.2.2.1 49 = .ok (.aload_n 0, 1) := by decide +kernel
theorem qd_25_50 : decode qm25.2.2.1 50 = .ok (.dup, 1) := by decide +kernel
theorem qd_25_51 : decode qm25.2.2.1 51 = .ok (.getfield 19, 3) := by decide +kernel
theorem qd_25_54 : decode qm25.2.2.1 54 = .ok (.iconst 1, 1) := by decide +kernel
theorem qd_25_55 : decode qm25.2.2.1 55 = .ok (.iadd, 1) := by decide +kernel
theorem qd_25_56 : decode qm25.2.2.1 56 = .ok (.putfield 19, 3) := by decide +kernel
theorem qd_25_59 : decode qm25.2.2.1 59 = .ok (.aload_n 0, 1) := by decide +kernel
theorem qd_25_60 : decode qm25.2.2.1 60 = .ok (.getfield 19, 3) := by decide +kernel
theorem qd_25_63 : decode qm25.2.2.1 63 = .ok (.iconst 1, 1) := by decide +kernel
theorem qd_25_64 : decode qm25.2.2.1 64 = .ok (.isub, 1) := by decide +kernel
theorem qd_25_65 : decode qm25.2.2.1 65 = .ok (.ireturn, 1) := by decide +kernel
theorem qd_26_0 : decode qm26.2.2.1 0 = .ok (.aload_n 0, 1) := by decide +kernel
theorem qd_26_1 : decode qm26.2.2.1 1 = .ok (.getfield 20, 3) := by decide +kernel
theorem qd_26_4 : decode qm26.2.2.1 4 = .ok (.iload_n 1, 1) := by decide +kernel
theorem qd_26_5 : decode qm26.2.2.1 5 = .ok (.iconst 3, 1) := by decide +kernel
theorem qd_26_6 : decode qm26.2.2.1 6 = .ok (.iload_n 3, 1) := by decide +kernel
theorem qd_26_7 : decode qm26.2.2.1 7 = .ok (.invokevirtual 56, 3) := by decide +kernel
theorem qd_26_10 : decode qm26.2.2.1 10 = .ok (.iload_n 2, 1) := by decide +kernel
theorem qd_26_11 : decode qm26.2.2.1 11 = .ok (.tableswitch 163 1 18 #[85, 163, 93, 93, 113, 113, 123, 123, 143, 143, 143, 143, 163, 163, 153, 123, 143, 143], 85) := by decide +kernel
theorem qd_26_96 : decode qm26.2.2.1 96 = .ok (.aload_n 0, 1) := by decide +kernel
theorem qd_26_97 : decode qm26.2.2.1 97 = .ok (.iload_n 1, 1) := by decide +kernel
theorem qd_26_98 : decode qm26.2.2.1 98 = .ok (.invokevirtual 59, 3) := by decide +kernel
theorem qd_26_101 : decode qm26.2.2.1 101 = .ok (.goto 82, 3) := by decide +kernel
theorem qd_26_104 : decode qm26.2.2.1 104 = .ok (.aload_n 0, 1) := by decide +kernel
theorem qd_26_105 : decode qm26.2.2.1 105 = .ok (.getfield 20, 3) := by decide +kernel
theorem qd_26_108 : decode qm26.2.2.1 108 = .ok (.iload_n 1, 1) := by decide +kernel
theorem qd_26_109 : decode qm26.2.2.1 109 = .ok (.iconst 1, 1) := by decide +kernel
theorem qd_26_110 : decode qm26.2.2.1 110 = .ok (.aload_n 0, 1) := by decide +kernel
theorem qd_26_111 : decode qm26.2.2.1 111 = .ok (.getfield 9, 3) := by decide +kernel
theorem qd_26_114 : decode qm26.2.2.1 114 = .ok (.iconst 4, 1) := by decide +kernel
theorem qd_26_115 : decode qm26.2.2.1 115 = .ok (.invokevirtual 35, 3) := by decide +kernel
theorem qd_26_118 : decode qm26.2.2.1 118 = .ok (.invokevirtual 56, 3) := by decide +kernel
theorem qd_26_121 : decode qm26.2.2.1 121 = .ok (.goto 62, 3) := by decide +kernel
theorem qd_26_124 : decode qm26.2.2.1 124 = .ok (.aload_n 0, 1) := by decide +kernel
theorem qd_26_125 : decode qm26.2.2.1 125 = .ok (.iload_n 1, 1) := by decide +kernel
theorem qd_26_126 : decode qm26.2.2.1 126 = .ok (.iconst 4, 1) := by decide +kernel
theorem qd_26_127 : decode qm26.2.2.1 127 = .ok (.iconst 4, 1) := by decide +kernel
theorem qd_26_128 : decode qm26.2.2.1 128 = .ok (.invokevirtual 63, 3) := by decide +kernel
theorem qd_26_131 : decode qm26.2.2.1 131 = .ok (.goto 52, 3) := by decide +kernel
theorem qd_26_134 : decode qm26.2.2.1 134 = .ok (.aload_n 0, 1) := by decide +kernel
theorem qd_26_135 : decode qm26.2.2.1 135 = .ok (.getfield 20, 3) := by decide +kernel
theorem qd_26_138 : decode qm26.2.2.1 138 = .ok (.iload_n 1, 1) := by decide +kernel
theorem qd_26_139 : decode qm26.2.2.1 139 = .ok (.iconst 1, 1) := by decide +kernel
theorem qd_26_140 : decode qm26.2.2.1 140 = .ok (.aload_n 0, 1) := by decide +kernel
theorem qd_26_141 : decode qm26.2.2.1 141 = .ok (.getfield 9, 3) := by decide +kernel
theorem qd_26_144 : decode qm26.2.2.1 144 = .ok (.iconst 2, 1) := by decide +kernel
theorem qd_26_145 : decode qm26.2.2.1 145 = .ok (.invokevirtual 35, 3) := by decide +kernel
theorem qd_26_148 : decode qm26.2.2.1 148 = .ok (.invokevirtual 56, 3) := by decide +kernel
theorem qd_26_151 : decode qm26.2.2.1 151 = .ok (.goto 32, 3) := by decide +kernel
theorem qd_26_154 : decode qm26.2.2.1 154 = .ok (.aload_n 0, 1) := by decide +kernel
theorem qd_26_155 : decode qm26.2.2.1 155 = .ok (.iload_n 1, 1) := by decide +kernel
theorem qd_26_156 : decode qm26.2.2.1 156 = .ok (.iconst 2, 1) := by decide +kernel
theorem qd_26_157 : decode qm26.2.2.1 157 = .ok (.iconst 2, 1) := by decide +kernel
theorem qd_26_158 : decode qm26.2.2.1 158 = .ok (.invokevirtual 63, 3) := by decide +kernel
theorem qd_26_161 : decode qm26.2.2.1 161 = .ok (.goto 22, 3) := by decide +kernel
theorem qd_26_164 : decode qm26.2.2.1 164 = .ok (.aload_n 0, 1) := by decide +kernel
theorem qd_26_165 : decode qm26.2.2.1 165 = .ok (.iload_n 1, 1) := by decide +kernel
theorem qd_26_166 : decode qm26.2.2.1 166 = .ok (.iconst 1, 1) := by decide +kernel
theorem qd_26_167 : decode qm26.2.2.1 167 = .ok (.iconst 2, 1) := by decide +kernel
theorem qd_26_168 : decode qm26.2.2.1 168 = .ok (.invokevirtual 63, 3) := by decide +kernel
theorem qd_26_171 : decode qm26.2.2.1 171 = .ok (.goto 12, 3) := by decide +kernel
theorem qd_26_174 : decode qm26.2.2.1 174 = .ok (.aload_n 0, 1) := by decide +kernel
theorem qd_26_175 : decode qm26.2.2.1 175 = .ok (.getfield 9, 3) := by decide +kernel
theorem qd_26_178 : decode qm26.2.2.1 178 = .ok (.iconst 0, 1) := by decide +kernel
theorem qd_26_179 : decode qm26.2.2.1 179 = .ok (.iload_n 3, 1) := by decide +kernel
theorem qd_26_180 : decode qm26.2.2.1 180 = .ok (.invokevirtual 45, 3) := by decide +kernel
theorem qd_26_183 : decode qm26.2.2.1 183 = .ok (.return_, 1) := by decide +kernel
theorem qd_27_0 : decode qm27.2.2.1 0 = .ok (.iload_n 1, 1) := by decide +kernel
theorem qd_27_1 : decode qm27.2.2.1 1 = .ok (.ifCond .lt 37, 3) := by decide +kernel
theorem qd_27_4 : decode qm27.2.2.1 4 = .ok (.iload_n 1, 1) := by decide +kernel
theorem qd_27_5 : decode qm27.2.2.1 5 = .ok (.aload_n 0, 1) := by decide +kernel
theorem qd_27_6 : decode qm27.2.2.1 6 = .ok (.getfield 19, 3) := by decide +kernel
theorem qd_27_9 : decode qm27.2.2.1 9 = .ok (.if_icmp .ge 29, 3) := by decide +kernel
theorem qd_27_12 : decode qm27.2.2.1 12 = .ok (.iload_n 2, 1) := by decide +kernel
theorem qd_27_13 : decode qm27.2.2.1 13 = .ok (.ifCond .lt 25, 3) := by decide +kernel
theorem qd_27_16 : decode qm27.2.2.1 16 = .ok (.iload_n 2, 1) := by decide +kernel
theorem qd_27_17 : decode qm27.2.2.1 17 = .ok (.aload_n 0, 1) := by decide +kernel
theorem qd_27_18 : decode qm27.2.2.1 18 = .ok (.getfield 9, 3) := by decide +kernel
theorem qd_27_21 : decode qm27.2.2.1 21 = .ok (.if_icmp .ge 17, 3) := by decide +kernel
theorem qd_27_24 : decode qm27.2.2.1 24 = .ok (.aload_n 0, 1) := by decide +kernel
theorem qd_27_25 : decode qm27.2.2.1 25 = .ok (.getfield 15, 3) := by decide +kernel
theorem qd_27_28 : decode qm27.2.2.1 28 = .ok (.iload_n 1, 1) := by decide +kernel
theorem qd_27_29 : decode qm27.2.2.1 29 = .ok (.aload_n 0, 1) := by decide +kernel
theorem qd_27_30 : decode qm27.2.2.1 30 = .ok (.getfield 9, 3) := by decide +kernel
theorem qd_27_33 : decode qm27.2.2.1 33 = .ok (.imul, 1) := by decide +kernel
theorem qd_27_34 : decode qm27.2.2.1 34 = .ok (.iload_n 2, 1) := by decide +kernel
theorem qd_27_35 : decode qm27.2.2.1 35 = .ok (.iadd, 1) := by decide +kernel
theorem qd_27_36 : decode qm27.2.2.1 36 = .ok (.iload_n 3, 1) := by decide +kernel
theorem qd_27_37 : decode qm27.2.2.1 37 = .ok (.iastore, 1) := by decide +kernel
theorem qd_27_38 : decode qm27.2.2.1 38 = .ok (.return_, 1) := by decide +kernel
theorem qd_28_0 : decode qm28.2.2.1 0 = .ok (.aload_n 0, 1) := by decide +kernel
theorem qd_28_1 : decode qm28.2.2.1 1 = .ok (.getfield 9, 3) := by decide +kernel
theorem qd_28_4 : decode qm28.2.2.1 4 = .ok (.iconst 2, 1) := by decide +kernel
theorem qd_28_5 : decode qm28.2.2.1 5 = .ok (.invokevirtual 35, 3) := by decide +kernel
theorem qd_28_8 : decode qm28.2.2.1 8 = .ok (.istore_n 2, 1) := by decide +kernel
theorem qd_28_9 : decode qm28.2.2.1 9 = .ok (.aload_n 0, 1) := by decide +kernel
theorem qd_28_10 : decode qm28.2.2.1 10 = .ok (.getfield 9, 3) := by decide +kernel
theorem qd_28_13 : decode qm28.2.2.1 13 = .ok (.iload_n 2, 1) := by decide +kernel
theorem qd_28_14 : decode qm28.2.2.1 14 = .ok (.invokevirtual 66, 3) := by decide +kernel
theorem qd_28_17 : decode qm28.2.2.1 17 = .ok (.aload_n 0, 1) := by decide +kernel
theorem qd_28_18 : decode qm28.2.2.1 18 = .ok (.getfield 9, 3) := by decide +kernel
theorem qd_28_21 : decode qm28.2.2.1 21 = .ok (.invokevirtual 41, 3) := by decide +kernel
theorem qd_28_24 : decode qm28.2.2.1 24 = .ok (.iload_n 2, 1) := by decide +kernel
theorem qd_28_25 : decode qm28.2.2.1 25 = .ok (.iadd, 1) := by decide +kernel
theorem qd_28_26 : decode qm28.2.2.1 26 = .ok (.istore_n 3, 1) := by decide +kernel
theorem qd_28_27 : decode qm28.2.2.1 27 = .ok (.aload_n 0, 1) := by decide +kernel
theorem qd_28_28 : decode qm28.2.2.1 28 = .ok (.getfield 28, 3) := by decide +kernel
theorem qd_28_31 : decode qm28.2.2.1 31 = .ok (.istore 4, 2) := by decide +kernel
theorem qd_28_33 : decode qm28.2.2.1 33 = .ok (.iconst 0, 1) := by decide +kernel
theorem qd_28_34 : decode qm28.2.2.1 34 = .ok (.istore 5, 2) := by decide +kernel
theorem qd_28_36 : decode qm28.2.2.1 36 = .ok (.iload 5, 2) := by decide +kernel
theorem qd_28_38 : decode qm28.2.2.1 38 = .ok (.iload_n 2, 1) := by decide +kernel
theorem qd_28_39 : decode qm28.2.2.1 39 = .ok (.if_icmp .ge 25, 3) := by decide +kernel
theorem qd_28_42 : decode qm28.2.2.1 42 = .ok (.aload_n 0, 1) := by decide +kernel
theorem qd_28_43 : decode qm28.2.2.1 43 = .ok (.getfield 9, 3) := by decide +kernel
theorem qd_28_46 : decode qm28.2.2.1 46 = .ok (.invokevirtual 41, 3) := by decide +kernel
theorem qd_28_49 : decode qm28.2.2.1 49 = .ok (.iload_n 3, 1) := by decide +kernel
theorem qd_28_50 : decode qm28.2.2.1 50 = .ok (.if_icmp .ge 14, 3) := by decide +kernel
theorem qd_28_53 : decode qm28.2.2.1 53 = .ok (.aload_n 0, 1) := by decide +kernel
theorem qd_28_54 : decode qm28.2.2.1 54 = .ok (.iload_n 3, 1) := by decide +kernel
theorem qd_28_55 : decode qm28.2.2.1 55 = .ok (.invokevirtual 69, 3) := by decide +kernel
theorem qd_28_58 : decode qm28.2.2.1 58 = .ok (.iinc 5 1, 3) := by decide +kernel
theorem qd_28_61 : decode qm28.2.2.1 61 = .ok (.goto (-25), 3) := by decide +kernel
theorem qd_28_64 : decode qm28.2.2.1 64 = .ok (.aload_n 0, 1) := by decide +kernel
theorem qd_28_65 : decode qm28.2.2.1 65 = .ok (.getfield 20, 3) := by decide +kernel
theorem qd_28_68 : decode qm28.2.2.1 68 = .ok (.iload_n 1, 1) := by decide +kernel
theorem qd_28_69 : decode qm28.2.2.1 69 = .ok (.iconst 4, 1) := by decide +kernel
theorem qd_28_70 : decode qm28.2.2.1 70 = .ok (.iload 4, 2) := by decide +kernel
theorem qd_28_72 : decode qm28.2.2.1 72 = .ok (.invokevirtual 56, 3) := by decide +kernel
theorem qd_28_75 : decode qm28.2.2.1 75 = .ok (.aload_n 0, 1) := by decide +kernel
theorem qd_28_76 : decode qm28.2.2.1 76 = .ok (.getfield 20, 3) := by decide +kernel
theorem qd_28_79 : decode qm28.2.2.1 79 = .ok (.iload_n 1, 1) := by decide +kernel
theorem qd_28_80 : decode qm28.2.2.1 80 = .ok (.iconst 1, 1) := by decide +kernel
theorem qd_28_81 : decode qm28.2.2.1 81 = .ok (.aload_n 0, 1) := by decide +kernel
theorem qd_28_82 : decode qm28.2.2.1 82 = .ok (.getfield 28, 3) := by decide +kernel
theorem qd_28_85 : decode qm28.2.2.1 85 = .ok (.iload 4, 2) := by decide +kernel
theorem qd_28_87 : decode qm28.2.2.1 87 = .ok (.isub, 1) := by decide +kernel
theorem qd_28_88 : decode qm28.2.2.1 88 = .ok (.invokevirtual 56, 3) := by decide +kernel
theorem qd_28_91 : decode qm28.2.2.1 91 = .ok (.return_, 1) := by decide +kernel
theorem qd_29_0 : decode qm29.2.2.1 0 = .ok (.iload_n 1, 1) := by decide +kernel
theorem qd_29_1 : decode qm29.2.2.1 1 = .ok (.ifCond .lt 16, 3) := by decide +kernel
theorem qd_29_4 : decode qm29.2.2.1 4 = .ok (.iload_n 1, 1) := by decide +kernel
theorem qd_29_5 : decode qm29.2.2.1 5 = .ok (.aload_n 0, 1) := by decide +kernel
theorem qd_29_6 : decode qm29.2.2.1 6 = .ok (.getfield 15, 3) := by decide +kernel
theorem qd_29_9 : decode qm29.2.2.1 9 = .ok (.aload_n 0, 1) := by decide +kernel
theorem qd_29_10 : decode qm29.2.2.1 10 = .ok (.getfield 19, 3) := by decide +kernel
theorem qd_29_13 : decode qm29.2.2.1 13 = .ok (.isub, 1) := by decide +kernel
theorem qd_29_14 : decode qm29.2.2.1 14 = .ok (.if_icmp .le 19, 3) := by decide +kernel
theorem qd_29_17 : decode qm29.2.2.1 17 = .ok (.aload_n 0, 1) := by decide +kernel
theorem qd_29_18 : decode qm29.2.2.1 18 = .ok (.aload_n 0, 1) := by decide +kernel
theorem qd_29_19 : decode qm29.2.2.1 19 = .ok (.getfield 15, 3) := by decide +kernel
theorem qd_29_22 : decode qm29.2.2.1 22 = .ok (.putfield 22, 3) := by decide +kernel
theorem qd_29_25 : decode qm29.2.2.1 25 = .ok (.new 25, 3) := by decide +kernel
theorem qd_29_33 : decode qm29.2.2.1 33 = .ok (.return_, 1) := by decide +kernel
theorem qd_30_0 : decode qm30.2.2.1 0 = .ok (.aload_n 0, 1) := by decide +kernel
theorem qd_30_1 : decode qm30.2.2.1 1 = .ok (.getfield 9, 3) := by decide +kernel
theorem qd_30_4 : decode qm30.2.2.1 4 = .ok (.invokevirtual 41, 3) := by decide +kernel
theorem qd_30_7 : decode qm30.2.2.1 7 = .ok (.istore_n 2, 1) := by decide +kernel
theorem qd_30_8 : decode qm30.2.2.1 8 = .ok (.aload_n 0, 1) := by decide +kernel
theorem qd_30_9 : decode qm30.2.2.1 9 = .ok (.getfield 9, 3) := by decide +kernel
theorem qd_30_12 : decode qm30.2.2.1 12 = .ok (.iconst 1, 1) := by decide +kernel
theorem qd_30_13 : decode qm30.2.2.1 13 = .ok (.invokevirtual 35, 3) := by decide +kernel
theorem qd_30_16 : decode qm30.2.2.1 16 = .ok (.istore_n 3, 1) := by decide +kernel
theorem qd_30_17 : decode qm30.2.2.1 17 = .ok (.iload_n 3, 1) := by decide +kernel
theorem qd_30_18 : decode qm30.2.2.1 18 = .ok (.invokestatic 72, 3) := by decide +kernel
theorem qd_30_21 : decode qm30.2.2.1 21 = .ok (.istore 4, 2) := by decide +kernel
theorem qd_30_23 : decode qm30.2.2.1 23 = .ok (.aload_n 0, 1) := by decide +kernel
theorem qd_30_24 : decode qm30.2.2.1 24 = .ok (.getfield 9, 3) := by decide +kernel
theorem qd_30_27 : decode qm30.2.2.1 27 = .ok (.iload 4, 2) := by decide +kernel
theorem qd_30_29 : decode qm30.2.2.1 29 = .ok (.ifCond .lt 21, 3) := by decide +kernel
theorem qd_30_32 : decode qm30.2.2.1 32 = .ok (.aload_n 0, 1) := by decide +kernel
theorem qd_30_33 : decode qm30.2.2.1 33 = .ok (.getfield 9, 3) := by decide +kernel
theorem qd_30_36 : decode qm30.2.2.1 36 = .ok (.invokevirtual 41, 3) := by decide +kernel
theorem qd_30_39 : decode qm30.2.2.1 39 = .ok (.iload 4, 2) := by decide +kernel
theorem qd_30_41 : decode qm30.2.2.1 41 = .ok (.iadd, 1) := by decide +kernel
theorem qd_30_42 : decode qm30.2.2.1 42 = .ok (.iload_n 1, 1) := by decide +kernel
theorem qd_30_43 : decode qm30.2.2.1 43 = .ok (.if_icmp .gt 7, 3) := by decide +kernel
theorem qd_30_46 : decode qm30.2.2.1 46 = .ok (.iconst 1, 1) := by decide +kernel
theorem qd_30_47 : decode qm30.2.2.1 47 = .ok (.goto 4, 3) := by decide +kernel
theorem qd_30_50 : decode qm30.2.2.1 50 = .ok (.iconst 0, 1) := by decide +kernel
theorem qd_30_51 : decode qm30.2.2.1 51 = .ok (.iload_n 2, 1) := by decide +kernel
theorem qd_30_52 : decode qm30.2.2.1 52 = .ok (.invokevirtual 45, 3) := by decide +kernel
theorem qd_30_55 : decode qm30.2.2.1 55 = .ok (.iload 4, 2) := by decide +kernel
theorem qd_30_57 : decode qm30.2.2.1 57 = .ok (.ifCond .ne 7, 3) := by decide +kernel
theorem qd_30_60 : decode qm30.2.2.1 60 = .ok (.iload_n 3, 1) := by decide +kernel
theorem qd_30_61 : decode qm30.2.2.1 61 = .ok (.goto 20, 3) := by decide +kernel
theorem qd_30_64 : decode qm30.2.2.1 64 = .ok (.iload 4, 2) := by decide +kernel
theorem qd_30_66 : decode qm30.2.2.1 66 = .ok (.iconst 1, 1) := by decide +kernel
theorem qd_30_67 : decode qm30.2.2.1 67 = .ok (.if_icmp .ne 10, 3) := by decide +kernel
theorem qd_30_70 : decode qm30.2.2.1 70 = .ok (.iload_n 3, 1) := by decide +kernel
theorem qd_30_71 : decode qm30.2.2.1 71 = .ok (.bipush 31, 2) := by decide +kernel
theorem qd_30_73 : decode qm30.2.2.1 73 = .ok (.iand, 1) := by decide +kernel
theorem qd_30_74 : decode qm30.2.2.1 74 = .ok (.goto 7, 3) := by decide +kernel
theorem qd_30_77 : decode qm30.2.2.1 77 = .ok (.iload_n 3, 1) := by decide +kernel
theorem qd_30_78 : decode qm30.2.2.1 78 = .ok (.bipush 15, 2) := by decide +kernel
theorem qd_30_80 : decode qm30.2.2.1 80 = .ok (.iand, 1) := by decide +kernel
theorem qd_30_81 : decode qm30.2.2.1 81 = .ok (.istore 5, 2) := by decide +kernel
theorem qd_30_83 : decode qm30.2.2.1 83 = .ok (.iconst 0, 1) := by decide +kernel
theorem qd_30_84 : decode qm30.2.2.1 84 = .ok (.istore 6, 2) := by decide +kernel
theorem qd_30_86 : decode qm30.2.2.1 86 = .ok (.iload 6, 2) := by decide +kernel
theorem qd_30_88 : decode qm30.2.2.1 88 = .ok (.iload 4, 2) := by decide +kernel
theorem qd_30_90 : decode qm30.2.2.1 90 = .ok (.if_icmp .ge 61, 3) := by decide +kernel
theorem qd_30_93 : decode qm30.2.2.1 93 = .ok (.aload_n 0, 1) := by decide +kernel
theorem qd_30_94 : decode qm30.2.2.1 94 = .ok (.getfield 9, 3) := by decide +kernel
theorem qd_30_97 : decode qm30.2.2.1 97 = .ok (.iconst 1, 1) := by decide +kernel
theorem qd_30_98 : decode qm30.2.2.1 98 = .ok (.invokevirtual 35, 3) := by decide +kernel
theorem qd_30_101 : decode qm30.2.2.1 101 = .ok (.istore 7, 2) := by decide +kernel
theorem qd_30_103 : decode qm30.2.2.1 103 = .ok (.aload_n 0, 1) := by decide +kernel
theorem qd_30_104 : decode qm30.2.2.1 104 = .ok (.getfield 9, 3) := by decide +kernel
theorem qd_30_107 : decode qm30.2.2.1 107 = .ok (.iload 7, 2) := by decide +kernel
theorem qd_30_109 : decode qm30.2.2.1 109 = .ok (.sipush 128, 3) := by decide +kernel
theorem qd_30_112 : decode qm30.2.2.1 112 = .ok (.if_icmp .lt 15, 3) := by decide +kernel
theorem qd_30_115 : decode qm30.2.2.1 115 = .ok (.iload 7, 2) := by decide +kernel
theorem qd_30_117 : decode qm30.2.2.1 117 = .ok (.sipush 191, 3) := by decide +kernel
theorem qd_30_120 : decode qm30.2.2.1 120 = .ok (.if_icmp .gt 7, 3) := by decide +kernel
theorem qd_30_123 : decode qm30.2.2.1 123 = .ok (.iconst 1, 1) := by decide +kernel
theorem qd_30_124 : decode qm30.2.2.1 124 = .ok (.goto 4, 3) := by decide +kernel
theorem qd_30_127 : decode qm30.2.2.1 127 = .ok (.iconst 0, 1) := by decide +kernel
theorem qd_30_128 : decode qm30.2.2.1 128 = .ok (.iload_n 2, 1) := by decide +kernel
theorem qd_30_129 : decode qm30.2.2.1 129 = .ok (.invokevirtual 45, 3) := by decide +kernel
theorem qd_30_132 : decode qm30.2.2.1 132 = .ok (.bipush 64, 2) := by decide +kernel
theorem qd_30_134 : decode qm30.2.2.1 134 = .ok (.iload 5, 2) := by decide +kernel
theorem qd_30_136 : decode qm30.2.2.1 136 = .ok (.imul, 1) := by decide +kernel
theorem qd_30_137 : decode qm30.2.2.1 137 = .ok (.iload 7, 2) := by decide +kernel
theorem qd_30_139 : decode qm30.2.2.1 139 = .ok (.bipush 63, 2) := by decide +kernel
theorem qd_30_141 : decode qm30.2.2.1 141 = .ok (.iand, 1) := by decide +kernel
theorem qd_30_142 : decode qm30.2.2.1 142 = .ok (.iadd, 1) := by decide +kernel
theorem qd_30_143 : decode qm30.2.2.1 143 = .ok (.istore 5, 2) := by decide +kernel
theorem qd_30_145 : decode qm30.2.2.1 145 = .ok (.iinc 6 1, 3) := by decide +kernel
theorem qd_30_148 : decode qm30.2.2.1 148 = .ok (.goto (-62), 3) := by decide +kernel
theorem qd_30_151 : decode qm30.2.2.1 151 = .ok (.aload_n 0, 1) := by decide +kernel
theorem qd_30_152 : decode qm30.2.2.1 152 = .ok (.getfield 28, 3) := by decide +kernel
theorem qd_30_155 : decode qm30.2.2.1 155 = .ok (.aload_n 0, 1) := by decide +kernel
theorem qd_30_156 : decode qm30.2.2.1 156 = .ok (.getfield 24, 3) := by decide +kernel
theorem qd_30_159 : decode qm30.2.2.1 159 = .ok (.arraylength, 1) := by decide +kernel
theorem qd_30_160 : decode qm30.2.2.1 160 = .ok (.if_icmp .ge 24, 3) := by decide +kernel
theorem qd_30_163 : decode qm30.2.2.1 163 = .ok (.aload_n 0, 1) := by decide +kernel
theorem qd_30_164 : decode qm30.2.2.1 164 = .ok (.getfield 24, 3) := by decide +kernel
theorem qd_30_167 : decode qm30.2.2.1 167 = .ok (.aload_n 0, 1) := by decide +kernel
theorem qd_30_168 : decode qm30.2.2.1 168 = .ok (.getfield 28, 3) := by decide +kernel
theorem qd_30_171 : decode qm30.2.2.1 171 = .ok (.iload 5, 2) := by decide +kernel
theorem qd_30_173 : decode qm30.2.2.1 173 = .ok (.iastore, 1) := by decide +kernel
theorem qd_30_174 : decode qm30.2.2.1 174 = .ok (.aload_n 0, 1) := by decide +kernel
theorem qd_30_175 : decode qm30.2.2.1 175 = .ok (.dup, 1) := by decide +kernel
theorem qd_30_176 : decode qm30.2.2.1 176 = .ok (.getfield 28, 3) := by decide +kernel
theorem qd_30_179 : decode qm30.2.2.1 179 = .ok (.iconst 1, 1) := by decide +kernel
theorem qd_30_180 : decode qm30.2.2.1 180 = .ok (.iadd, 1) := by decide +kernel
theorem qd_30_181 : decode qm30.2.2.1 181 = .ok (.putfield 28, 3) := by decide +kernel
theorem qd_30_184 : decode qm30.2.2.1 184 = .ok (.return_, 1) := by decide +kernel
theorem qd_31_0 : decode qm31.2.2.1 0 = .ok (.iload_n 0, 1) := by decide +kernel
theorem qd_31_1 : decode qm31.2.2.1 1 = .ok (.iconst 1, 1) := by decide +kernel
theorem qd_31_2 : decode qm31.2.2.1 2 = .ok (.if_icmp .lt 11, 3) := by decide +kernel
theorem qd_31_5 : decode qm31.2.2.1 5 = .ok (.iload_n 0, 1) := by decide +kernel
theorem qd_31_6 : decode qm31.2.2.1 6 = .ok (.bipush 127, 2) := by decide +kernel
theorem qd_31_8 : decode qm31.2.2.1 8 = .ok (.if_icmp .gt 5, 3) := by decide +kernel
theorem qd_31_11 : decode qm31.2.2.1 11 = .ok (.iconst 0, 1) := by decide +kernel
theorem qd_31_12 : decode qm31.2.2.1 12 = .ok (.ireturn, 1) := by decide +kernel
theorem qd_31_13 : decode qm31.2.2.1 13 = .ok (.iload_n 0, 1) := by decide +kernel
theorem qd_31_14 : decode qm31.2.2.1 14 = .ok (.sipush 192, 3) := by decide +kernel
theorem qd_31_17 : decode qm31.2.2.1 17 = .ok (.if_icmp .lt 12, 3) := by decide +kernel
theorem qd_31_20 : decode qm31.2.2.1 20 = .ok (.iload_n 0, 1) := by decide +kernel
theorem qd_31_21 : decode qm31.2.2.1 21 = .ok (.sipush 223, 3) := by decide +kernel
theorem qd_31_24 : decode qm31.2.2.1 24 = .ok (.if_icmp .gt 5, 3) := by decide +kernel
theorem qd_31_27 : decode qm31.2.2.1 27 = .ok (.iconst 1, 1) := by decide +kernel
theorem qd_31_28 : decode qm31.2.2.1 28 = .ok (.ireturn, 1) := by decide +kernel
theorem qd_31_29 : decode qm31.2.2.1 29 = .ok (.iload_n 0, 1) := by decide +kernel
theorem qd_31_30 : decode qm31.2.2.1 30 = .ok (.sipush 224, 3) := by decide +kernel
theorem qd_31_33 : decode qm31.2.2.1 33 = .ok (.if_icmp .lt 14, 3) := by decide +kernel
theorem qd_31_36 : decode qm31.2.2.1 36 = .ok (.iload_n 0, 1) := by decide +kernel
theorem qd_31_37 : decode qm31.2.2.1 37 = .ok (.sipush 239, 3) := by decide +kernel
theorem qd_31_40 : decode qm31.2.2.1 40 = .ok (.if_icmp .gt 7, 3) := by decide +kernel
theorem qd_31_43 : decode qm31.2.2.1 43 = .ok (.iconst 2, 1) := by decide +kernel
theorem qd_31_44 : decode qm31.2.2.1 44 = .ok (.goto 4, 3) := by decide +kernel
theorem qd_31_47 : decode qm31.2.2.1 47 = .ok (.iconst (-1), 1) := by decide +kernel
theorem qd_31_48 : decode qm31.2.2.1 48 = .ok (.ireturn, 1) := by decide +kernel
theorem qd_32_0 : decode qm32.2.2.1 0 = .ok (.aload_n 0, 1) := by decide +kernel
theorem qd_32_1 : decode qm32.2.2.1 1 = .ok (.getfield 20, 3) := by decide +kernel
theorem qd_32_4 : decode qm32.2.2.1 4 = .ok (.iload_n 1, 1) := by decide +kernel
theorem qd_32_5 : decode qm32.2.2.1 5 = .ok (.iconst 1, 1) := by decide +kernel
theorem qd_32_6 : decode qm32.2.2.1 6 = .ok (.aload_n 0, 1) := by decide +kernel
theorem qd_32_7 : decode qm32.2.2.1 7 = .ok (.getfield 9, 3) := by decide +kernel
theorem qd_32_10 : decode qm32.2.2.1 10 = .ok (.iload_n 2, 1) := by decide +kernel
theorem qd_32_11 : decode qm32.2.2.1 11 = .ok (.invokevirtual 35, 3) := by decide +kernel
theorem qd_32_14 : decode qm32.2.2.1 14 = .ok (.invokevirtual 56, 3) := by decide +kernel
theorem qd_32_17 : decode qm32.2.2.1 17 = .ok (.aload_n 0, 1) := by decide +kernel
theorem qd_32_18 : decode qm32.2.2.1 18 = .ok (.getfield 20, 3) := by decide +kernel
theorem qd_32_21 : decode qm32.2.2.1 21 = .ok (.iload_n 1, 1) := by decide +kernel
theorem qd_32_22 : decode qm32.2.2.1 22 = .ok (.iconst 2, 1) := by decide +kernel
theorem qd_32_23 : decode qm32.2.2.1 23 = .ok (.aload_n 0, 1) := by decide +kernel
theorem qd_32_24 : decode qm32.2.2.1 24 = .ok (.getfield 9, 3) := by decide +kernel
theorem qd_32_27 : decode qm32.2.2.1 27 = .ok (.iload_n 3, 1) := by decide +kernel
theorem qd_32_28 : decode qm32.2.2.1 28 = .ok (.invokevirtual 35, 3) := by decide +kernel
theorem qd_32_31 : decode qm32.2.2.1 31 = .ok (.invokevirtual 56, 3) := by decide +kernel
theorem qd_32_34 : decode qm32.2.2.1 34 = .ok (.return_, 1) := by decide +kernel
theorem qd_33_0 : decode qm33.2.2.1 0 = .ok (.iconst 1, 1) := by decide +kernel
theorem qd_33_1 : decode qm33.2.2.1 1 = .ok (.istore_n 1, 1) := by decide +kernel
theorem qd_33_2 : decode qm33.2.2.1 2 = .ok (.iload_n 1, 1) := by decide +kernel
theorem qd_33_3 : decode qm33.2.2.1 3 = .ok (.aload_n 0, 1) := by decide +kernel
theorem qd_33_4 : decode qm33.2.2.1 4 = .ok (.getfield 20, 3) := by decide +kernel
theorem qd_33_7 : decode qm33.2.2.1 7 = .ok (.invokevirtual 75, 3) := by decide +kernel
theorem qd_33_10 : decode qm33.2.2.1 10 = .ok (.if_icmp .ge 44, 3) := by decide +kernel
theorem qd_33_13 : decode qm33.2.2.1 13 = .ok (.aload_n 0, 1) := by decide +kernel
theorem qd_33_14 : decode qm33.2.2.1 14 = .ok (.iload_n 1, 1) := by decide +kernel
theorem qd_33_15 : decode qm33.2.2.1 15 = .ok (.invokevirtual 78, 3) := by decide +kernel
theorem qd_33_18 : decode qm33.2.2.1 18 = .ok (.iconst 1, 1) := by decide +kernel
theorem qd_33_19 : decode qm33.2.2.1 19 = .ok (.if_icmp .ne 29, 3) := by decide +kernel
theorem qd_33_22 : decode qm33.2.2.1 22 = .ok (.aload_n 0, 1) := by decide +kernel
theorem qd_33_23 : decode qm33.2.2.1 23 = .ok (.getfield 20, 3) := by decide +kernel
theorem qd_33_26 : decode qm33.2.2.1 26 = .ok (.iload_n 1, 1) := by decide +kernel
theorem qd_33_27 : decode qm33.2.2.1 27 = .ok (.iconst 5, 1) := by decide +kernel
theorem qd_33_28 : decode qm33.2.2.1 28 = .ok (.aload_n 0, 1) := by decide +kernel
theorem qd_33_29 : decode qm33.2.2.1 29 = .ok (.getfield 24, 3) := by decide +kernel
theorem qd_33_32 : decode qm33.2.2.1 32 = .ok (.aload_n 0, 1) := by decide +kernel
theorem qd_33_33 : decode qm33.2.2.1 33 = .ok (.iload_n 1, 1) := by decide +kernel
theorem qd_33_34 : decode qm33.2.2.1 34 = .ok (.invokevirtual 81, 3) := by decide +kernel
theorem qd_33_37 : decode qm33.2.2.1 37 = .ok (.aload_n 0, 1) := by decide +kernel
theorem qd_33_38 : decode qm33.2.2.1 38 = .ok (.iload_n 1, 1) := by decide +kernel
theorem qd_33_39 : decode qm33.2.2.1 39 = .ok (.invokevirtual 84, 3) := by decide +kernel
theorem qd_33_42 : decode qm33.2.2.1 42 = .ok (.invokestatic 87, 3) := by decide +kernel
theorem qd_33_45 : decode qm33.2.2.1 45 = .ok (.invokevirtual 56, 3) := by decide +kernel
theorem qd_33_48 : decode qm33.2.2.1 48 = .ok (.iinc 1 1, 3) := by decide +kernel
theorem qd_33_51 : decode qm33.2.2.1 51 = .ok (.goto (-49), 3) := by decide +kernel
theorem qd_33_54 : decode qm33.2.2.1 54 = .ok (.return_, 1) := by decide +kernel
theorem qd_34_0 : decode qm34.2.2.1 0 = .ok (.aload_n 0, 1) := by decide +kernel
theorem qd_34_1 : decode qm34.2.2.1 1 = .ok (.getfield 19, 3) := by decide +kernel
theorem qd_34_4 : decode qm34.2.2.1 4 = .ok (.ireturn, 1) := by decide +kernel
theorem qd_35_0 : decode qm35.2.2.1 0 = .ok (.aload_n 0, 1) := by decide +kernel
theorem qd_35_1 : decode qm35.2.2.1 1 = .ok (.getfield 20, 3) := by decide +kernel
theorem qd_35_4 : decode qm35.2.2.1 4 = .ok (.iload_n 1, 1) := by decide +kernel
theorem qd_35_5 : decode qm35.2.2.1 5 = .ok (.iconst 0, 1) := by decide +kernel
theorem qd_35_6 : decode qm35.2.2.1 6 = .ok (.invokevirtual 93, 3) := by decide +kernel
theorem qd_35_9 : decode qm35.2.2.1 9 = .ok (.ireturn, 1) := by decide +kernel
theorem qd_36_0 : decode qm36.2.2.1 0 = .ok (.iload_n 1, 1) := by decide +kernel
theorem qd_36_1 : decode qm36.2.2.1 1 = .ok (.ifCond .lt 23, 3) := by decide +kernel
theorem qd_36_4 : decode qm36.2.2.1 4 = .ok (.iload_n 1, 1) := by decide +kernel
theorem qd_36_5 : decode qm36.2.2.1 5 = .ok (.aload_n 0, 1) := by decide +kernel
theorem qd_36_6 : decode qm36.2.2.1 6 = .ok (.getfield 19, 3) := by decide +kernel
theorem qd_36_9 : decode qm36.2.2.1 9 = .ok (.if_icmp .ge 15, 3) := by decide +kernel
theorem qd_36_12 : decode qm36.2.2.1 12 = .ok (.iload_n 2, 1) := by decide +kernel
theorem qd_36_13 : decode qm36.2.2.1 13 = .ok (.ifCond .lt 11, 3) := by decide +kernel
theorem qd_36_16 : decode qm36.2.2.1 16 = .ok (.iload_n 2, 1) := by decide +kernel
theorem qd_36_17 : decode qm36.2.2.1 17 = .ok (.aload_n 0, 1) := by decide +kernel
theorem qd_36_18 : decode qm36.2.2.1 18 = .ok (.getfield 9, 3) := by decide +kernel
theorem qd_36_21 : decode qm36.2.2.1 21 = .ok (.if_icmp .lt 6, 3) := by decide +kernel
theorem qd_36_24 : decode qm36.2.2.1 24 = .ok (.bipush (-2), 2) := by decide +kernel
theorem qd_36_26 : decode qm36.2.2.1 26 = .ok (.ireturn, 1) := by decide +kernel
theorem qd_36_27 : decode qm36.2.2.1 27 = .ok (.aload_n 0, 1) := by decide +kernel
theorem qd_36_28 : decode qm36.2.2.1 28 = .ok (.getfield 15, 3) := by decide +kernel
theorem qd_36_31 : decode qm36.2.2.1 31 = .ok (.iload_n 1, 1) := by decide +kernel
theorem qd_36_32 : decode qm36.2.2.1 32 = .ok (.aload_n 0, 1) := by decide +kernel
theorem qd_36_33 : decode qm36.2.2.1 33 = .ok (.getfield 9, 3) := by decide +kernel
theorem qd_36_36 : decode qm36.2.2.1 36 = .ok (.imul, 1) := by decide +kernel
theorem qd_36_37 : decode qm36.2.2.1 37 = .ok (.iload_n 2, 1) := by decide +kernel
theorem qd_36_38 : decode qm36.2.2.1 38 = .ok (.iadd, 1) := by decide +kernel
theorem qd_36_39 : decode qm36.2.2.1 39 = .ok (.iaload, 1) := by decide +kernel
theorem qd_36_40 : decode qm36.2.2.1 40 = .ok (.ireturn, 1) := by decide +kernel
theorem qd_37_0 : decode qm37.2.2.1 0 = .ok (.aload_n 0, 1) := by decide +kernel
theorem qd_37_1 : decode qm37.2.2.1 1 = .ok (.getfield 20, 3) := by decide +kernel
theorem qd_37_4 : decode qm37.2.2.1 4 = .ok (.iload_n 1, 1) := by decide +kernel
theorem qd_37_5 : decode qm37.2.2.1 5 = .ok (.iconst 4, 1) := by decide +kernel
theorem qd_37_6 : decode qm37.2.2.1 6 = .ok (.invokevirtual 93, 3) := by decide +kernel
theorem qd_37_9 : decode qm37.2.2.1 9 = .ok (.ireturn, 1) := by decide +kernel
theorem qd_38_0 : decode qm38.2.2.1 0 = .ok (.aload_n 0, 1) := by decide +kernel
theorem qd_38_1 : decode qm38.2.2.1 1 = .ok (.getfield 20, 3) := by decide +kernel
theorem qd_38_4 : decode qm38.2.2.1 4 = .ok (.iload_n 1, 1) := by decide +kernel
theorem qd_38_5 : decode qm38.2.2.1 5 = .ok (.iconst 4, 1) := by decide +kernel
theorem qd_38_6 : decode qm38.2.2.1 6 = .ok (.invokevirtual 93, 3) := by decide +kernel
theorem qd_38_9 : decode qm38.2.2.1 9 = .ok (.aload_n 0, 1) := by decide +kernel
theorem qd_38_10 : decode qm38.2.2.1 10 = .ok (.getfield 20, 3) := by decide +kernel
theorem qd_38_13 : decode qm38.2.2.1 13 = .ok (.iload_n 1, 1) := by decide +kernel
theorem qd_38_14 : decode qm38.2.2.1 14 = .ok (.iconst 1, 1) := by decide +kernel
theorem qd_38_15 : decode qm38.2.2.1 15 = .ok (.invokevirtual 93, 3) := by decide +kernel
theorem qd_38_18 : decode qm38.2.2.1 18 = .ok (.iadd, 1) := by decide +kernel
theorem qd_38_19 : decode qm38.2.2.1 19 = .ok (.ireturn, 1) := by decide +kernel
theorem qd_39_0 : decode qm39.2.2.1 0 = .ok (.aload_n 0, 1) := by decide +kernel
theorem qd_39_1 : decode qm39.2.2.1 1 = .ok (.iload_n 1, 1) := by decide +kernel
theorem qd_39_2 : decode qm39.2.2.1 2 = .ok (.iload_n 2, 1) := by decide +kernel
theorem qd_39_3 : decode qm39.2.2.1 3 = .ok (.invokestatic 9, 3) := by decide +kernel
theorem qd_39_6 : decode qm39.2.2.1 6 = .ok (.istore_n 3, 1) := by decide +kernel
theorem qd_39_7 : decode qm39.2.2.1 7 = .ok (.aload_n 0, 1) := by decide +kernel
theorem qd_39_8 : decode qm39.2.2.1 8 = .ok (.iload_n 1, 1) := by decide +kernel
theorem qd_39_9 : decode qm39.2.2.1 9 = .ok (.iload_n 2, 1) := by decide +kernel
theorem qd_39_10 : decode qm39.2.2.1 10 = .ok (.invokestatic 15, 3) := by decide +kernel
theorem qd_39_13 : decode qm39.2.2.1 13 = .ok (.ifCond .eq 8, 3) := by decide +kernel
theorem qd_39_16 : decode qm39.2.2.1 16 = .ok (.iload_n 3, 1) := by decide +kernel
theorem qd_39_17 : decode qm39.2.2.1 17 = .ok (.bipush 12, 2) := by decide +kernel
theorem qd_39_19 : decode qm39.2.2.1 19 = .ok (.ior, 1) := by decide +kernel
theorem qd_39_20 : decode qm39.2.2.1 20 = .ok (.istore_n 3, 1) := by decide +kernel
theorem qd_39_21 : decode qm39.2.2.1 21 = .ok (.aload_n 0, 1) := by decide +kernel
theorem qd_39_22 : decode qm39.2.2.1 22 = .ok (.iload_n 1, 1) := by decide +kernel
theorem qd_39_23 : decode qm39.2.2.1 23 = .ok (.iload_n 2, 1) := by decide +kernel
theorem qd_39_24 : decode qm39.2.2.1 24 = .ok (.invokestatic 19, 3) := by decide +kernel
theorem qd_39_27 : decode qm39.2.2.1 27 = .ok (.iload_n 2, 1) := by decide +kernel
theorem qd_39_28 : decode qm39.2.2.1 28 = .ok (.if_icmp .ne 21, 3) := by decide +kernel
theorem qd_39_31 : decode qm39.2.2.1 31 = .ok (.iload_n 3, 1) := by decide +kernel
theorem qd_39_32 : decode qm39.2.2.1 32 = .ok (.aload_n 0, 1) := by decide +kernel
theorem qd_39_33 : decode qm39.2.2.1 33 = .ok (.iload_n 1, 1) := by decide +kernel
theorem qd_39_34 : decode qm39.2.2.1 34 = .ok (.iaload, 1) := by decide +kernel
theorem qd_39_35 : decode qm39.2.2.1 35 = .ok (.bipush 91, 2) := by decide +kernel
theorem qd_39_37 : decode qm39.2.2.1 37 = .ok (.if_icmp .ne 8, 3) := by decide +kernel
theorem qd_39_40 : decode qm39.2.2.1 40 = .ok (.bipush 24, 2) := by decide +kernel
theorem qd_39_42 : decode qm39.2.2.1 42 = .ok (.goto 5, 3) := by decide +kernel
theorem qd_39_45 : decode qm39.2.2.1 45 = .ok (.bipush 16, 2) := by decide +kernel
theorem qd_39_47 : decode qm39.2.2.1 47 = .ok (.ior, 1) := by decide +kernel
theorem qd_39_48 : decode qm39.2.2.1 48 = .ok (.istore_n 3, 1) := by decide +kernel
theorem qd_39_49 : decode qm39.2.2.1 49 = .ok (.aload_n 0, 1) := by decide +kernel
theorem qd_39_50 : decode qm39.2.2.1 50 = .ok (.iload_n 1, 1) := by decide +kernel
theorem qd_39_51 : decode qm39.2.2.1 51 = .ok (.iload_n 2, 1) := by decide +kernel
theorem qd_39_52 : decode qm39.2.2.1 52 = .ok (.invokestatic 22, 3) := by decide +kernel
theorem qd_39_55 : decode qm39.2.2.1 55 = .ok (.ifCond .eq 8, 3) := by decide +kernel
theorem qd_39_58 : decode qm39.2.2.1 58 = .ok (.iload_n 3, 1) := by decide +kernel
theorem qd_39_59 : decode qm39.2.2.1 59 = .ok (.bipush 32, 2) := by decide +kernel
theorem qd_39_61 : decode qm39.2.2.1 61 = .ok (.ior, 1) := by decide +kernel
theorem qd_39_62 : decode qm39.2.2.1 62 = .ok (.istore_n 3, 1) := by decide +kernel
theorem qd_39_63 : decode qm39.2.2.1 63 = .ok (.iload_n 3, 1) := by decide +kernel
theorem qd_39_64 : decode qm39.2.2.1 64 = .ok (.ireturn, 1) := by decide +kernel
theorem qd_40_0 : decode qm40.2.2.1 0 = .ok (.aload_n 0, 1) := by decide +kernel
theorem qd_40_1 : decode qm40.2.2.1 1 = .ok (.iload_n 1, 1) := by decide +kernel
theorem qd_40_2 : decode qm40.2.2.1 2 = .ok (.iload_n 2, 1) := by decide +kernel
theorem qd_40_3 : decode qm40.2.2.1 3 = .ok (.ldc 25, 2) := by decide +kernel
theorem qd_40_5 : decode qm40.2.2.1 5 = .ok (.invokestatic 26, 3) := by decide +kernel
theorem qd_40_8 : decode qm40.2.2.1 8 = .ok (.ifCond .eq 6, 3) := by decide +kernel
theorem qd_40_11 : decode qm40.2.2.1 11 = .ok (.bipush 67, 2) := by decide +kernel
theorem qd_40_13 : decode qm40.2.2.1 13 = .ok (.ireturn, 1) := by decide +kernel
theorem qd_40_14 : decode qm40.2.2.1 14 = .ok (.aload_n 0, 1) := by decide +kernel
theorem qd_40_15 : decode qm40.2.2.1 15 = .ok (.iload_n 1, 1) := by decide +kernel
theorem qd_40_16 : decode qm40.2.2.1 16 = .ok (.iload_n 2, 1) := by decide +kernel
theorem qd_40_17 : decode qm40.2.2.1 17 = .ok (.ldc 30, 2) := by decide +kernel
theorem qd_40_19 : decode qm40.2.2.1 19 = .ok (.invokestatic 26, 3) := by decide +kernel
theorem qd_40_22 : decode qm40.2.2.1 22 = .ok (.ifCond .eq 7, 3) := by decide +kernel
theorem qd_40_25 : decode qm40.2.2.1 25 = .ok (.sipush 131, 3) := by decide +kernel
theorem qd_40_28 : decode qm40.2.2.1 28 = .ok (.ireturn, 1) := by decide +kernel
theorem qd_40_29 : decode qm40.2.2.1 29 = .ok (.aload_n 0, 1) := by decide +kernel
theorem qd_40_30 : decode qm40.2.2.1 30 = .ok (.iload_n 1, 1) := by decide +kernel
theorem qd_40_31 : decode qm40.2.2.1 31 = .ok (.iload_n 2, 1) := by decide +kernel
theorem qd_40_32 : decode qm40.2.2.1 32 = .ok (.invokestatic 15, 3) := by decide +kernel
theorem qd_40_35 : decode qm40.2.2.1 35 = .ok (.istore_n 3, 1) := by decide +kernel
theorem qd_40_36 : decode qm40.2.2.1 36 = .ok (.iconst 0, 1) := by decide +kernel
theorem qd_40_37 : decode qm40.2.2.1 37 = .ok (.istore 4, 2) := by decide +kernel
theorem qd_40_39 : decode qm40.2.2.1 39 = .ok (.iload_n 1, 1) := by decide +kernel
theorem qd_40_40 : decode qm40.2.2.1 40 = .ok (.istore 5, 2) := by decide +kernel
theorem qd_40_42 : decode qm40.2.2.1 42 = .ok (.iload 5, 2) := by decide +kernel
theorem qd_40_44 : decode qm40.2.2.1 44 = .ok (.iload_n 2, 1) := by decide +kernel
theorem qd_40_45 : decode qm40.2.2.1 45 = .ok (.if_icmp .ge 58, 3) := by decide +kernel
theorem qd_40_48 : decode qm40.2.2.1 48 = .ok (.iload_n 3, 1) := by decide +kernel
theorem qd_40_49 : decode qm40.2.2.1 49 = .ok (.ifCond .eq 16, 3) := by decide +kernel
theorem qd_40_52 : decode qm40.2.2.1 52 = .ok (.aload_n 0, 1) := by decide +kernel
theorem qd_40_53 : decode qm40.2.2.1 53 = .ok (.iload 5, 2) := by decide +kernel
theorem qd_40_55 : decode qm40.2.2.1 55 = .ok (.iaload, 1) := by decide +kernel
theorem qd_40_56 : decode qm40.2.2.1 56 = .ok (.bipush 47, 2) := by decide +kernel
theorem qd_40_58 : decode qm40.2.2.1 58 = .ok (.if_icmp .eq 7, 3) := by decide +kernel
theorem qd_40_61 : decode qm40.2.2.1 61 = .ok (.iconst 1, 1) := by decide +kernel
theorem qd_40_62 : decode qm40.2.2.1 62 = .ok (.goto 4, 3) := by decide +kernel
theorem qd_40_65 : decode qm40.2.2.1 65 = .ok (.iconst 0, 1) := by decide +kernel
theorem qd_40_66 : decode qm40.2.2.1 66 = .ok (.istore_n 3, 1) := by decide +kernel
theorem qd_40_67 : decode qm40.2.2.1 67 = .ok (.iload 4, 2) := by decide +kernel
theorem qd_40_69 : decode qm40.2.2.1 69 = .ok (.ifCond .ne 21, 3) := by decide +kernel
theorem qd_40_72 : decode qm40.2.2.1 72 = .ok (.aload_n 0, 1) := by decide +kernel
theorem qd_40_73 : decode qm40.2.2.1 73 = .ok (.iload 5, 2) := by decide +kernel
theorem qd_40_75 : decode qm40.2.2.1 75 = .ok (.iaload, 1) := by decide +kernel
theorem qd_40_76 : decode qm40.2.2.1 76 = .ok (.bipush 60, 2) := by decide +kernel
theorem qd_40_78 : decode qm40.2.2.1 78 = .ok (.if_icmp .eq 12, 3) := by decide +kernel
theorem qd_40_81 : decode qm40.2.2.1 81 = .ok (.aload_n 0, 1) := by decide +kernel
theorem qd_40_82 : decode qm40.2.2.1 82 = .ok (.iload 5, 2) := by decide +kernel
theorem qd_40_84 : decode qm40.2.2.1 84 = .ok (.iaload, 1) := by decide +kernel
theorem qd_40_85 : decode qm40.2.2.1 85 = .ok (.bipush 62, 2) := by decide +kernel
theorem qd_40_87 : decode qm40.2.2.1 87 = .ok (.if_icmp .ne 7, 3) := by decide +kernel
theorem qd_40_90 : decode qm40.2.2.1 90 = .ok (.iconst 1, 1) := by decide +kernel
theorem qd_40_91 : decode qm40.2.2.1 91 = .ok (.goto 4, 3) := by decide +kernel
theorem qd_40_94 : decode qm40.2.2.1 94 = .ok (.iconst 0, 1) := by decide +kernel
theorem qd_40_95 : decode qm40.2.2.1 95 = .ok (.istore 4, 2) := by decide +kernel
theorem qd_40_97 : decode qm40.2.2.1 97 = .ok (.iinc 5 1, 3) := by decide +kernel
theorem qd_40_100 : decode qm40.2.2.1 100 = .ok (.goto (-58), 3) := by decide +kernel
theorem qd_40_103 : decode qm40.2.2.1 103 = .ok (.iload_n 3, 1) := by decide +kernel
theorem qd_40_104 : decode qm40.2.2.1 104 = .ok (.ifCond .ne 5, 3) := by decide +kernel
theorem qd_40_107 : decode qm40.2.2.1 107 = .ok (.iconst 0, 1) := by decide +kernel
theorem qd_40_108 : decode qm40.2.2.1 108 = .ok (.ireturn, 1) := by decide +kernel
theorem qd_40_109 : decode qm40.2.2.1 109 = .ok (.iload 4, 2) := by decide +kernel
theorem qd_40_111 : decode qm40.2.2.1 111 = .ok (.ifCond .eq 7, 3) := by decide +kernel
theorem qd_40_114 : decode qm40.2.2.1 114 = .ok (.iconst 1, 1) := by decide +kernel
theorem qd_40_115 : decode qm40.2.2.1 115 = .ok (.goto 4, 3) := by decide +kernel
theorem qd_40_118 : decode qm40.2.2.1 118 = .ok (.iconst 3, 1) := by decide +kernel
theorem qd_40_119 : decode qm40.2.2.1 119 = .ok (.ireturn, 1) := by decide +kernel
theorem qd_41_0 : decode qm41.2.2.1 0 = .ok (.iload_n 2, 1) := by decide +kernel
theorem qd_41_1 : decode qm41.2.2.1 1 = .ok (.iload_n 1, 1) := by decide +kernel
theorem qd_41_2 : decode qm41.2.2.1 2 = .ok (.isub, 1) := by decide +kernel
theorem qd_41_3 : decode qm41.2.2.1 3 = .ok (.aload_n 3, 1) := by decide +kernel
theorem qd_41_4 : decode qm41.2.2.1 4 = .ok (.invokevirtual 44, 3) := by decide +kernel
theorem qd_41_7 : decode qm41.2.2.1 7 = .ok (.if_icmp .eq 5, 3) := by decide +kernel
theorem qd_41_10 : decode qm41.2.2.1 10 = .ok (.iconst 0, 1) := by decide +kernel
theorem qd_41_11 : decode qm41.2.2.1 11 = .ok (.ireturn, 1) := by decide +kernel
theorem qd_41_12 : decode qm41.2.2.1 12 = .ok (.iconst 0, 1) := by decide +kernel
theorem qd_41_13 : decode qm41.2.2.1 13 = .ok (.istore 4, 2) := by decide +kernel
theorem qd_41_15 : decode qm41.2.2.1 15 = .ok (.iload 4, 2) := by decide +kernel
theorem qd_41_17 : decode qm41.2.2.1 17 = .ok (.aload_n 3, 1) := by decide +kernel
theorem qd_41_18 : decode qm41.2.2.1 18 = .ok (.invokevirtual 44, 3) := by decide +kernel
theorem qd_41_21 : decode qm41.2.2.1 21 = .ok (.if_icmp .ge 26, 3) := by decide +kernel
theorem qd_41_24 : decode qm41.2.2.1 24 = .ok (.aload_n 0, 1) := by decide +kernel
theorem qd_41_25 : decode qm41.2.2.1 25 = .ok (.iload_n 1, 1) := by decide +kernel
theorem qd_41_26 : decode qm41.2.2.1 26 = .ok (.iload 4, 2) := by decide +kernel
theorem qd_41_28 : decode qm41.2.2.1 28 = .ok (.iadd, 1) := by decide +kernel
theorem qd_41_29 : decode qm41.2.2.1 29 = .ok (.iaload, 1) := by decide +kernel
theorem qd_41_30 : decode qm41.2.2.1 30 = .ok (.aload_n 3, 1) := by decide +kernel
theorem qd_41_31 : decode qm41.2.2.1 31 = .ok (.iload 4, 2) := by decide +kernel
theorem qd_41_33 : decode qm41.2.2.1 33 = .ok (.invokevirtual 50, 3) := by decide +kernel
theorem qd_41_36 : decode qm41.2.2.1 36 = .ok (.if_icmp .eq 5, 3) := by decide +kernel
theorem qd_41_39 : decode qm41.2.2.1 39 = .ok (.iconst 0, 1) := by decide +kernel
theorem qd_41_40 : decode qm41.2.2.1 40 = .ok (.ireturn, 1) := by decide +kernel
theorem qd_41_41 : decode qm41.2.2.1 41 = .ok (.iinc 4 1, 3) := by decide +kernel
theorem qd_41_44 : decode qm41.2.2.1 44 = .ok (.goto (-29), 3) := by decide +kernel
theorem qd_41_47 : decode qm41.2.2.1 47 = .ok (.iconst 1, 1) := by decide +kernel
theorem qd_41_48 : decode qm41.2.2.1 48 = .ok (.ireturn, 1) := by decide +kernel
theorem qd_42_0 : decode qm42.2.2.1 0 = .ok (.iconst 1, 1) := by decide +kernel
theorem qd_42_1 : decode qm42.2.2.1 1 = .ok (.istore_n 3, 1) := by decide +kernel
theorem qd_42_2 : decode qm42.2.2.1 2 = .ok (.iload_n 1, 1) := by decide +kernel
theorem qd_42_3 : decode qm42.2.2.1 3 = .ok (.istore 4, 2) := by decide +kernel
theorem qd_42_5 : decode qm42.2.2.1 5 = .ok (.iload 4, 2) := by decide +kernel
theorem qd_42_7 : decode qm42.2.2.1 7 = .ok (.iload_n 2, 1) := by decide +kernel
theorem qd_42_8 : decode qm42.2.2.1 8 = .ok (.if_icmp .ge 66, 3) := by decide +kernel
theorem qd_42_11 : decode qm42.2.2.1 11 = .ok (.aload_n 0, 1) := by decide +kernel
theorem qd_42_12 : decode qm42.2.2.1 12 = .ok (.iload 4, 2) := by decide +kernel
theorem qd_42_14 : decode qm42.2.2.1 14 = .ok (.iaload, 1) := by decide +kernel
theorem qd_42_15 : decode qm42.2.2.1 15 = .ok (.bipush 46, 2) := by decide +kernel
theorem qd_42_17 : decode qm42.2.2.1 17 = .ok (.if_icmp .eq 34, 3) := by decide +kernel
theorem qd_42_20 : decode qm42.2.2.1 20 = .ok (.aload_n 0, 1) := by decide +kernel
theorem qd_42_21 : decode qm42.2.2.1 21 = .ok (.iload 4, 2) := by decide +kernel
theorem qd_42_23 : decode qm42.2.2.1 23 = .ok (.iaload, 1) := by decide +kernel
theorem qd_42_24 : decode qm42.2.2.1 24 = .ok (.bipush 59, 2) := by decide +kernel
theorem qd_42_26 : decode qm42.2.2.1 26 = .ok (.if_icmp .eq 25, 3) := by decide +kernel
theorem qd_42_29 : decode qm42.2.2.1 29 = .ok (.aload_n 0, 1) := by decide +kernel
theorem qd_42_30 : decode qm42.2.2.1 30 = .ok (.iload 4, 2) := by decide +kernel
theorem qd_42_32 : decode qm42.2.2.1 32 = .ok (.iaload, 1) := by decide +kernel
theorem qd_42_33 : decode qm42.2.2.1 33 = .ok (.bipush 91, 2) := by decide +kernel
theorem qd_42_35 : decode qm42.2.2.1 35 = .ok (.if_icmp .eq 16, 3) := by decide +kernel
theorem qd_42_38 : decode qm42.2.2.1 38 = .ok (.iload_n 3, 1) := by decide +kernel
theorem qd_42_39 : decode qm42.2.2.1 39 = .ok (.ifCond .eq 14, 3) := by decide +kernel
theorem qd_42_42 : decode qm42.2.2.1 42 = .ok (.aload_n 0, 1) := by decide +kernel
theorem qd_42_43 : decode qm42.2.2.1 43 = .ok (.iload 4, 2) := by decide +kernel
theorem qd_42_45 : decode qm42.2.2.1 45 = .ok (.iaload, 1) := by decide +kernel
theorem qd_42_46 : decode qm42.2.2.1 46 = .ok (.bipush 47, 2) := by decide +kernel
theorem qd_42_48 : decode qm42.2.2.1 48 = .ok (.if_icmp .ne 5, 3) := by decide +kernel
theorem qd_42_51 : decode qm42.2.2.1 51 = .ok (.iconst 0, 1) := by decide +kernel
theorem qd_42_52 : decode qm42.2.2.1 52 = .ok (.ireturn, 1) := by decide +kernel
theorem qd_42_53 : decode qm42.2.2.1 53 = .ok (.aload_n 0, 1) := by decide +kernel
theorem qd_42_54 : decode qm42.2.2.1 54 = .ok (.iload 4, 2) := by decide +kernel
theorem qd_42_56 : decode qm42.2.2.1 56 = .ok (.iaload, 1) := by decide +kernel
theorem qd_42_57 : decode qm42.2.2.1 57 = .ok (.bipush 47, 2) := by decide +kernel
theorem qd_42_59 : decode qm42.2.2.1 59 = .ok (.if_icmp .ne 7, 3) := by decide +kernel
theorem qd_42_62 : decode qm42.2.2.1 62 = .ok (.iconst 1, 1) := by decide +kernel
theorem qd_42_63 : decode qm42.2.2.1 63 = .ok (.goto 4, 3) := by decide +kernel
theorem qd_42_66 : decode qm42.2.2.1 66 = .ok (.iconst 0, 1) := by decide +kernel
theorem qd_42_67 : decode qm42.2.2.1 67 = .ok (.istore_n 3, 1) := by decide +kernel
theorem qd_42_68 : decode qm42.2.2.1 68 = .ok (.iinc 4 1, 3) := by decide +kernel
theorem qd_42_71 : decode qm42.2.2.1 71 = .ok (.goto (-66), 3) := by decide +kernel
theorem qd_42_74 : decode qm42.2.2.1 74 = .ok (.iload_n 3, 1) := by decide +kernel
theorem qd_42_75 : decode qm42.2.2.1 75 = .ok (.ifCond .ne 7, 3) := by decide +kernel
theorem qd_42_78 : decode qm42.2.2.1 78 = .ok (.iconst 1, 1) := by decide +kernel
theorem qd_42_79 : decode qm42.2.2.1 79 = .ok (.goto 4, 3) := by decide +kernel
theorem qd_42_82 : decode qm42.2.2.1 82 = .ok (.iconst 0, 1) := by decide +kernel
theorem qd_42_83 : decode qm42.2.2.1 83 = .ok (.ireturn, 1) := by decide +kernel
theorem qd_43_0 : decode qm43.2.2.1 0 = .ok (.iload_n 1, 1) := by decide +kernel
theorem qd_43_1 : decode qm43.2.2.1 1 = .ok (.istore_n 3, 1) := by decide +kernel
theorem qd_43_2 : decode qm43.2.2.1 2 = .ok (.iload_n 3, 1) := by decide +kernel
theorem qd_43_3 : decode qm43.2.2.1 3 = .ok (.iload_n 2, 1) := by decide +kernel
theorem qd_43_4 : decode qm43.2.2.1 4 = .ok (.if_icmp .ge 17, 3) := by decide +kernel
theorem qd_43_7 : decode qm43.2.2.1 7 = .ok (.aload_n 0, 1) := by decide +kernel
theorem qd_43_8 : decode qm43.2.2.1 8 = .ok (.iload_n 3, 1) := by decide +kernel
theorem qd_43_9 : decode qm43.2.2.1 9 = .ok (.iaload, 1) := by decide +kernel
theorem qd_43_10 : decode qm43.2.2.1 10 = .ok (.bipush 91, 2) := by decide +kernel
theorem qd_43_12 : decode qm43.2.2.1 12 = .ok (.if_icmp .ne 9, 3) := by decide +kernel
theorem qd_43_15 : decode qm43.2.2.1 15 = .ok (.iinc 3 1, 3) := by decide +kernel
theorem qd_43_18 : decode qm43.2.2.1 18 = .ok (.goto (-16), 3) := by decide +kernel
theorem qd_43_21 : decode qm43.2.2.1 21 = .ok (.iload_n 3, 1) := by decide +kernel
theorem qd_43_22 : decode qm43.2.2.1 22 = .ok (.iload_n 2, 1) := by decide +kernel
theorem qd_43_23 : decode qm43.2.2.1 23 = .ok (.if_icmp .lt 5, 3) := by decide +kernel
theorem qd_43_26 : decode qm43.2.2.1 26 = .ok (.iconst (-1), 1) := by decide +kernel
theorem qd_43_27 : decode qm43.2.2.1 27 = .ok (.ireturn, 1) := by decide +kernel
theorem qd_43_28 : decode qm43.2.2.1 28 = .ok (.aload_n 0, 1) := by decide +kernel
theorem qd_43_29 : decode qm43.2.2.1 29 = .ok (.iload_n 3, 1) := by decide +kernel
theorem qd_43_30 : decode qm43.2.2.1 30 = .ok (.iaload, 1) := by decide +kernel
theorem qd_43_31 : decode qm43.2.2.1 31 = .ok (.bipush 76, 2) := by decide +kernel
theorem qd_43_33 : decode qm43.2.2.1 33 = .ok (.if_icmp .eq 20, 3) := by decide +kernel
theorem qd_43_36 : decode qm43.2.2.1 36 = .ok (.aload_n 0, 1) := by decide +kernel
theorem qd_43_37 : decode qm43.2.2.1 37 = .ok (.iload_n 3, 1) := by decide +kernel
theorem qd_43_38 : decode qm43.2.2.1 38 = .ok (.iaload, 1) := by decide +kernel
theorem qd_43_39 : decode qm43.2.2.1 39 = .ok (.invokestatic 32, 3) := by decide +kernel
theorem qd_43_42 : decode qm43.2.2.1 42 = .ok (.ifCond .eq 9, 3) := by decide +kernel
theorem qd_43_45 : decode qm43.2.2.1 45 = .ok (.iload_n 3, 1) := by decide +kernel
theorem qd_43_46 : decode qm43.2.2.1 46 = .ok (.iconst 1, 1) := by decide +kernel
theorem qd_43_47 : decode qm43.2.2.1 47 = .ok (.iadd, 1) := by decide +kernel
theorem qd_43_48 : decode qm43.2.2.1 48 = .ok (.goto 4, 3) := by decide +kernel
theorem qd_43_51 : decode qm43.2.2.1 51 = .ok (.iconst (-1), 1) := by decide +kernel
theorem qd_43_52 : decode qm43.2.2.1 52 = .ok (.ireturn, 1) := by decide +kernel
theorem qd_43_53 : decode qm43.2.2.1 53 = .ok (.iload_n 3, 1) := by decide +kernel
theorem qd_43_54 : decode qm43.2.2.1 54 = .ok (.iconst 1, 1) := by decide +kernel
theorem qd_43_55 : decode qm43.2.2.1 55 = .ok (.iadd, 1) := by decide +kernel
theorem qd_43_56 : decode qm43.2.2.1 56 = .ok (.istore 4, 2) := by decide +kernel
theorem qd_43_58 : decode qm43.2.2.1 58 = .ok (.iload 4, 2) := by decide +kernel
theorem qd_43_60 : decode qm43.2.2.1 60 = .ok (.iload_n 2, 1) := by decide +kernel
theorem qd_43_61 : decode qm43.2.2.1 61 = .ok (.if_icmp .ge 18, 3) := by decide +kernel
theorem qd_43_64 : decode qm43.2.2.1 64 = .ok (.aload_n 0, 1) := by decide +kernel
theorem qd_43_65 : decode qm43.2.2.1 65 = .ok (.iload 4, 2) := by decide +kernel
theorem qd_43_67 : decode qm43.2.2.1 67 = .ok (.iaload, 1) := by decide +kernel
theorem qd_43_68 : decode qm43.2.2.1 68 = .ok (.bipush 59, 2) := by decide +kernel
theorem qd_43_70 : decode qm43.2.2.1 70 = .ok (.if_icmp .eq 9, 3) := by decide +kernel
theorem qd_43_73 : decode qm43.2.2.1 73 = .ok (.iinc 4 1, 3) := by decide +kernel
theorem qd_43_76 : decode qm43.2.2.1 76 = .ok (.goto (-18), 3) := by decide +kernel
theorem qd_43_79 : decode qm43.2.2.1 79 = .ok (.iload 4, 2) := by decide +kernel
theorem qd_43_81 : decode qm43.2.2.1 81 = .ok (.iload_n 2, 1) := by decide +kernel
theorem qd_43_82 : decode qm43.2.2.1 82 = .ok (.if_icmp .ge 22, 3) := by decide +kernel
theorem qd_43_85 : decode qm43.2.2.1 85 = .ok (.aload_n 0, 1) := by decide +kernel
theorem qd_43_86 : decode qm43.2.2.1 86 = .ok (.iload_n 3, 1) := by decide +kernel
theorem qd_43_87 : decode qm43.2.2.1 87 = .ok (.iconst 1, 1) := by decide +kernel
theorem qd_43_88 : decode qm43.2.2.1 88 = .ok (.iadd, 1) := by decide +kernel
theorem qd_43_89 : decode qm43.2.2.1 89 = .ok (.iload 4, 2) := by decide +kernel
theorem qd_43_91 : decode qm43.2.2.1 91 = .ok (.invokestatic 15, 3) := by decide +kernel
theorem qd_43_94 : decode qm43.2.2.1 94 = .ok (.ifCond .eq 10, 3) := by decide +kernel
theorem qd_43_97 : decode qm43.2.2.1 97 = .ok (.iload 4, 2) := by decide +kernel
theorem qd_43_99 : decode qm43.2.2.1 99 = .ok (.iconst 1, 1) := by decide +kernel
theorem qd_43_100 : decode qm43.2.2.1 100 = .ok (.iadd, 1) := by decide +kernel
theorem qd_43_101 : decode qm43.2.2.1 101 = .ok (.goto 4, 3) := by decide +kernel
theorem qd_43_104 : decode qm43.2.2.1 104 = .ok (.iconst (-1), 1) := by decide +kernel
theorem qd_43_105 : decode qm43.2.2.1 105 = .ok (.ireturn, 1) := by decide +kernel
theorem qd_44_0 : decode qm44.2.2.1 0 = .ok (.iload_n 0, 1) := by decide +kernel
theorem qd_44_1 : decode qm44.2.2.1 1 = .ok (.tableswitch 117 66 90 #[115, 115, 115, 117, 115, 117, 117, 115, 115, 117, 117, 117, 117, 117, 117, 117, 117, 115, 117, 117, 117, 117, 117, 117, 115], 115) := by decide +kernel
theorem qd_44_116 : decode qm44.2.2.1 116 = .ok (.iconst 1, 1) := by decide +kernel
theorem qd_44_117 : decode qm44.2.2.1 117 = .ok (.ireturn, 1) := by decide +kernel
theorem qd_44_118 : decode qm44.2.2.1 118 = .ok (.iconst 0, 1) := by decide +kernel
theorem qd_44_119 : decode qm44.2.2.1 119 = .ok (.ireturn, 1) := by decide +kernel
theorem qd_45_0 : decode qm45.2.2.1 0 = .ok (.iload_n 1, 1) := by decide +kernel
theorem qd_45_1 : decode qm45.2.2.1 1 = .ok (.iload_n 2, 1) := by decide +kernel
theorem qd_45_2 : decode qm45.2.2.1 2 = .ok (.if_icmp .ge 11, 3) := by decide +kernel
theorem qd_45_5 : decode qm45.2.2.1 5 = .ok (.aload_n 0, 1) := by decide +kernel
theorem qd_45_6 : decode qm45.2.2.1 6 = .ok (.iload_n 1, 1) := by decide +kernel
theorem qd_45_7 : decode qm45.2.2.1 7 = .ok (.iaload, 1) := by decide +kernel
theorem qd_45_8 : decode qm45.2.2.1 8 = .ok (.bipush 40, 2) := by decide +kernel
theorem qd_45_10 : decode qm45.2.2.1 10 = .ok (.if_icmp .eq 5, 3) := by decide +kernel
theorem qd_45_13 : decode qm45.2.2.1 13 = .ok (.iconst 0, 1) := by decide +kernel
theorem qd_45_14 : decode qm45.2.2.1 14 = .ok (.ireturn, 1) := by decide +kernel
theorem qd_45_15 : decode qm45.2.2.1 15 = .ok (.aload_n 0, 1) := by decide +kernel
theorem qd_45_16 : decode qm45.2.2.1 16 = .ok (.iload_n 1, 1) := by decide +kernel
theorem qd_45_17 : decode qm45.2.2.1 17 = .ok (.iload_n 2, 1) := by decide +kernel
theorem qd_45_18 : decode qm45.2.2.1 18 = .ok (.invokestatic 36, 3) := by decide +kernel
theorem qd_45_21 : decode qm45.2.2.1 21 = .ok (.istore_n 3, 1) := by decide +kernel
theorem qd_45_22 : decode qm45.2.2.1 22 = .ok (.iload_n 3, 1) := by decide +kernel
theorem qd_45_23 : decode qm45.2.2.1 23 = .ok (.iconst (-1), 1) := by decide +kernel
theorem qd_45_24 : decode qm45.2.2.1 24 = .ok (.if_icmp .ne 5, 3) := by decide +kernel
theorem qd_45_27 : decode qm45.2.2.1 27 = .ok (.iconst 0, 1) := by decide +kernel
theorem qd_45_28 : decode qm45.2.2.1 28 = .ok (.ireturn, 1) := by decide +kernel
theorem qd_45_29 : decode qm45.2.2.1 29 = .ok (.aload_n 0, 1) := by decide +kernel
theorem qd_45_30 : decode qm45.2.2.1 30 = .ok (.iload_n 3, 1) := by decide +kernel
theorem qd_45_31 : decode qm45.2.2.1 31 = .ok (.iconst 1, 1) := by decide +kernel
theorem qd_45_32 : decode qm45.2.2.1 32 = .ok (.iadd, 1) := by decide +kernel
theorem qd_45_33 : decode qm45.2.2.1 33 = .ok (.iload_n 2, 1) := by decide +kernel
theorem qd_45_34 : decode qm45.2.2.1 34 = .ok (.ldc 39, 2) := by decide +kernel
theorem qd_45_36 : decode qm45.2.2.1 36 = .ok (.invokestatic 26, 3) := by decide +kernel
theorem qd_45_39 : decode qm45.2.2.1 39 = .ok (.ifCond .ne 15, 3) := by decide +kernel
theorem qd_45_42 : decode qm45.2.2.1 42 = .ok (.aload_n 0, 1) := by decide +kernel
theorem qd_45_43 : decode qm45.2.2.1 43 = .ok (.iload_n 3, 1) := by decide +kernel
theorem qd_45_44 : decode qm45.2.2.1 44 = .ok (.iconst 1, 1) := by decide +kernel
theorem qd_45_45 : decode qm45.2.2.1 45 = .ok (.iadd, 1) := by decide +kernel
theorem qd_45_46 : decode qm45.2.2.1 46 = .ok (.iload_n 2, 1) := by decide +kernel
theorem qd_45_47 : decode qm45.2.2.1 47 = .ok (.invokestatic 19, 3) := by decide +kernel
theorem qd_45_50 : decode qm45.2.2.1 50 = .ok (.iload_n 2, 1) := by decide +kernel
theorem qd_45_51 : decode qm45.2.2.1 51 = .ok (.if_icmp .ne 7, 3) := by decide +kernel
theorem qd_45_54 : decode qm45.2.2.1 54 = .ok (.iconst 1, 1) := by decide +kernel
theorem qd_45_55 : decode qm45.2.2.1 55 = .ok (.goto 4, 3) := by decide +kernel
theorem qd_45_58 : decode qm45.2.2.1 58 = .ok (.iconst 0, 1) := by decide +kernel
theorem qd_45_59 : decode qm45.2.2.1 59 = .ok (.ireturn, 1) := by decide +kernel
theorem qd_46_0 : decode qm46.2.2.1 0 = .ok (.iload_n 1, 1) := by decide +kernel
theorem qd_46_1 : decode qm46.2.2.1 1 = .ok (.iconst 1, 1) := by decide +kernel
theorem qd_46_2 : decode qm46.2.2.1 2 = .ok (.iadd, 1) := by decide +kernel
theorem qd_46_3 : decode qm46.2.2.1 3 = .ok (.istore_n 3, 1) := by decide +kernel
theorem qd_46_4 : decode qm46.2.2.1 4 = .ok (.iconst 0, 1) := by decide +kernel
theorem qd_46_5 : decode qm46.2.2.1 5 = .ok (.istore 4, 2) := by decide +kernel
theorem qd_46_7 : decode qm46.2.2.1 7 = .ok (.iload 4, 2) := by decide +kernel
theorem qd_46_9 : decode qm46.2.2.1 9 = .ok (.sipush 500, 3) := by decide +kernel
theorem qd_46_12 : decode qm46.2.2.1 12 = .ok (.if_icmp .ge 36, 3) := by decide +kernel
theorem qd_46_15 : decode qm46.2.2.1 15 = .ok (.iload_n 3, 1) := by decide +kernel
theorem qd_46_16 : decode qm46.2.2.1 16 = .ok (.iload_n 2, 1) := by decide +kernel
theorem qd_46_17 : decode qm46.2.2.1 17 = .ok (.if_icmp .ge 31, 3) := by decide +kernel
theorem qd_46_20 : decode qm46.2.2.1 20 = .ok (.aload_n 0, 1) := by decide +kernel
theorem qd_46_21 : decode qm46.2.2.1 21 = .ok (.iload_n 3, 1) := by decide +kernel
theorem qd_46_22 : decode qm46.2.2.1 22 = .ok (.iaload, 1) := by decide +kernel
theorem qd_46_23 : decode qm46.2.2.1 23 = .ok (.bipush 41, 2) := by decide +kernel
theorem qd_46_25 : decode qm46.2.2.1 25 = .ok (.if_icmp .eq 23, 3) := by decide +kernel
theorem qd_46_28 : decode qm46.2.2.1 28 = .ok (.aload_n 0, 1) := by decide +kernel
theorem qd_46_29 : decode qm46.2.2.1 29 = .ok (.iload_n 3, 1) := by decide +kernel
theorem qd_46_30 : decode qm46.2.2.1 30 = .ok (.iload_n 2, 1) := by decide +kernel
theorem qd_46_31 : decode qm46.2.2.1 31 = .ok (.invokestatic 19, 3) := by decide +kernel
theorem qd_46_34 : decode qm46.2.2.1 34 = .ok (.istore_n 3, 1) := by decide +kernel
theorem qd_46_35 : decode qm46.2.2.1 35 = .ok (.iload_n 3, 1) := by decide +kernel
theorem qd_46_36 : decode qm46.2.2.1 36 = .ok (.iconst (-1), 1) := by decide +kernel
theorem qd_46_37 : decode qm46.2.2.1 37 = .ok (.if_icmp .ne 5, 3) := by decide +kernel
theorem qd_46_40 : decode qm46.2.2.1 40 = .ok (.iconst (-1), 1) := by decide +kernel
theorem qd_46_41 : decode qm46.2.2.1 41 = .ok (.ireturn, 1) := by decide +kernel
theorem qd_46_42 : decode qm46.2.2.1 42 = .ok (.iinc 4 1, 3) := by decide +kernel
theorem qd_46_45 : decode qm46.2.2.1 45 = .ok (.goto (-38), 3) := by decide +kernel
theorem qd_46_48 : decode qm46.2.2.1 48 = .ok (.iload_n 3, 1) := by decide +kernel
theorem qd_46_49 : decode qm46.2.2.1 49 = .ok (.iload_n 2, 1) := by decide +kernel
theorem qd_46_50 : decode qm46.2.2.1 50 = .ok (.if_icmp .ge 7, 3) := by decide +kernel
theorem qd_46_53 : decode qm46.2.2.1 53 = .ok (.iload_n 3, 1) := by decide +kernel
theorem qd_46_54 : decode qm46.2.2.1 54 = .ok (.goto 4, 3) := by decide +kernel
theorem qd_46_57 : decode qm46.2.2.1 57 = .ok (.iconst (-1), 1) := by decide +kernel
theorem qd_46_58 : decode qm46.2.2.1 58 = .ok (.ireturn, 1) := by decide +kernel
theorem qd_47_0 : decode qm47.2.2.1 0 = .ok (.iconst 1, 1) := by decide +kernel
theorem qd_47_1 : decode qm47.2.2.1 1 = .ok (.istore_n 1, 1) := by decide +kernel
theorem qd_47_2 : decode qm47.2.2.1 2 = .ok (.iload_n 1, 1) := by decide +kernel
theorem qd_47_3 : decode qm47.2.2.1 3 = .ok (.aload_n 0, 1) := by decide +kernel
theorem qd_47_4 : decode qm47.2.2.1 4 = .ok (.getfield 15, 3) := by decide +kernel
theorem qd_47_7 : decode qm47.2.2.1 7 = .ok (.getfield 19, 3) := by decide +kernel
theorem qd_47_10 : decode qm47.2.2.1 10 = .ok (.invokevirtual 25, 3) := by decide +kernel
theorem qd_47_13 : decode qm47.2.2.1 13 = .ok (.if_icmp .ge 33, 3) := by decide +kernel
theorem qd_47_16 : decode qm47.2.2.1 16 = .ok (.aload_n 0, 1) := by decide +kernel
theorem qd_47_17 : decode qm47.2.2.1 17 = .ok (.getfield 9, 3) := by decide +kernel
theorem qd_47_20 : decode qm47.2.2.1 20 = .ok (.aload_n 0, 1) := by decide +kernel
theorem qd_47_21 : decode qm47.2.2.1 21 = .ok (.iload_n 1, 1) := by decide +kernel
theorem qd_47_22 : decode qm47.2.2.1 22 = .ok (.invokevirtual 31, 3) := by decide +kernel
theorem qd_47_25 : decode qm47.2.2.1 25 = .ok (.aload_n 0, 1) := by decide +kernel
theorem qd_47_26 : decode qm47.2.2.1 26 = .ok (.getfield 15, 3) := by decide +kernel
theorem qd_47_29 : decode qm47.2.2.1 29 = .ok (.getfield 19, 3) := by decide +kernel
theorem qd_47_32 : decode qm47.2.2.1 32 = .ok (.iload_n 1, 1) := by decide +kernel
theorem qd_47_33 : decode qm47.2.2.1 33 = .ok (.iconst 3, 1) := by decide +kernel
theorem qd_47_34 : decode qm47.2.2.1 34 = .ok (.invokevirtual 35, 3) := by decide +kernel
theorem qd_47_37 : decode qm47.2.2.1 37 = .ok (.invokevirtual 39, 3) := by decide +kernel
theorem qd_47_40 : decode qm47.2.2.1 40 = .ok (.iinc 1 1, 3) := by decide +kernel
theorem qd_47_43 : decode qm47.2.2.1 43 = .ok (.goto (-41), 3) := by decide +kernel
theorem qd_47_46 : decode qm47.2.2.1 46 = .ok (.return_, 1) := by decide +kernel
theorem qd_48_0 : decode qm48.2.2.1 0 = .ok (.aload_n 0, 1) := by decide +kernel
theorem qd_48_1 : decode qm48.2.2.1 1 = .ok (.getfield 15, 3) := by decide +kernel
theorem qd_48_4 : decode qm48.2.2.1 4 = .ok (.iload_n 1, 1) := by decide +kernel
theorem qd_48_5 : decode qm48.2.2.1 5 = .ok (.invokevirtual 49, 3) := by decide +kernel
theorem qd_48_8 : decode qm48.2.2.1 8 = .ok (.istore_n 2, 1) := by decide +kernel
theorem qd_48_9 : decode qm48.2.2.1 9 = .ok (.aload_n 0, 1) := by decide +kernel
theorem qd_48_10 : decode qm48.2.2.1 10 = .ok (.getfield 15, 3) := by decide +kernel
theorem qd_48_13 : decode qm48.2.2.1 13 = .ok (.iload_n 1, 1) := by decide +kernel
theorem qd_48_14 : decode qm48.2.2.1 14 = .ok (.invokevirtual 52, 3) := by decide +kernel
theorem qd_48_17 : decode qm48.2.2.1 17 = .ok (.istore_n 3, 1) := by decide +kernel
theorem qd_48_18 : decode qm48.2.2.1 18 = .ok (.aload_n 0, 1) := by decide +kernel
theorem qd_48_19 : decode qm48.2.2.1 19 = .ok (.getfield 15, 3) := by decide +kernel
theorem qd_48_22 : decode qm48.2.2.1 22 = .ok (.iload_n 1, 1) := by decide +kernel
theorem qd_48_23 : decode qm48.2.2.1 23 = .ok (.invokevirtual 45, 3) := by decide +kernel
theorem qd_48_26 : decode qm48.2.2.1 26 = .ok (.tableswitch 194 7 18 #[62, 73, 102, 131, 131, 158, 194, 194, 181, 91, 165, 173], 62) := by decide +kernel
theorem qd_48_88 : decode qm48.2.2.1 88 = .ok (.aload_n 0, 1) := by decide +kernel
theorem qd_48_89 : decode qm48.2.2.1 89 = .ok (.getfield 15, 3) := by decide +kernel
theorem qd_48_92 : decode qm48.2.2.1 92 = .ok (.iload_n 2, 1) := by decide +kernel
theorem qd_48_93 : decode qm48.2.2.1 93 = .ok (.bipush 8, 2) := by decide +kernel
theorem qd_48_95 : decode qm48.2.2.1 95 = .ok (.invokevirtual 57, 3) := by decide +kernel
theorem qd_48_98 : decode qm48.2.2.1 98 = .ok (.ireturn, 1) := by decide +kernel
theorem qd_48_99 : decode qm48.2.2.1 99 = .ok (.aload_n 0, 1) := by decide +kernel
theorem qd_48_100 : decode qm48.2.2.1 100 = .ok (.getfield 15, 3) := by decide +kernel
theorem qd_48_103 : decode qm48.2.2.1 103 = .ok (.iload_n 2, 1) := by decide +kernel
theorem qd_48_104 : decode qm48.2.2.1 104 = .ok (.invokevirtual 45, 3) := by decide +kernel
theorem qd_48_107 : decode qm48.2.2.1 107 = .ok (.iconst 1, 1) := by decide +kernel
theorem qd_48_108 : decode qm48.2.2.1 108 = .ok (.if_icmp .ne 7, 3) := by decide +kernel
theorem qd_48_111 : decode qm48.2.2.1 111 = .ok (.iconst 1, 1) := by decide +kernel
theorem qd_48_112 : decode qm48.2.2.1 112 = .ok (.goto 4, 3) := by decide +kernel
theorem qd_48_115 : decode qm48.2.2.1 115 = .ok (.iconst 0, 1) := by decide +kernel
theorem qd_48_116 : decode qm48.2.2.1 116 = .ok (.ireturn, 1) := by decide +kernel
theorem qd_48_117 : decode qm48.2.2.1 117 = .ok (.aload_n 0, 1) := by decide +kernel
theorem qd_48_118 : decode qm48.2.2.1 118 = .ok (.getfield 15, 3) := by decide +kernel
theorem qd_48_121 : decode qm48.2.2.1 121 = .ok (.iload_n 2, 1) := by decide +kernel
theorem qd_48_122 : decode qm48.2.2.1 122 = .ok (.bipush 32, 2) := by decide +kernel
theorem qd_48_124 : decode qm48.2.2.1 124 = .ok (.invokevirtual 57, 3) := by decide +kernel
theorem qd_48_127 : decode qm48.2.2.1 127 = .ok (.ireturn, 1) := by decide +kernel
theorem qd_48_128 : decode qm48.2.2.1 128 = .ok (.aload_n 0, 1) := by decide +kernel
theorem qd_48_129 : decode qm48.2.2.1 129 = .ok (.getfield 15, 3) := by decide +kernel
theorem qd_48_132 : decode qm48.2.2.1 132 = .ok (.iload_n 2, 1) := by decide +kernel
theorem qd_48_133 : decode qm48.2.2.1 133 = .ok (.invokevirtual 45, 3) := by decide +kernel
theorem qd_48_136 : decode qm48.2.2.1 136 = .ok (.bipush 7, 2) := by decide +kernel
theorem qd_48_138 : decode qm48.2.2.1 138 = .ok (.if_icmp .ne 17, 3) := by decide +kernel
theorem qd_48_141 : decode qm48.2.2.1 141 = .ok (.aload_n 0, 1) := by decide +kernel
theorem qd_48_142 : decode qm48.2.2.1 142 = .ok (.iload_n 3, 1) := by decide +kernel
theorem qd_48_143 : decode qm48.2.2.1 143 = .ok (.bipush 16, 2) := by decide +kernel
theorem qd_48_145 : decode qm48.2.2.1 145 = .ok (.invokevirtual 61, 3) := by decide +kernel
theorem qd_48_148 : decode qm48.2.2.1 148 = .ok (.ifCond .eq 7, 3) := by decide +kernel
theorem qd_48_151 : decode qm48.2.2.1 151 = .ok (.iconst 1, 1) := by decide +kernel
theorem qd_48_152 : decode qm48.2.2.1 152 = .ok (.goto 4, 3) := by decide +kernel
theorem qd_48_155 : decode qm48.2.2.1 155 = .ok (.iconst 0, 1) := by decide +kernel
theorem qd_48_156 : decode qm48.2.2.1 156 = .ok (.ireturn, 1) := by decide +kernel
theorem qd_48_157 : decode qm48.2.2.1 157 = .ok (.aload_n 0, 1) := by decide +kernel
theorem qd_48_158 : decode qm48.2.2.1 158 = .ok (.getfield 15, 3) := by decide +kernel
theorem qd_48_161 : decode qm48.2.2.1 161 = .ok (.iload_n 2, 1) := by decide +kernel
theorem qd_48_162 : decode qm48.2.2.1 162 = .ok (.invokevirtual 45, 3) := by decide +kernel
theorem qd_48_165 : decode qm48.2.2.1 165 = .ok (.bipush 7, 2) := by decide +kernel
theorem qd_48_167 : decode qm48.2.2.1 167 = .ok (.if_icmp .ne 15, 3) := by decide +kernel
theorem qd_48_170 : decode qm48.2.2.1 170 = .ok (.aload_n 0, 1) := by decide +kernel
theorem qd_48_171 : decode qm48.2.2.1 171 = .ok (.iload_n 3, 1) := by decide +kernel
theorem qd_48_172 : decode qm48.2.2.1 172 = .ok (.invokevirtual 64, 3) := by decide +kernel
theorem qd_48_175 : decode qm48.2.2.1 175 = .ok (.ifCond .eq 7, 3) := by decide +kernel
theorem qd_48_178 : decode qm48.2.2.1 178 = .ok (.iconst 1, 1) := by decide +kernel
theorem qd_48_179 : decode qm48.2.2.1 179 = .ok (.goto 4, 3) := by decide +kernel
theorem qd_48_182 : decode qm48.2.2.1 182 = .ok (.iconst 0, 1) := by decide +kernel
theorem qd_48_183 : decode qm48.2.2.1 183 = .ok (.ireturn, 1) := by decide +kernel
theorem qd_48_184 : decode qm48.2.2.1 184 = .ok (.aload_n 0, 1) := by decide +kernel
theorem qd_48_185 : decode qm48.2.2.1 185 = .ok (.iload_n 2, 1) := by decide +kernel
theorem qd_48_186 : decode qm48.2.2.1 186 = .ok (.iload_n 3, 1) := by decide +kernel
theorem qd_48_187 : decode qm48.2.2.1 187 = .ok (.invokevirtual 67, 3) := by decide +kernel
theorem qd_48_190 : decode qm48.2.2.1 190 = .ok (.ireturn, 1) := by decide +kernel
theorem qd_48_191 : decode qm48.2.2.1 191 = .ok (.aload_n 0, 1) := by decide +kernel
theorem qd_48_192 : decode qm48.2.2.1 192 = .ok (.iload_n 3, 1) := by decide +kernel
theorem qd_48_193 : decode qm48.2.2.1 193 = .ok (.bipush 16, 2) := by decide +kernel
theorem qd_48_195 : decode qm48.2.2.1 195 = .ok (.invokevirtual 61, 3) := by decide +kernel
theorem qd_48_198 : decode qm48.2.2.1 198 = .ok (.ireturn, 1) := by decide +kernel
theorem qd_48_199 : decode qm48.2.2.1 199 = .ok (.aload_n 0, 1) := by decide +kernel
theorem qd_48_200 : decode qm48.2.2.1 200 = .ok (.iload_n 3, 1) := by decide +kernel
theorem qd_48_201 : decode qm48.2.2.1 201 = .ok (.bipush 32, 2) := by decide +kernel
theorem qd_48_203 : decode qm48.2.2.1 203 = .ok (.invokevirtual 61, 3) := by decide +kernel
theorem qd_48_206 : decode qm48.2.2.1 206 = .ok (.ireturn, 1) := by decide +kernel
theorem qd_48_207 : decode qm48.2.2.1 207 = .ok (.iload_n 2, 1) := by decide +kernel
theorem qd_48_208 : decode qm48.2.2.1 208 = .ok (.aload_n 0, 1) := by decide +kernel
theorem qd_48_209 : decode qm48.2.2.1 209 = .ok (.getfield 15, 3) := by decide +kernel
theorem qd_48_212 : decode qm48.2.2.1 212 = .ok (.iload_n 3, 1) := by decide +kernel
theorem qd_48_213 : decode qm48.2.2.1 213 = .ok (.invokevirtual 45, 3) := by decide +kernel
theorem qd_48_216 : decode qm48.2.2.1 216 = .ok (.invokestatic 70, 3) := by decide +kernel
theorem qd_48_219 : decode qm48.2.2.1 219 = .ok (.ireturn, 1) := by decide +kernel
theorem qd_48_220 : decode qm48.2.2.1 220 = .ok (.iconst 1, 1) := by decide +kernel
theorem qd_48_221 : decode qm48.2.2.1 221 = .ok (.ireturn, 1) := by decide +kernel
theorem qd_49_0 : decode qm49.2.2.1 0 = .ok (.aload_n 0, 1) := by decide +kernel
theorem qd_49_1 : decode qm49.2.2.1 1 = .ok (.getfield 20, 3) := by decide +kernel
theorem qd_49_4 : decode qm49.2.2.1 4 = .ok (.iload_n 1, 1) := by decide +kernel
theorem qd_49_5 : decode qm49.2.2.1 5 = .ok (.iconst 1, 1) := by decide +kernel
theorem qd_49_6 : decode qm49.2.2.1 6 = .ok (.invokevirtual 93, 3) := by decide +kernel
theorem qd_49_9 : decode qm49.2.2.1 9 = .ok (.ireturn, 1) := by decide +kernel
theorem qd_50_0 : decode qm50.2.2.1 0 = .ok (.aload_n 0, 1) := by decide +kernel
theorem qd_50_1 : decode qm50.2.2.1 1 = .ok (.getfield 20, 3) := by decide +kernel
theorem qd_50_4 : decode qm50.2.2.1 4 = .ok (.iload_n 1, 1) := by decide +kernel
theorem qd_50_5 : decode qm50.2.2.1 5 = .ok (.iconst 2, 1) := by decide +kernel
theorem qd_50_6 : decode qm50.2.2.1 6 = .ok (.invokevirtual 93, 3) := by decide +kernel
theorem qd_50_9 : decode qm50.2.2.1 9 = .ok (.ireturn, 1) := by decide +kernel
theorem qd_51_0 : decode qm51.2.2.1 0 = .ok (.aload_n 0, 1) := by decide +kernel
theorem qd_51_1 : decode qm51.2.2.1 1 = .ok (.getfield 20, 3) := by decide +kernel
theorem qd_51_4 : decode qm51.2.2.1 4 = .ok (.iload_n 1, 1) := by decide +kernel
theorem qd_51_5 : decode qm51.2.2.1 5 = .ok (.iconst 0, 1) := by decide +kernel
theorem qd_51_6 : decode qm51.2.2.1 6 = .ok (.invokevirtual 93, 3) := by decide +kernel
theorem qd_51_9 : decode qm51.2.2.1 9 = .ok (.iconst 1, 1) := by decide +kernel
theorem qd_51_10 : decode qm51.2.2.1 10 = .ok (.if_icmp .ne 21, 3) := by decide +kernel
theorem qd_51_13 : decode qm51.2.2.1 13 = .ok (.aload_n 0, 1) := by decide +kernel
theorem qd_51_14 : decode qm51.2.2.1 14 = .ok (.getfield 20, 3) := by decide +kernel
theorem qd_51_17 : decode qm51.2.2.1 17 = .ok (.iload_n 1, 1) := by decide +kernel
theorem qd_51_18 : decode qm51.2.2.1 18 = .ok (.iconst 5, 1) := by decide +kernel
theorem qd_51_19 : decode qm51.2.2.1 19 = .ok (.invokevirtual 93, 3) := by decide +kernel
theorem qd_51_22 : decode qm51.2.2.1 22 = .ok (.iload_n 2, 1) := by decide +kernel
theorem qd_51_23 : decode qm51.2.2.1 23 = .ok (.iand, 1) := by decide +kernel
theorem qd_51_24 : decode qm51.2.2.1 24 = .ok (.ifCond .eq 7, 3) := by decide +kernel
theorem qd_51_27 : decode qm51.2.2.1 27 = .ok (.iconst 1, 1) := by decide +kernel
theorem qd_51_28 : decode qm51.2.2.1 28 = .ok (.goto 4, 3) := by decide +kernel
theorem qd_51_31 : decode qm51.2.2.1 31 = .ok (.iconst 0, 1) := by decide +kernel
theorem qd_51_32 : decode qm51.2.2.1 32 = .ok (.ireturn, 1) := by decide +kernel
theorem qd_52_0 : decode qm52.2.2.1 0 = .ok (.aload_n 0, 1) := by decide +kernel
theorem qd_52_1 : decode qm52.2.2.1 1 = .ok (.getfield 15, 3) := by decide +kernel
theorem qd_52_4 : decode qm52.2.2.1 4 = .ok (.iload_n 1, 1) := by decide +kernel
theorem qd_52_5 : decode qm52.2.2.1 5 = .ok (.invokevirtual 45, 3) := by decide +kernel
theorem qd_52_8 : decode qm52.2.2.1 8 = .ok (.bipush 12, 2) := by decide +kernel
theorem qd_52_10 : decode qm52.2.2.1 10 = .ok (.if_icmp .ne 26, 3) := by decide +kernel
theorem qd_52_13 : decode qm52.2.2.1 13 = .ok (.aload_n 0, 1) := by decide +kernel
theorem qd_52_14 : decode qm52.2.2.1 14 = .ok (.getfield 15, 3) := by decide +kernel
theorem qd_52_17 : decode qm52.2.2.1 17 = .ok (.aload_n 0, 1) := by decide +kernel
theorem qd_52_18 : decode qm52.2.2.1 18 = .ok (.getfield 15, 3) := by decide +kernel
theorem qd_52_21 : decode qm52.2.2.1 21 = .ok (.iload_n 1, 1) := by decide +kernel
theorem qd_52_22 : decode qm52.2.2.1 22 = .ok (.invokevirtual 52, 3) := by decide +kernel
theorem qd_52_25 : decode qm52.2.2.1 25 = .ok (.iload_n 2, 1) := by decide +kernel
theorem qd_52_26 : decode qm52.2.2.1 26 = .ok (.invokevirtual 57, 3) := by decide +kernel
theorem qd_52_29 : decode qm52.2.2.1 29 = .ok (.ifCond .eq 7, 3) := by decide +kernel
theorem qd_52_32 : decode qm52.2.2.1 32 = .ok (.iconst 1, 1) := by decide +kernel
theorem qd_52_33 : decode qm52.2.2.1 33 = .ok (.goto 4, 3) := by decide +kernel
theorem qd_52_36 : decode qm52.2.2.1 36 = .ok (.iconst 0, 1) := by decide +kernel
theorem qd_52_37 : decode qm52.2.2.1 37 = .ok (.ireturn, 1) := by decide +kernel
