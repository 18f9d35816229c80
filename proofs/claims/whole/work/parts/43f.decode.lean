/-! the code, instruction by instruction: printed by a program of mine (wip/whole/gen_blocks.py, emit.py) -/
theorem qd_181_0 : decode qm181.2.2.1 0 = .ok (.aload_n 0, 1) := by decide +kernel
theorem qd_181_1 : decode qm181.2.2.1 1 = .ok (.invokevirtual 262, 3) := by decide +kernel
theorem qd_181_4 : decode qm181.2.2.1 4 = .ok (.ifCond .ne 5, 3) := by decide +kernel
theorem qd_181_7 : decode qm181.2.2.1 7 = .ok (.iconst 0, 1) := by decide +kernel
theorem qd_181_8 : decode qm181.2.2.1 8 = .ok (.ireturn, 1) := by decide +kernel
theorem qd_181_9 : decode qm181.2.2.1 9 = .ok (.aload_n 0, 1) := by decide +kernel
theorem qd_181_10 : decode qm181.2.2.1 10 = .ok (.iload_n 1, 1) := by decide +kernel
theorem qd_181_11 : decode qm181.2.2.1 11 = .ok (.invokevirtual 137, 3) := by decide +kernel
theorem qd_181_14 : decode qm181.2.2.1 14 = .ok (.istore_n 3, 1) := by decide +kernel
theorem qd_181_15 : decode qm181.2.2.1 15 = .ok (.iload_n 3, 1) := by decide +kernel
theorem qd_181_16 : decode qm181.2.2.1 16 = .ok (.bipush 7, 2) := by decide +kernel
theorem qd_181_18 : decode qm181.2.2.1 18 = .ok (.if_icmp .eq 15, 3) := by decide +kernel
theorem qd_181_21 : decode qm181.2.2.1 21 = .ok (.iload_n 3, 1) := by decide +kernel
theorem qd_181_22 : decode qm181.2.2.1 22 = .ok (.bipush 8, 2) := by decide +kernel
theorem qd_181_24 : decode qm181.2.2.1 24 = .ok (.if_icmp .eq 9, 3) := by decide +kernel
theorem qd_181_27 : decode qm181.2.2.1 27 = .ok (.iload_n 3, 1) := by decide +kernel
theorem qd_181_28 : decode qm181.2.2.1 28 = .ok (.bipush 16, 2) := by decide +kernel
theorem qd_181_30 : decode qm181.2.2.1 30 = .ok (.if_icmp .ne 11, 3) := by decide +kernel
theorem qd_181_33 : decode qm181.2.2.1 33 = .ok (.aload_n 0, 1) := by decide +kernel
theorem qd_181_34 : decode qm181.2.2.1 34 = .ok (.iload_n 1, 1) := by decide +kernel
theorem qd_181_35 : decode qm181.2.2.1 35 = .ok (.invokevirtual 149, 3) := by decide +kernel
theorem qd_181_38 : decode qm181.2.2.1 38 = .ok (.goto 4, 3) := by decide +kernel
theorem qd_181_41 : decode qm181.2.2.1 41 = .ok (.iload_n 1, 1) := by decide +kernel
theorem qd_181_42 : decode qm181.2.2.1 42 = .ok (.istore 4, 2) := by decide +kernel
theorem qd_181_44 : decode qm181.2.2.1 44 = .ok (.iload_n 3, 1) := by decide +kernel
theorem qd_181_45 : decode qm181.2.2.1 45 = .ok (.iconst 1, 1) := by decide +kernel
theorem qd_181_46 : decode qm181.2.2.1 46 = .ok (.if_icmp .eq 30, 3) := by decide +kernel
theorem qd_181_49 : decode qm181.2.2.1 49 = .ok (.iload 4, 2) := by decide +kernel
theorem qd_181_51 : decode qm181.2.2.1 51 = .ok (.iload_n 1, 1) := by decide +kernel
theorem qd_181_52 : decode qm181.2.2.1 52 = .ok (.if_icmp .ne 24, 3) := by decide +kernel
theorem qd_181_55 : decode qm181.2.2.1 55 = .ok (.iload_n 3, 1) := by decide +kernel
theorem qd_181_56 : decode qm181.2.2.1 56 = .ok (.bipush 7, 2) := by decide +kernel
theorem qd_181_58 : decode qm181.2.2.1 58 = .ok (.if_icmp .eq 18, 3) := by decide +kernel
theorem qd_181_61 : decode qm181.2.2.1 61 = .ok (.iload_n 3, 1) := by decide +kernel
theorem qd_181_62 : decode qm181.2.2.1 62 = .ok (.bipush 8, 2) := by decide +kernel
theorem qd_181_64 : decode qm181.2.2.1 64 = .ok (.if_icmp .eq 12, 3) := by decide +kernel
theorem qd_181_67 : decode qm181.2.2.1 67 = .ok (.iload_n 3, 1) := by decide +kernel
theorem qd_181_68 : decode qm181.2.2.1 68 = .ok (.bipush 16, 2) := by decide +kernel
theorem qd_181_70 : decode qm181.2.2.1 70 = .ok (.if_icmp .eq 6, 3) := by decide +kernel
theorem qd_181_73 : decode qm181.2.2.1 73 = .ok (.bipush (-2), 2) := by decide +kernel
theorem qd_181_75 : decode qm181.2.2.1 75 = .ok (.ireturn, 1) := by decide +kernel
theorem qd_181_76 : decode qm181.2.2.1 76 = .ok (.aload_n 0, 1) := by decide +kernel
theorem qd_181_77 : decode qm181.2.2.1 77 = .ok (.iload 4, 2) := by decide +kernel
theorem qd_181_79 : decode qm181.2.2.1 79 = .ok (.invokevirtual 104, 3) := by decide +kernel
theorem qd_181_82 : decode qm181.2.2.1 82 = .ok (.istore 5, 2) := by decide +kernel
theorem qd_181_84 : decode qm181.2.2.1 84 = .ok (.iload_n 2, 1) := by decide +kernel
theorem qd_181_85 : decode qm181.2.2.1 85 = .ok (.iconst (-1), 1) := by decide +kernel
theorem qd_181_86 : decode qm181.2.2.1 86 = .ok (.if_icmp .ne 8, 3) := by decide +kernel
theorem qd_181_89 : decode qm181.2.2.1 89 = .ok (.iload 5, 2) := by decide +kernel
theorem qd_181_91 : decode qm181.2.2.1 91 = .ok (.goto 27, 3) := by decide +kernel
theorem qd_181_94 : decode qm181.2.2.1 94 = .ok (.iload_n 2, 1) := by decide +kernel
theorem qd_181_95 : decode qm181.2.2.1 95 = .ok (.iconst 0, 1) := by decide +kernel
theorem qd_181_96 : decode qm181.2.2.1 96 = .ok (.iload 5, 2) := by decide +kernel
theorem qd_181_98 : decode qm181.2.2.1 98 = .ok (.iconst 1, 1) := by decide +kernel
theorem qd_181_99 : decode qm181.2.2.1 99 = .ok (.isub, 1) := by decide +kernel
theorem qd_181_100 : decode qm181.2.2.1 100 = .ok (.invokestatic 63, 3) := by decide +kernel
theorem qd_181_103 : decode qm181.2.2.1 103 = .ok (.ifCond .eq 13, 3) := by decide +kernel
theorem qd_181_106 : decode qm181.2.2.1 106 = .ok (.aload_n 0, 1) := by decide +kernel
theorem qd_181_107 : decode qm181.2.2.1 107 = .ok (.iload 4, 2) := by decide +kernel
theorem qd_181_109 : decode qm181.2.2.1 109 = .ok (.iload_n 2, 1) := by decide +kernel
theorem qd_181_110 : decode qm181.2.2.1 110 = .ok (.invokevirtual 107, 3) := by decide +kernel
theorem qd_181_113 : decode qm181.2.2.1 113 = .ok (.goto 5, 3) := by decide +kernel
theorem qd_181_116 : decode qm181.2.2.1 116 = .ok (.bipush (-2), 2) := by decide +kernel
theorem qd_181_118 : decode qm181.2.2.1 118 = .ok (.ireturn, 1) := by decide +kernel
theorem qd_182_0 : decode qm182.2.2.1 0 = .ok (.aload_n 0, 1) := by decide +kernel
theorem qd_182_1 : decode qm182.2.2.1 1 = .ok (.invokevirtual 262, 3) := by decide +kernel
theorem qd_182_4 : decode qm182.2.2.1 4 = .ok (.ifCond .ne 5, 3) := by decide +kernel
theorem qd_182_7 : decode qm182.2.2.1 7 = .ok (.iconst 0, 1) := by decide +kernel
theorem qd_182_8 : decode qm182.2.2.1 8 = .ok (.ireturn, 1) := by decide +kernel
theorem qd_182_9 : decode qm182.2.2.1 9 = .ok (.aload_n 0, 1) := by decide +kernel
theorem qd_182_10 : decode qm182.2.2.1 10 = .ok (.iload_n 1, 1) := by decide +kernel
theorem qd_182_11 : decode qm182.2.2.1 11 = .ok (.invokevirtual 137, 3) := by decide +kernel
theorem qd_182_14 : decode qm182.2.2.1 14 = .ok (.ifCond .ne 6, 3) := by decide +kernel
theorem qd_182_17 : decode qm182.2.2.1 17 = .ok (.bipush (-2), 2) := by decide +kernel
theorem qd_182_19 : decode qm182.2.2.1 19 = .ok (.ireturn, 1) := by decide +kernel
theorem qd_182_20 : decode qm182.2.2.1 20 = .ok (.aload_n 0, 1) := by decide +kernel
theorem qd_182_21 : decode qm182.2.2.1 21 = .ok (.iload_n 1, 1) := by decide +kernel
theorem qd_182_22 : decode qm182.2.2.1 22 = .ok (.invokevirtual 306, 3) := by decide +kernel
theorem qd_182_25 : decode qm182.2.2.1 25 = .ok (.istore_n 3, 1) := by decide +kernel
theorem qd_182_26 : decode qm182.2.2.1 26 = .ok (.iload_n 2, 1) := by decide +kernel
theorem qd_182_27 : decode qm182.2.2.1 27 = .ok (.iconst (-1), 1) := by decide +kernel
theorem qd_182_28 : decode qm182.2.2.1 28 = .ok (.if_icmp .ne 7, 3) := by decide +kernel
theorem qd_182_31 : decode qm182.2.2.1 31 = .ok (.iload_n 3, 1) := by decide +kernel
theorem qd_182_32 : decode qm182.2.2.1 32 = .ok (.goto 25, 3) := by decide +kernel
theorem qd_182_35 : decode qm182.2.2.1 35 = .ok (.iload_n 2, 1) := by decide +kernel
theorem qd_182_36 : decode qm182.2.2.1 36 = .ok (.iconst 0, 1) := by decide +kernel
theorem qd_182_37 : decode qm182.2.2.1 37 = .ok (.iload_n 3, 1) := by decide +kernel
theorem qd_182_38 : decode qm182.2.2.1 38 = .ok (.iconst 1, 1) := by decide +kernel
theorem qd_182_39 : decode qm182.2.2.1 39 = .ok (.isub, 1) := by decide +kernel
theorem qd_182_40 : decode qm182.2.2.1 40 = .ok (.invokestatic 63, 3) := by decide +kernel
theorem qd_182_43 : decode qm182.2.2.1 43 = .ok (.ifCond .eq 12, 3) := by decide +kernel
theorem qd_182_46 : decode qm182.2.2.1 46 = .ok (.aload_n 0, 1) := by decide +kernel
theorem qd_182_47 : decode qm182.2.2.1 47 = .ok (.getfield 57, 3) := by decide +kernel
theorem qd_182_50 : decode qm182.2.2.1 50 = .ok (.iload_n 2, 1) := by decide +kernel
theorem qd_182_51 : decode qm182.2.2.1 51 = .ok (.iaload, 1) := by decide +kernel
theorem qd_182_52 : decode qm182.2.2.1 52 = .ok (.goto 5, 3) := by decide +kernel
theorem qd_182_55 : decode qm182.2.2.1 55 = .ok (.bipush (-2), 2) := by decide +kernel
theorem qd_182_57 : decode qm182.2.2.1 57 = .ok (.ireturn, 1) := by decide +kernel
theorem qd_183_0 : decode qm183.2.2.1 0 = .ok (.aload_n 0, 1) := by decide +kernel
theorem qd_183_1 : decode qm183.2.2.1 1 = .ok (.iload_n 1, 1) := by decide +kernel
theorem qd_183_2 : decode qm183.2.2.1 2 = .ok (.invokevirtual 137, 3) := by decide +kernel
theorem qd_183_5 : decode qm183.2.2.1 5 = .ok (.istore_n 2, 1) := by decide +kernel
theorem qd_183_6 : decode qm183.2.2.1 6 = .ok (.iload_n 2, 1) := by decide +kernel
theorem qd_183_7 : decode qm183.2.2.1 7 = .ok (.bipush 7, 2) := by decide +kernel
theorem qd_183_9 : decode qm183.2.2.1 9 = .ok (.if_icmp .ne 10, 3) := by decide +kernel
theorem qd_183_12 : decode qm183.2.2.1 12 = .ok (.aload_n 0, 1) := by decide +kernel
theorem qd_183_13 : decode qm183.2.2.1 13 = .ok (.iconst 0, 1) := by decide +kernel
theorem qd_183_14 : decode qm183.2.2.1 14 = .ok (.iload_n 1, 1) := by decide +kernel
theorem qd_183_15 : decode qm183.2.2.1 15 = .ok (.invokevirtual 297, 3) := by decide +kernel
theorem qd_183_18 : decode qm183.2.2.1 18 = .ok (.ireturn, 1) := by decide +kernel
theorem qd_183_19 : decode qm183.2.2.1 19 = .ok (.iload_n 2, 1) := by decide +kernel
theorem qd_183_20 : decode qm183.2.2.1 20 = .ok (.bipush 12, 2) := by decide +kernel
theorem qd_183_22 : decode qm183.2.2.1 22 = .ok (.if_icmp .ne 11, 3) := by decide +kernel
theorem qd_183_25 : decode qm183.2.2.1 25 = .ok (.aload_n 0, 1) := by decide +kernel
theorem qd_183_26 : decode qm183.2.2.1 26 = .ok (.iconst 0, 1) := by decide +kernel
theorem qd_183_27 : decode qm183.2.2.1 27 = .ok (.iload_n 1, 1) := by decide +kernel
theorem qd_183_28 : decode qm183.2.2.1 28 = .ok (.iconst 0, 1) := by decide +kernel
theorem qd_183_29 : decode qm183.2.2.1 29 = .ok (.invokevirtual 303, 3) := by decide +kernel
theorem qd_183_32 : decode qm183.2.2.1 32 = .ok (.ireturn, 1) := by decide +kernel
theorem qd_183_33 : decode qm183.2.2.1 33 = .ok (.iload_n 2, 1) := by decide +kernel
theorem qd_183_34 : decode qm183.2.2.1 34 = .ok (.bipush 9, 2) := by decide +kernel
theorem qd_183_36 : decode qm183.2.2.1 36 = .ok (.bipush 11, 2) := by decide +kernel
theorem qd_183_38 : decode qm183.2.2.1 38 = .ok (.invokestatic 63, 3) := by decide +kernel
theorem qd_183_41 : decode qm183.2.2.1 41 = .ok (.ifCond .eq 21, 3) := by decide +kernel
theorem qd_183_44 : decode qm183.2.2.1 44 = .ok (.aload_n 0, 1) := by decide +kernel
theorem qd_183_45 : decode qm183.2.2.1 45 = .ok (.iload_n 1, 1) := by decide +kernel
theorem qd_183_46 : decode qm183.2.2.1 46 = .ok (.invokevirtual 149, 3) := by decide +kernel
theorem qd_183_49 : decode qm183.2.2.1 49 = .ok (.istore_n 3, 1) := by decide +kernel
theorem qd_183_50 : decode qm183.2.2.1 50 = .ok (.aload_n 0, 1) := by decide +kernel
theorem qd_183_51 : decode qm183.2.2.1 51 = .ok (.iconst 0, 1) := by decide +kernel
theorem qd_183_52 : decode qm183.2.2.1 52 = .ok (.aload_n 0, 1) := by decide +kernel
theorem qd_183_53 : decode qm183.2.2.1 53 = .ok (.iload_n 1, 1) := by decide +kernel
theorem qd_183_54 : decode qm183.2.2.1 54 = .ok (.invokevirtual 140, 3) := by decide +kernel
theorem qd_183_57 : decode qm183.2.2.1 57 = .ok (.iload_n 3, 1) := by decide +kernel
theorem qd_183_58 : decode qm183.2.2.1 58 = .ok (.invokevirtual 303, 3) := by decide +kernel
theorem qd_183_61 : decode qm183.2.2.1 61 = .ok (.ireturn, 1) := by decide +kernel
theorem qd_183_62 : decode qm183.2.2.1 62 = .ok (.iload_n 2, 1) := by decide +kernel
theorem qd_183_63 : decode qm183.2.2.1 63 = .ok (.bipush 16, 2) := by decide +kernel
theorem qd_183_65 : decode qm183.2.2.1 65 = .ok (.if_icmp .eq 5, 3) := by decide +kernel
theorem qd_183_68 : decode qm183.2.2.1 68 = .ok (.iconst 0, 1) := by decide +kernel
theorem qd_183_69 : decode qm183.2.2.1 69 = .ok (.ireturn, 1) := by decide +kernel
theorem qd_183_70 : decode qm183.2.2.1 70 = .ok (.aload_n 0, 1) := by decide +kernel
theorem qd_183_71 : decode qm183.2.2.1 71 = .ok (.iload_n 1, 1) := by decide +kernel
theorem qd_183_72 : decode qm183.2.2.1 72 = .ok (.invokevirtual 149, 3) := by decide +kernel
theorem qd_183_75 : decode qm183.2.2.1 75 = .ok (.istore 4, 2) := by decide +kernel
theorem qd_183_77 : decode qm183.2.2.1 77 = .ok (.aload_n 0, 1) := by decide +kernel
theorem qd_183_78 : decode qm183.2.2.1 78 = .ok (.iload 4, 2) := by decide +kernel
theorem qd_183_80 : decode qm183.2.2.1 80 = .ok (.invokevirtual 146, 3) := by decide +kernel
theorem qd_183_83 : decode qm183.2.2.1 83 = .ok (.ifCond .ne 5, 3) := by decide +kernel
theorem qd_183_86 : decode qm183.2.2.1 86 = .ok (.iconst 0, 1) := by decide +kernel
theorem qd_183_87 : decode qm183.2.2.1 87 = .ok (.ireturn, 1) := by decide +kernel
theorem qd_183_88 : decode qm183.2.2.1 88 = .ok (.aload_n 0, 1) := by decide +kernel
theorem qd_183_89 : decode qm183.2.2.1 89 = .ok (.iconst 0, 1) := by decide +kernel
theorem qd_183_90 : decode qm183.2.2.1 90 = .ok (.iload 4, 2) := by decide +kernel
theorem qd_183_92 : decode qm183.2.2.1 92 = .ok (.aload_n 0, 1) := by decide +kernel
theorem qd_183_93 : decode qm183.2.2.1 93 = .ok (.getfield 131, 3) := by decide +kernel
theorem qd_183_96 : decode qm183.2.2.1 96 = .ok (.iconst 1, 1) := by decide +kernel
theorem qd_183_97 : decode qm183.2.2.1 97 = .ok (.iadd, 1) := by decide +kernel
theorem qd_183_98 : decode qm183.2.2.1 98 = .ok (.invokevirtual 294, 3) := by decide +kernel
theorem qd_183_101 : decode qm183.2.2.1 101 = .ok (.istore_n 3, 1) := by decide +kernel
theorem qd_183_102 : decode qm183.2.2.1 102 = .ok (.aload_n 0, 1) := by decide +kernel
theorem qd_183_103 : decode qm183.2.2.1 103 = .ok (.iload_n 3, 1) := by decide +kernel
theorem qd_183_104 : decode qm183.2.2.1 104 = .ok (.iload 4, 2) := by decide +kernel
theorem qd_183_106 : decode qm183.2.2.1 106 = .ok (.invokevirtual 300, 3) := by decide +kernel
theorem qd_183_109 : decode qm183.2.2.1 109 = .ok (.ireturn, 1) := by decide +kernel
theorem qd_184_0 : decode qm184.2.2.1 0 = .ok (.aload_n 0, 1) := by decide +kernel
theorem qd_184_1 : decode qm184.2.2.1 1 = .ok (.iload_n 2, 1) := by decide +kernel
theorem qd_184_2 : decode qm184.2.2.1 2 = .ok (.invokevirtual 149, 3) := by decide +kernel
theorem qd_184_5 : decode qm184.2.2.1 5 = .ok (.istore_n 3, 1) := by decide +kernel
theorem qd_184_6 : decode qm184.2.2.1 6 = .ok (.aload_n 0, 1) := by decide +kernel
theorem qd_184_7 : decode qm184.2.2.1 7 = .ok (.iload_n 3, 1) := by decide +kernel
theorem qd_184_8 : decode qm184.2.2.1 8 = .ok (.iconst 0, 1) := by decide +kernel
theorem qd_184_9 : decode qm184.2.2.1 9 = .ok (.invokevirtual 107, 3) := by decide +kernel
theorem qd_184_12 : decode qm184.2.2.1 12 = .ok (.bipush 91, 2) := by decide +kernel
theorem qd_184_14 : decode qm184.2.2.1 14 = .ok (.if_icmp .ne 13, 3) := by decide +kernel
theorem qd_184_17 : decode qm184.2.2.1 17 = .ok (.aload_n 0, 1) := by decide +kernel
theorem qd_184_18 : decode qm184.2.2.1 18 = .ok (.iload_n 1, 1) := by decide +kernel
theorem qd_184_19 : decode qm184.2.2.1 19 = .ok (.iload_n 3, 1) := by decide +kernel
theorem qd_184_20 : decode qm184.2.2.1 20 = .ok (.iconst 0, 1) := by decide +kernel
theorem qd_184_21 : decode qm184.2.2.1 21 = .ok (.invokevirtual 294, 3) := by decide +kernel
theorem qd_184_24 : decode qm184.2.2.1 24 = .ok (.goto 11, 3) := by decide +kernel
theorem qd_184_27 : decode qm184.2.2.1 27 = .ok (.aload_n 0, 1) := by decide +kernel
theorem qd_184_28 : decode qm184.2.2.1 28 = .ok (.iload_n 1, 1) := by decide +kernel
theorem qd_184_29 : decode qm184.2.2.1 29 = .ok (.iload_n 3, 1) := by decide +kernel
theorem qd_184_30 : decode qm184.2.2.1 30 = .ok (.iconst 0, 1) := by decide +kernel
theorem qd_184_31 : decode qm184.2.2.1 31 = .ok (.iconst (-1), 1) := by decide +kernel
theorem qd_184_32 : decode qm184.2.2.1 32 = .ok (.invokevirtual 287, 3) := by decide +kernel
theorem qd_184_35 : decode qm184.2.2.1 35 = .ok (.ireturn, 1) := by decide +kernel
theorem qd_185_0 : decode qm185.2.2.1 0 = .ok (.iload_n 3, 1) := by decide +kernel
theorem qd_185_1 : decode qm185.2.2.1 1 = .ok (.istore 4, 2) := by decide +kernel
theorem qd_185_3 : decode qm185.2.2.1 3 = .ok (.aload_n 0, 1) := by decide +kernel
theorem qd_185_4 : decode qm185.2.2.1 4 = .ok (.iload_n 2, 1) := by decide +kernel
theorem qd_185_5 : decode qm185.2.2.1 5 = .ok (.iload 4, 2) := by decide +kernel
theorem qd_185_7 : decode qm185.2.2.1 7 = .ok (.invokevirtual 107, 3) := by decide +kernel
theorem qd_185_10 : decode qm185.2.2.1 10 = .ok (.bipush 91, 2) := by decide +kernel
theorem qd_185_12 : decode qm185.2.2.1 12 = .ok (.if_icmp .ne 9, 3) := by decide +kernel
theorem qd_185_15 : decode qm185.2.2.1 15 = .ok (.iinc 4 1, 3) := by decide +kernel
theorem qd_185_18 : decode qm185.2.2.1 18 = .ok (.goto (-15), 3) := by decide +kernel
theorem qd_185_21 : decode qm185.2.2.1 21 = .ok (.aload_n 0, 1) := by decide +kernel
theorem qd_185_22 : decode qm185.2.2.1 22 = .ok (.iload_n 2, 1) := by decide +kernel
theorem qd_185_23 : decode qm185.2.2.1 23 = .ok (.iload 4, 2) := by decide +kernel
theorem qd_185_25 : decode qm185.2.2.1 25 = .ok (.invokevirtual 107, 3) := by decide +kernel
theorem qd_185_28 : decode qm185.2.2.1 28 = .ok (.istore 6, 2) := by decide +kernel
theorem qd_185_30 : decode qm185.2.2.1 30 = .ok (.iload 6, 2) := by decide +kernel
theorem qd_185_32 : decode qm185.2.2.1 32 = .ok (.bipush 76, 2) := by decide +kernel
theorem qd_185_34 : decode qm185.2.2.1 34 = .ok (.if_icmp .ne 20, 3) := by decide +kernel
theorem qd_185_37 : decode qm185.2.2.1 37 = .ok (.aload_n 0, 1) := by decide +kernel
theorem qd_185_38 : decode qm185.2.2.1 38 = .ok (.iload_n 1, 1) := by decide +kernel
theorem qd_185_39 : decode qm185.2.2.1 39 = .ok (.iload_n 2, 1) := by decide +kernel
theorem qd_185_40 : decode qm185.2.2.1 40 = .ok (.iload 4, 2) := by decide +kernel
theorem qd_185_42 : decode qm185.2.2.1 42 = .ok (.iconst 1, 1) := by decide +kernel
theorem qd_185_43 : decode qm185.2.2.1 43 = .ok (.iadd, 1) := by decide +kernel
theorem qd_185_44 : decode qm185.2.2.1 44 = .ok (.bipush 59, 2) := by decide +kernel
theorem qd_185_46 : decode qm185.2.2.1 46 = .ok (.invokevirtual 287, 3) := by decide +kernel
theorem qd_185_49 : decode qm185.2.2.1 49 = .ok (.istore 5, 2) := by decide +kernel
theorem qd_185_51 : decode qm185.2.2.1 51 = .ok (.goto 30, 3) := by decide +kernel
theorem qd_185_54 : decode qm185.2.2.1 54 = .ok (.aload_n 0, 1) := by decide +kernel
theorem qd_185_55 : decode qm185.2.2.1 55 = .ok (.iload_n 1, 1) := by decide +kernel
theorem qd_185_56 : decode qm185.2.2.1 56 = .ok (.iload 6, 2) := by decide +kernel
theorem qd_185_58 : decode qm185.2.2.1 58 = .ok (.bipush 86, 2) := by decide +kernel
theorem qd_185_60 : decode qm185.2.2.1 60 = .ok (.if_icmp .ne 8, 3) := by decide +kernel
theorem qd_185_63 : decode qm185.2.2.1 63 = .ok (.bipush 20, 2) := by decide +kernel
theorem qd_185_65 : decode qm185.2.2.1 65 = .ok (.goto 11, 3) := by decide +kernel
theorem qd_185_68 : decode qm185.2.2.1 68 = .ok (.bipush 12, 2) := by decide +kernel
theorem qd_185_70 : decode qm185.2.2.1 70 = .ok (.iload 6, 2) := by decide +kernel
theorem qd_185_72 : decode qm185.2.2.1 72 = .ok (.invokestatic 118, 3) := by decide +kernel
theorem qd_185_75 : decode qm185.2.2.1 75 = .ok (.iadd, 1) := by decide +kernel
theorem qd_185_76 : decode qm185.2.2.1 76 = .ok (.invokevirtual 291, 3) := by decide +kernel
theorem qd_185_79 : decode qm185.2.2.1 79 = .ok (.istore 5, 2) := by decide +kernel
theorem qd_185_81 : decode qm185.2.2.1 81 = .ok (.iload_n 3, 1) := by decide +kernel
theorem qd_185_82 : decode qm185.2.2.1 82 = .ok (.istore 7, 2) := by decide +kernel
theorem qd_185_84 : decode qm185.2.2.1 84 = .ok (.iload 7, 2) := by decide +kernel
theorem qd_185_86 : decode qm185.2.2.1 86 = .ok (.iload 4, 2) := by decide +kernel
theorem qd_185_88 : decode qm185.2.2.1 88 = .ok (.if_icmp .ge 29, 3) := by decide +kernel
theorem qd_185_91 : decode qm185.2.2.1 91 = .ok (.aload_n 0, 1) := by decide +kernel
theorem qd_185_92 : decode qm185.2.2.1 92 = .ok (.iload 5, 2) := by decide +kernel
theorem qd_185_94 : decode qm185.2.2.1 94 = .ok (.bipush 91, 2) := by decide +kernel
theorem qd_185_96 : decode qm185.2.2.1 96 = .ok (.invokevirtual 284, 3) := by decide +kernel
theorem qd_185_99 : decode qm185.2.2.1 99 = .ok (.istore 5, 2) := by decide +kernel
theorem qd_185_101 : decode qm185.2.2.1 101 = .ok (.aload_n 0, 1) := by decide +kernel
theorem qd_185_102 : decode qm185.2.2.1 102 = .ok (.iload 5, 2) := by decide +kernel
theorem qd_185_104 : decode qm185.2.2.1 104 = .ok (.bipush 93, 2) := by decide +kernel
theorem qd_185_106 : decode qm185.2.2.1 106 = .ok (.invokevirtual 284, 3) := by decide +kernel
theorem qd_185_109 : decode qm185.2.2.1 109 = .ok (.istore 5, 2) := by decide +kernel
theorem qd_185_111 : decode qm185.2.2.1 111 = .ok (.iinc 7 1, 3) := by decide +kernel
theorem qd_185_114 : decode qm185.2.2.1 114 = .ok (.goto (-30), 3) := by decide +kernel
theorem qd_185_117 : decode qm185.2.2.1 117 = .ok (.iload 5, 2) := by decide +kernel
theorem qd_185_119 : decode qm185.2.2.1 119 = .ok (.ireturn, 1) := by decide +kernel
theorem qd_186_0 : decode qm186.2.2.1 0 = .ok (.iload_n 1, 1) := by decide +kernel
theorem qd_186_1 : decode qm186.2.2.1 1 = .ok (.istore 5, 2) := by decide +kernel
theorem qd_186_3 : decode qm186.2.2.1 3 = .ok (.iload_n 3, 1) := by decide +kernel
theorem qd_186_4 : decode qm186.2.2.1 4 = .ok (.istore 6, 2) := by decide +kernel
theorem qd_186_6 : decode qm186.2.2.1 6 = .ok (.aload_n 0, 1) := by decide +kernel
theorem qd_186_7 : decode qm186.2.2.1 7 = .ok (.iload_n 2, 1) := by decide +kernel
theorem qd_186_8 : decode qm186.2.2.1 8 = .ok (.iload 6, 2) := by decide +kernel
theorem qd_186_10 : decode qm186.2.2.1 10 = .ok (.invokevirtual 107, 3) := by decide +kernel
theorem qd_186_13 : decode qm186.2.2.1 13 = .ok (.iload 4, 2) := by decide +kernel
theorem qd_186_15 : decode qm186.2.2.1 15 = .ok (.if_icmp .eq 51, 3) := by decide +kernel
theorem qd_186_18 : decode qm186.2.2.1 18 = .ok (.aload_n 0, 1) := by decide +kernel
theorem qd_186_19 : decode qm186.2.2.1 19 = .ok (.iload_n 2, 1) := by decide +kernel
theorem qd_186_20 : decode qm186.2.2.1 20 = .ok (.iload 6, 2) := by decide +kernel
theorem qd_186_22 : decode qm186.2.2.1 22 = .ok (.invokevirtual 107, 3) := by decide +kernel
theorem qd_186_25 : decode qm186.2.2.1 25 = .ok (.ifCond .lt 41, 3) := by decide +kernel
theorem qd_186_28 : decode qm186.2.2.1 28 = .ok (.aload_n 0, 1) := by decide +kernel
theorem qd_186_29 : decode qm186.2.2.1 29 = .ok (.iload 5, 2) := by decide +kernel
theorem qd_186_31 : decode qm186.2.2.1 31 = .ok (.aload_n 0, 1) := by decide +kernel
theorem qd_186_32 : decode qm186.2.2.1 32 = .ok (.iload_n 2, 1) := by decide +kernel
theorem qd_186_33 : decode qm186.2.2.1 33 = .ok (.iload 6, 2) := by decide +kernel
theorem qd_186_35 : decode qm186.2.2.1 35 = .ok (.invokevirtual 107, 3) := by decide +kernel
theorem qd_186_38 : decode qm186.2.2.1 38 = .ok (.bipush 47, 2) := by decide +kernel
theorem qd_186_40 : decode qm186.2.2.1 40 = .ok (.if_icmp .ne 8, 3) := by decide +kernel
theorem qd_186_43 : decode qm186.2.2.1 43 = .ok (.bipush 46, 2) := by decide +kernel
theorem qd_186_45 : decode qm186.2.2.1 45 = .ok (.goto 10, 3) := by decide +kernel
theorem qd_186_48 : decode qm186.2.2.1 48 = .ok (.aload_n 0, 1) := by decide +kernel
theorem qd_186_49 : decode qm186.2.2.1 49 = .ok (.iload_n 2, 1) := by decide +kernel
theorem qd_186_50 : decode qm186.2.2.1 50 = .ok (.iload 6, 2) := by decide +kernel
theorem qd_186_52 : decode qm186.2.2.1 52 = .ok (.invokevirtual 107, 3) := by decide +kernel
theorem qd_186_55 : decode qm186.2.2.1 55 = .ok (.invokevirtual 284, 3) := by decide +kernel
theorem qd_186_58 : decode qm186.2.2.1 58 = .ok (.istore 5, 2) := by decide +kernel
theorem qd_186_60 : decode qm186.2.2.1 60 = .ok (.iinc 6 1, 3) := by decide +kernel
theorem qd_186_63 : decode qm186.2.2.1 63 = .ok (.goto (-57), 3) := by decide +kernel
theorem qd_186_66 : decode qm186.2.2.1 66 = .ok (.iload 5, 2) := by decide +kernel
theorem qd_186_68 : decode qm186.2.2.1 68 = .ok (.ireturn, 1) := by decide +kernel
theorem qd_187_0 : decode qm187.2.2.1 0 = .ok (.aload_n 0, 1) := by decide +kernel
theorem qd_187_1 : decode qm187.2.2.1 1 = .ok (.getfield 57, 3) := by decide +kernel
theorem qd_187_4 : decode qm187.2.2.1 4 = .ok (.iload_n 1, 1) := by decide +kernel
theorem qd_187_5 : decode qm187.2.2.1 5 = .ok (.iload_n 2, 1) := by decide +kernel
theorem qd_187_6 : decode qm187.2.2.1 6 = .ok (.iastore, 1) := by decide +kernel
theorem qd_187_7 : decode qm187.2.2.1 7 = .ok (.iload_n 1, 1) := by decide +kernel
theorem qd_187_8 : decode qm187.2.2.1 8 = .ok (.iconst 1, 1) := by decide +kernel
theorem qd_187_9 : decode qm187.2.2.1 9 = .ok (.iadd, 1) := by decide +kernel
theorem qd_187_10 : decode qm187.2.2.1 10 = .ok (.ireturn, 1) := by decide +kernel
theorem qd_188_0 : decode qm188.2.2.1 0 = .ok (.iload_n 1, 1) := by decide +kernel
theorem qd_188_1 : decode qm188.2.2.1 1 = .ok (.istore_n 3, 1) := by decide +kernel
theorem qd_188_2 : decode qm188.2.2.1 2 = .ok (.aload_n 0, 1) := by decide +kernel
theorem qd_188_3 : decode qm188.2.2.1 3 = .ok (.iload_n 2, 1) := by decide +kernel
theorem qd_188_4 : decode qm188.2.2.1 4 = .ok (.invokevirtual 101, 3) := by decide +kernel
theorem qd_188_7 : decode qm188.2.2.1 7 = .ok (.istore 4, 2) := by decide +kernel
theorem qd_188_9 : decode qm188.2.2.1 9 = .ok (.aload_n 0, 1) := by decide +kernel
theorem qd_188_10 : decode qm188.2.2.1 10 = .ok (.getfield 7, 3) := by decide +kernel
theorem qd_188_13 : decode qm188.2.2.1 13 = .ok (.iload 4, 2) := by decide +kernel
theorem qd_188_15 : decode qm188.2.2.1 15 = .ok (.iaload, 1) := by decide +kernel
theorem qd_188_16 : decode qm188.2.2.1 16 = .ok (.ifCond .eq 22, 3) := by decide +kernel
theorem qd_188_19 : decode qm188.2.2.1 19 = .ok (.aload_n 0, 1) := by decide +kernel
theorem qd_188_20 : decode qm188.2.2.1 20 = .ok (.iload_n 3, 1) := by decide +kernel
theorem qd_188_21 : decode qm188.2.2.1 21 = .ok (.aload_n 0, 1) := by decide +kernel
theorem qd_188_22 : decode qm188.2.2.1 22 = .ok (.getfield 7, 3) := by decide +kernel
theorem qd_188_25 : decode qm188.2.2.1 25 = .ok (.iload 4, 2) := by decide +kernel
theorem qd_188_27 : decode qm188.2.2.1 27 = .ok (.iaload, 1) := by decide +kernel
theorem qd_188_28 : decode qm188.2.2.1 28 = .ok (.invokevirtual 284, 3) := by decide +kernel
theorem qd_188_31 : decode qm188.2.2.1 31 = .ok (.istore_n 3, 1) := by decide +kernel
theorem qd_188_32 : decode qm188.2.2.1 32 = .ok (.iinc 4 1, 3) := by decide +kernel
theorem qd_188_35 : decode qm188.2.2.1 35 = .ok (.goto (-26), 3) := by decide +kernel
theorem qd_188_38 : decode qm188.2.2.1 38 = .ok (.iload_n 3, 1) := by decide +kernel
theorem qd_188_39 : decode qm188.2.2.1 39 = .ok (.ireturn, 1) := by decide +kernel
theorem qd_189_0 : decode qm189.2.2.1 0 = .ok (.aload_n 0, 1) := by decide +kernel
theorem qd_189_1 : decode qm189.2.2.1 1 = .ok (.iload_n 2, 1) := by decide +kernel
theorem qd_189_2 : decode qm189.2.2.1 2 = .ok (.invokevirtual 149, 3) := by decide +kernel
theorem qd_189_5 : decode qm189.2.2.1 5 = .ok (.istore 4, 2) := by decide +kernel
theorem qd_189_7 : decode qm189.2.2.1 7 = .ok (.aload_n 0, 1) := by decide +kernel
theorem qd_189_8 : decode qm189.2.2.1 8 = .ok (.iload_n 2, 1) := by decide +kernel
theorem qd_189_9 : decode qm189.2.2.1 9 = .ok (.invokevirtual 140, 3) := by decide +kernel
theorem qd_189_12 : decode qm189.2.2.1 12 = .ok (.istore 5, 2) := by decide +kernel
theorem qd_189_14 : decode qm189.2.2.1 14 = .ok (.aload_n 0, 1) := by decide +kernel
theorem qd_189_15 : decode qm189.2.2.1 15 = .ok (.iload 5, 2) := by decide +kernel
theorem qd_189_17 : decode qm189.2.2.1 17 = .ok (.invokevirtual 146, 3) := by decide +kernel
theorem qd_189_20 : decode qm189.2.2.1 20 = .ok (.istore 7, 2) := by decide +kernel
theorem qd_189_22 : decode qm189.2.2.1 22 = .ok (.aload_n 0, 1) := by decide +kernel
theorem qd_189_23 : decode qm189.2.2.1 23 = .ok (.iload_n 1, 1) := by decide +kernel
theorem qd_189_24 : decode qm189.2.2.1 24 = .ok (.iload 5, 2) := by decide +kernel
theorem qd_189_26 : decode qm189.2.2.1 26 = .ok (.iload 7, 2) := by decide +kernel
theorem qd_189_28 : decode qm189.2.2.1 28 = .ok (.ifCond .eq 12, 3) := by decide +kernel
theorem qd_189_31 : decode qm189.2.2.1 31 = .ok (.aload_n 0, 1) := by decide +kernel
theorem qd_189_32 : decode qm189.2.2.1 32 = .ok (.getfield 131, 3) := by decide +kernel
theorem qd_189_35 : decode qm189.2.2.1 35 = .ok (.iconst 1, 1) := by decide +kernel
theorem qd_189_36 : decode qm189.2.2.1 36 = .ok (.iadd, 1) := by decide +kernel
theorem qd_189_37 : decode qm189.2.2.1 37 = .ok (.goto 4, 3) := by decide +kernel
theorem qd_189_40 : decode qm189.2.2.1 40 = .ok (.iconst 0, 1) := by decide +kernel
theorem qd_189_41 : decode qm189.2.2.1 41 = .ok (.invokevirtual 294, 3) := by decide +kernel
theorem qd_189_44 : decode qm189.2.2.1 44 = .ok (.istore 6, 2) := by decide +kernel
theorem qd_189_46 : decode qm189.2.2.1 46 = .ok (.aload_n 0, 1) := by decide +kernel
theorem qd_189_47 : decode qm189.2.2.1 47 = .ok (.iload 6, 2) := by decide +kernel
theorem qd_189_49 : decode qm189.2.2.1 49 = .ok (.bipush 32, 2) := by decide +kernel
theorem qd_189_51 : decode qm189.2.2.1 51 = .ok (.invokevirtual 284, 3) := by decide +kernel
theorem qd_189_54 : decode qm189.2.2.1 54 = .ok (.istore 6, 2) := by decide +kernel
theorem qd_189_56 : decode qm189.2.2.1 56 = .ok (.iload_n 3, 1) := by decide +kernel
theorem qd_189_57 : decode qm189.2.2.1 57 = .ok (.ifCond .le 22, 3) := by decide +kernel
theorem qd_189_60 : decode qm189.2.2.1 60 = .ok (.aload_n 0, 1) := by decide +kernel
theorem qd_189_61 : decode qm189.2.2.1 61 = .ok (.iload 6, 2) := by decide +kernel
theorem qd_189_63 : decode qm189.2.2.1 63 = .ok (.iload_n 3, 1) := by decide +kernel
theorem qd_189_64 : decode qm189.2.2.1 64 = .ok (.invokevirtual 297, 3) := by decide +kernel
theorem qd_189_67 : decode qm189.2.2.1 67 = .ok (.istore 6, 2) := by decide +kernel
theorem qd_189_69 : decode qm189.2.2.1 69 = .ok (.aload_n 0, 1) := by decide +kernel
theorem qd_189_70 : decode qm189.2.2.1 70 = .ok (.iload 6, 2) := by decide +kernel
theorem qd_189_72 : decode qm189.2.2.1 72 = .ok (.bipush 46, 2) := by decide +kernel
theorem qd_189_74 : decode qm189.2.2.1 74 = .ok (.invokevirtual 284, 3) := by decide +kernel
theorem qd_189_77 : decode qm189.2.2.1 77 = .ok (.istore 6, 2) := by decide +kernel
theorem qd_189_79 : decode qm189.2.2.1 79 = .ok (.iconst 0, 1) := by decide +kernel
theorem qd_189_80 : decode qm189.2.2.1 80 = .ok (.istore 8, 2) := by decide +kernel
theorem qd_189_82 : decode qm189.2.2.1 82 = .ok (.aload_n 0, 1) := by decide +kernel
theorem qd_189_83 : decode qm189.2.2.1 83 = .ok (.iload 4, 2) := by decide +kernel
theorem qd_189_85 : decode qm189.2.2.1 85 = .ok (.iload 8, 2) := by decide +kernel
theorem qd_189_87 : decode qm189.2.2.1 87 = .ok (.invokevirtual 107, 3) := by decide +kernel
theorem qd_189_90 : decode qm189.2.2.1 90 = .ok (.ifCond .lt 25, 3) := by decide +kernel
theorem qd_189_93 : decode qm189.2.2.1 93 = .ok (.aload_n 0, 1) := by decide +kernel
theorem qd_189_94 : decode qm189.2.2.1 94 = .ok (.iload 6, 2) := by decide +kernel
theorem qd_189_96 : decode qm189.2.2.1 96 = .ok (.aload_n 0, 1) := by decide +kernel
theorem qd_189_97 : decode qm189.2.2.1 97 = .ok (.iload 4, 2) := by decide +kernel
theorem qd_189_99 : decode qm189.2.2.1 99 = .ok (.iload 8, 2) := by decide +kernel
theorem qd_189_101 : decode qm189.2.2.1 101 = .ok (.invokevirtual 107, 3) := by decide +kernel
theorem qd_189_104 : decode qm189.2.2.1 104 = .ok (.invokevirtual 284, 3) := by decide +kernel
theorem qd_189_107 : decode qm189.2.2.1 107 = .ok (.istore 6, 2) := by decide +kernel
theorem qd_189_109 : decode qm189.2.2.1 109 = .ok (.iinc 8 1, 3) := by decide +kernel
theorem qd_189_112 : decode qm189.2.2.1 112 = .ok (.goto (-30), 3) := by decide +kernel
theorem qd_189_115 : decode qm189.2.2.1 115 = .ok (.iload 7, 2) := by decide +kernel
theorem qd_189_117 : decode qm189.2.2.1 117 = .ok (.ifCond .eq 14, 3) := by decide +kernel
theorem qd_189_120 : decode qm189.2.2.1 120 = .ok (.aload_n 0, 1) := by decide +kernel
theorem qd_189_121 : decode qm189.2.2.1 121 = .ok (.iload 6, 2) := by decide +kernel
theorem qd_189_123 : decode qm189.2.2.1 123 = .ok (.iload 5, 2) := by decide +kernel
theorem qd_189_125 : decode qm189.2.2.1 125 = .ok (.invokevirtual 300, 3) := by decide +kernel
theorem qd_189_128 : decode qm189.2.2.1 128 = .ok (.goto 5, 3) := by decide +kernel
theorem qd_189_131 : decode qm189.2.2.1 131 = .ok (.iload 6, 2) := by decide +kernel
theorem qd_189_133 : decode qm189.2.2.1 133 = .ok (.ireturn, 1) := by decide +kernel
theorem qd_190_0 : decode qm190.2.2.1 0 = .ok (.aload_n 0, 1) := by decide +kernel
theorem qd_190_1 : decode qm190.2.2.1 1 = .ok (.iload_n 1, 1) := by decide +kernel
theorem qd_190_2 : decode qm190.2.2.1 2 = .ok (.bipush 40, 2) := by decide +kernel
theorem qd_190_4 : decode qm190.2.2.1 4 = .ok (.invokevirtual 284, 3) := by decide +kernel
theorem qd_190_7 : decode qm190.2.2.1 7 = .ok (.istore_n 3, 1) := by decide +kernel
theorem qd_190_8 : decode qm190.2.2.1 8 = .ok (.iconst 1, 1) := by decide +kernel
theorem qd_190_9 : decode qm190.2.2.1 9 = .ok (.istore 4, 2) := by decide +kernel
theorem qd_190_11 : decode qm190.2.2.1 11 = .ok (.aload_n 0, 1) := by decide +kernel
theorem qd_190_12 : decode qm190.2.2.1 12 = .ok (.iload_n 2, 1) := by decide +kernel
theorem qd_190_13 : decode qm190.2.2.1 13 = .ok (.iload 4, 2) := by decide +kernel
theorem qd_190_15 : decode qm190.2.2.1 15 = .ok (.invokevirtual 107, 3) := by decide +kernel
theorem qd_190_18 : decode qm190.2.2.1 18 = .ok (.bipush 41, 2) := by decide +kernel
theorem qd_190_20 : decode qm190.2.2.1 20 = .ok (.if_icmp .eq 46, 3) := by decide +kernel
theorem qd_190_23 : decode qm190.2.2.1 23 = .ok (.iload 4, 2) := by decide +kernel
theorem qd_190_25 : decode qm190.2.2.1 25 = .ok (.iconst 1, 1) := by decide +kernel
theorem qd_190_26 : decode qm190.2.2.1 26 = .ok (.if_icmp .le 19, 3) := by decide +kernel
theorem qd_190_29 : decode qm190.2.2.1 29 = .ok (.aload_n 0, 1) := by decide +kernel
theorem qd_190_30 : decode qm190.2.2.1 30 = .ok (.iload_n 3, 1) := by decide +kernel
theorem qd_190_31 : decode qm190.2.2.1 31 = .ok (.bipush 44, 2) := by decide +kernel
theorem qd_190_33 : decode qm190.2.2.1 33 = .ok (.invokevirtual 284, 3) := by decide +kernel
theorem qd_190_36 : decode qm190.2.2.1 36 = .ok (.istore_n 3, 1) := by decide +kernel
theorem qd_190_37 : decode qm190.2.2.1 37 = .ok (.aload_n 0, 1) := by decide +kernel
theorem qd_190_38 : decode qm190.2.2.1 38 = .ok (.iload_n 3, 1) := by decide +kernel
theorem qd_190_39 : decode qm190.2.2.1 39 = .ok (.bipush 32, 2) := by decide +kernel
theorem qd_190_41 : decode qm190.2.2.1 41 = .ok (.invokevirtual 284, 3) := by decide +kernel
theorem qd_190_44 : decode qm190.2.2.1 44 = .ok (.istore_n 3, 1) := by decide +kernel
theorem qd_190_45 : decode qm190.2.2.1 45 = .ok (.aload_n 0, 1) := by decide +kernel
theorem qd_190_46 : decode qm190.2.2.1 46 = .ok (.iload_n 3, 1) := by decide +kernel
theorem qd_190_47 : decode qm190.2.2.1 47 = .ok (.iload_n 2, 1) := by decide +kernel
theorem qd_190_48 : decode qm190.2.2.1 48 = .ok (.iload 4, 2) := by decide +kernel
theorem qd_190_50 : decode qm190.2.2.1 50 = .ok (.invokevirtual 294, 3) := by decide +kernel
theorem qd_190_53 : decode qm190.2.2.1 53 = .ok (.istore_n 3, 1) := by decide +kernel
theorem qd_190_54 : decode qm190.2.2.1 54 = .ok (.aload_n 0, 1) := by decide +kernel
theorem qd_190_55 : decode qm190.2.2.1 55 = .ok (.iload_n 2, 1) := by decide +kernel
theorem qd_190_56 : decode qm190.2.2.1 56 = .ok (.iload 4, 2) := by decide +kernel
theorem qd_190_58 : decode qm190.2.2.1 58 = .ok (.invokevirtual 125, 3) := by decide +kernel
theorem qd_190_61 : decode qm190.2.2.1 61 = .ok (.istore 4, 2) := by decide +kernel
theorem qd_190_63 : decode qm190.2.2.1 63 = .ok (.goto (-52), 3) := by decide +kernel
theorem qd_190_66 : decode qm190.2.2.1 66 = .ok (.aload_n 0, 1) := by decide +kernel
theorem qd_190_67 : decode qm190.2.2.1 67 = .ok (.iload_n 3, 1) := by decide +kernel
theorem qd_190_68 : decode qm190.2.2.1 68 = .ok (.bipush 41, 2) := by decide +kernel
theorem qd_190_70 : decode qm190.2.2.1 70 = .ok (.invokevirtual 284, 3) := by decide +kernel
theorem qd_190_73 : decode qm190.2.2.1 73 = .ok (.ireturn, 1) := by decide +kernel
theorem qd_191_0 : decode qm191.2.2.1 0 = .ok (.aload_n 0, 1) := by decide +kernel
theorem qd_191_1 : decode qm191.2.2.1 1 = .ok (.invokevirtual 262, 3) := by decide +kernel
theorem qd_191_4 : decode qm191.2.2.1 4 = .ok (.ifCond .ne 5, 3) := by decide +kernel
theorem qd_191_7 : decode qm191.2.2.1 7 = .ok (.iconst 0, 1) := by decide +kernel
theorem qd_191_8 : decode qm191.2.2.1 8 = .ok (.ireturn, 1) := by decide +kernel
theorem qd_191_9 : decode qm191.2.2.1 9 = .ok (.iload_n 1, 1) := by decide +kernel
theorem qd_191_10 : decode qm191.2.2.1 10 = .ok (.bipush 20, 2) := by decide +kernel
theorem qd_191_12 : decode qm191.2.2.1 12 = .ok (.bipush 119, 2) := by decide +kernel
theorem qd_191_14 : decode qm191.2.2.1 14 = .ok (.invokestatic 63, 3) := by decide +kernel
theorem qd_191_17 : decode qm191.2.2.1 17 = .ok (.ifCond .eq 35, 3) := by decide +kernel
theorem qd_191_20 : decode qm191.2.2.1 20 = .ok (.iload_n 1, 1) := by decide +kernel
theorem qd_191_21 : decode qm191.2.2.1 21 = .ok (.bipush 20, 2) := by decide +kernel
theorem qd_191_23 : decode qm191.2.2.1 23 = .ok (.isub, 1) := by decide +kernel
theorem qd_191_24 : decode qm191.2.2.1 24 = .ok (.aload_n 0, 1) := by decide +kernel
theorem qd_191_25 : decode qm191.2.2.1 25 = .ok (.getfield 187, 3) := by decide +kernel
theorem qd_191_28 : decode qm191.2.2.1 28 = .ok (.if_icmp .ge 21, 3) := by decide +kernel
theorem qd_191_31 : decode qm191.2.2.1 31 = .ok (.aload_n 0, 1) := by decide +kernel
theorem qd_191_32 : decode qm191.2.2.1 32 = .ok (.aload_n 0, 1) := by decide +kernel
theorem qd_191_33 : decode qm191.2.2.1 33 = .ok (.getfield 190, 3) := by decide +kernel
theorem qd_191_36 : decode qm191.2.2.1 36 = .ok (.iconst 2, 1) := by decide +kernel
theorem qd_191_37 : decode qm191.2.2.1 37 = .ok (.iload_n 1, 1) := by decide +kernel
theorem qd_191_38 : decode qm191.2.2.1 38 = .ok (.bipush 20, 2) := by decide +kernel
theorem qd_191_40 : decode qm191.2.2.1 40 = .ok (.isub, 1) := by decide +kernel
theorem qd_191_41 : decode qm191.2.2.1 41 = .ok (.imul, 1) := by decide +kernel
theorem qd_191_42 : decode qm191.2.2.1 42 = .ok (.iadd, 1) := by decide +kernel
theorem qd_191_43 : decode qm191.2.2.1 43 = .ok (.invokevirtual 91, 3) := by decide +kernel
theorem qd_191_46 : decode qm191.2.2.1 46 = .ok (.goto 5, 3) := by decide +kernel
theorem qd_191_49 : decode qm191.2.2.1 49 = .ok (.bipush (-2), 2) := by decide +kernel
theorem qd_191_51 : decode qm191.2.2.1 51 = .ok (.ireturn, 1) := by decide +kernel
theorem qd_191_52 : decode qm191.2.2.1 52 = .ok (.iload_n 1, 1) := by decide +kernel
theorem qd_191_53 : decode qm191.2.2.1 53 = .ok (.tableswitch 129 0 8 #[51, 56, 61, 66, 71, 78, 85, 92, 98], 51) := by decide +kernel
theorem qd_191_104 : decode qm191.2.2.1 104 = .ok (.aload_n 0, 1) := by decide +kernel
theorem qd_191_105 : decode qm191.2.2.1 105 = .ok (.getfield 174, 3) := by decide +kernel
theorem qd_191_108 : decode qm191.2.2.1 108 = .ok (.ireturn, 1) := by decide +kernel
theorem qd_191_109 : decode qm191.2.2.1 109 = .ok (.aload_n 0, 1) := by decide +kernel
theorem qd_191_110 : decode qm191.2.2.1 110 = .ok (.getfield 181, 3) := by decide +kernel
theorem qd_191_113 : decode qm191.2.2.1 113 = .ok (.ireturn, 1) := by decide +kernel
theorem qd_191_114 : decode qm191.2.2.1 114 = .ok (.aload_n 0, 1) := by decide +kernel
theorem qd_191_115 : decode qm191.2.2.1 115 = .ok (.getfield 184, 3) := by decide +kernel
theorem qd_191_118 : decode qm191.2.2.1 118 = .ok (.ireturn, 1) := by decide +kernel
theorem qd_191_119 : decode qm191.2.2.1 119 = .ok (.aload_n 0, 1) := by decide +kernel
theorem qd_191_120 : decode qm191.2.2.1 120 = .ok (.getfield 187, 3) := by decide +kernel
theorem qd_191_123 : decode qm191.2.2.1 123 = .ok (.ireturn, 1) := by decide +kernel
theorem qd_191_124 : decode qm191.2.2.1 124 = .ok (.aload_n 0, 1) := by decide +kernel
theorem qd_191_125 : decode qm191.2.2.1 125 = .ok (.getfield 41, 3) := by decide +kernel
theorem qd_191_128 : decode qm191.2.2.1 128 = .ok (.iconst 0, 1) := by decide +kernel
theorem qd_191_129 : decode qm191.2.2.1 129 = .ok (.iaload, 1) := by decide +kernel
theorem qd_191_130 : decode qm191.2.2.1 130 = .ok (.ireturn, 1) := by decide +kernel
theorem qd_191_131 : decode qm191.2.2.1 131 = .ok (.aload_n 0, 1) := by decide +kernel
theorem qd_191_132 : decode qm191.2.2.1 132 = .ok (.getfield 41, 3) := by decide +kernel
theorem qd_191_135 : decode qm191.2.2.1 135 = .ok (.iconst 1, 1) := by decide +kernel
theorem qd_191_136 : decode qm191.2.2.1 136 = .ok (.iaload, 1) := by decide +kernel
theorem qd_191_137 : decode qm191.2.2.1 137 = .ok (.ireturn, 1) := by decide +kernel
theorem qd_191_138 : decode qm191.2.2.1 138 = .ok (.aload_n 0, 1) := by decide +kernel
theorem qd_191_139 : decode qm191.2.2.1 139 = .ok (.bipush 6, 2) := by decide +kernel
theorem qd_191_141 : decode qm191.2.2.1 141 = .ok (.invokevirtual 91, 3) := by decide +kernel
theorem qd_191_144 : decode qm191.2.2.1 144 = .ok (.ireturn, 1) := by decide +kernel
theorem qd_191_145 : decode qm191.2.2.1 145 = .ok (.aload_n 0, 1) := by decide +kernel
theorem qd_191_146 : decode qm191.2.2.1 146 = .ok (.iconst 4, 1) := by decide +kernel
theorem qd_191_147 : decode qm191.2.2.1 147 = .ok (.invokevirtual 91, 3) := by decide +kernel
theorem qd_191_150 : decode qm191.2.2.1 150 = .ok (.ireturn, 1) := by decide +kernel
theorem qd_191_151 : decode qm191.2.2.1 151 = .ok (.iconst 0, 1) := by decide +kernel
theorem qd_191_152 : decode qm191.2.2.1 152 = .ok (.istore_n 2, 1) := by decide +kernel
theorem qd_191_153 : decode qm191.2.2.1 153 = .ok (.iconst 1, 1) := by decide +kernel
theorem qd_191_154 : decode qm191.2.2.1 154 = .ok (.istore_n 3, 1) := by decide +kernel
theorem qd_191_155 : decode qm191.2.2.1 155 = .ok (.iload_n 3, 1) := by decide +kernel
theorem qd_191_156 : decode qm191.2.2.1 156 = .ok (.aload_n 0, 1) := by decide +kernel
theorem qd_191_157 : decode qm191.2.2.1 157 = .ok (.getfield 95, 3) := by decide +kernel
theorem qd_191_160 : decode qm191.2.2.1 160 = .ok (.if_icmp .ge 20, 3) := by decide +kernel
theorem qd_191_163 : decode qm191.2.2.1 163 = .ok (.aload_n 0, 1) := by decide +kernel
theorem qd_191_164 : decode qm191.2.2.1 164 = .ok (.iload_n 3, 1) := by decide +kernel
theorem qd_191_165 : decode qm191.2.2.1 165 = .ok (.invokevirtual 137, 3) := by decide +kernel
theorem qd_191_168 : decode qm191.2.2.1 168 = .ok (.ifCond .le 6, 3) := by decide +kernel
theorem qd_191_171 : decode qm191.2.2.1 171 = .ok (.iinc 2 1, 3) := by decide +kernel
theorem qd_191_174 : decode qm191.2.2.1 174 = .ok (.iinc 3 1, 3) := by decide +kernel
theorem qd_191_177 : decode qm191.2.2.1 177 = .ok (.goto (-22), 3) := by decide +kernel
theorem qd_191_180 : decode qm191.2.2.1 180 = .ok (.iload_n 2, 1) := by decide +kernel
theorem qd_191_181 : decode qm191.2.2.1 181 = .ok (.ireturn, 1) := by decide +kernel
theorem qd_191_182 : decode qm191.2.2.1 182 = .ok (.iconst (-1), 1) := by decide +kernel
theorem qd_191_183 : decode qm191.2.2.1 183 = .ok (.ireturn, 1) := by decide +kernel
theorem qd_192_0 : decode qm192.2.2.1 0 = .ok (.aload_n 0, 1) := by decide +kernel
theorem qd_192_1 : decode qm192.2.2.1 1 = .ok (.invokevirtual 262, 3) := by decide +kernel
theorem qd_192_4 : decode qm192.2.2.1 4 = .ok (.ifCond .ne 5, 3) := by decide +kernel
theorem qd_192_7 : decode qm192.2.2.1 7 = .ok (.iconst 0, 1) := by decide +kernel
theorem qd_192_8 : decode qm192.2.2.1 8 = .ok (.ireturn, 1) := by decide +kernel
theorem qd_192_9 : decode qm192.2.2.1 9 = .ok (.iload_n 3, 1) := by decide +kernel
theorem qd_192_10 : decode qm192.2.2.1 10 = .ok (.iconst 0, 1) := by decide +kernel
theorem qd_192_11 : decode qm192.2.2.1 11 = .ok (.bipush 7, 2) := by decide +kernel
theorem qd_192_13 : decode qm192.2.2.1 13 = .ok (.invokestatic 63, 3) := by decide +kernel
theorem qd_192_16 : decode qm192.2.2.1 16 = .ok (.ifCond .ne 5, 3) := by decide +kernel
theorem qd_192_19 : decode qm192.2.2.1 19 = .ok (.iconst (-1), 1) := by decide +kernel
theorem qd_192_20 : decode qm192.2.2.1 20 = .ok (.ireturn, 1) := by decide +kernel
theorem qd_192_21 : decode qm192.2.2.1 21 = .ok (.iload_n 2, 1) := by decide +kernel
theorem qd_192_22 : decode qm192.2.2.1 22 = .ok (.iconst 0, 1) := by decide +kernel
theorem qd_192_23 : decode qm192.2.2.1 23 = .ok (.aload_n 0, 1) := by decide +kernel
theorem qd_192_24 : decode qm192.2.2.1 24 = .ok (.getfield 41, 3) := by decide +kernel
theorem qd_192_27 : decode qm192.2.2.1 27 = .ok (.iload_n 1, 1) := by decide +kernel
theorem qd_192_28 : decode qm192.2.2.1 28 = .ok (.ifCond .eq 7, 3) := by decide +kernel
theorem qd_192_31 : decode qm192.2.2.1 31 = .ok (.iconst 1, 1) := by decide +kernel
theorem qd_192_32 : decode qm192.2.2.1 32 = .ok (.goto 4, 3) := by decide +kernel
theorem qd_192_35 : decode qm192.2.2.1 35 = .ok (.iconst 0, 1) := by decide +kernel
theorem qd_192_36 : decode qm192.2.2.1 36 = .ok (.iaload, 1) := by decide +kernel
theorem qd_192_37 : decode qm192.2.2.1 37 = .ok (.iconst 1, 1) := by decide +kernel
theorem qd_192_38 : decode qm192.2.2.1 38 = .ok (.isub, 1) := by decide +kernel
theorem qd_192_39 : decode qm192.2.2.1 39 = .ok (.invokestatic 63, 3) := by decide +kernel
theorem qd_192_42 : decode qm192.2.2.1 42 = .ok (.ifCond .ne 6, 3) := by decide +kernel
theorem qd_192_45 : decode qm192.2.2.1 45 = .ok (.bipush (-2), 2) := by decide +kernel
theorem qd_192_47 : decode qm192.2.2.1 47 = .ok (.ireturn, 1) := by decide +kernel
theorem qd_192_48 : decode qm192.2.2.1 48 = .ok (.iload_n 1, 1) := by decide +kernel
theorem qd_192_49 : decode qm192.2.2.1 49 = .ok (.ifCond .eq 10, 3) := by decide +kernel
theorem qd_192_52 : decode qm192.2.2.1 52 = .ok (.bipush 80, 2) := by decide +kernel
theorem qd_192_54 : decode qm192.2.2.1 54 = .ok (.iload_n 2, 1) := by decide +kernel
theorem qd_192_55 : decode qm192.2.2.1 55 = .ok (.iadd, 1) := by decide +kernel
theorem qd_192_56 : decode qm192.2.2.1 56 = .ok (.goto 4, 3) := by decide +kernel
theorem qd_192_59 : decode qm192.2.2.1 59 = .ok (.iload_n 2, 1) := by decide +kernel
theorem qd_192_60 : decode qm192.2.2.1 60 = .ok (.istore 4, 2) := by decide +kernel
theorem qd_192_62 : decode qm192.2.2.1 62 = .ok (.aload_n 0, 1) := by decide +kernel
theorem qd_192_63 : decode qm192.2.2.1 63 = .ok (.getfield 26, 3) := by decide +kernel
theorem qd_192_66 : decode qm192.2.2.1 66 = .ok (.iload 4, 2) := by decide +kernel
theorem qd_192_68 : decode qm192.2.2.1 68 = .ok (.iaload, 1) := by decide +kernel
theorem qd_192_69 : decode qm192.2.2.1 69 = .ok (.istore 5, 2) := by decide +kernel
theorem qd_192_71 : decode qm192.2.2.1 71 = .ok (.iload_n 3, 1) := by decide +kernel
theorem qd_192_72 : decode qm192.2.2.1 72 = .ok (.tableswitch 107 0 6 #[44, 51, 60, 69, 77, 91, 99], 44) := by decide +kernel
theorem qd_192_116 : decode qm192.2.2.1 116 = .ok (.aload_n 0, 1) := by decide +kernel
theorem qd_192_117 : decode qm192.2.2.1 117 = .ok (.iload 5, 2) := by decide +kernel
theorem qd_192_119 : decode qm192.2.2.1 119 = .ok (.invokevirtual 91, 3) := by decide +kernel
theorem qd_192_122 : decode qm192.2.2.1 122 = .ok (.ireturn, 1) := by decide +kernel
theorem qd_192_123 : decode qm192.2.2.1 123 = .ok (.aload_n 0, 1) := by decide +kernel
theorem qd_192_124 : decode qm192.2.2.1 124 = .ok (.iload 5, 2) := by decide +kernel
theorem qd_192_126 : decode qm192.2.2.1 126 = .ok (.iconst 2, 1) := by decide +kernel
theorem qd_192_127 : decode qm192.2.2.1 127 = .ok (.iadd, 1) := by decide +kernel
theorem qd_192_128 : decode qm192.2.2.1 128 = .ok (.invokevirtual 91, 3) := by decide +kernel
theorem qd_192_131 : decode qm192.2.2.1 131 = .ok (.ireturn, 1) := by decide +kernel
theorem qd_192_132 : decode qm192.2.2.1 132 = .ok (.aload_n 0, 1) := by decide +kernel
theorem qd_192_133 : decode qm192.2.2.1 133 = .ok (.iload 5, 2) := by decide +kernel
theorem qd_192_135 : decode qm192.2.2.1 135 = .ok (.iconst 4, 1) := by decide +kernel
theorem qd_192_136 : decode qm192.2.2.1 136 = .ok (.iadd, 1) := by decide +kernel
theorem qd_192_137 : decode qm192.2.2.1 137 = .ok (.invokevirtual 91, 3) := by decide +kernel
theorem qd_192_140 : decode qm192.2.2.1 140 = .ok (.ireturn, 1) := by decide +kernel
theorem qd_192_141 : decode qm192.2.2.1 141 = .ok (.aload_n 0, 1) := by decide +kernel
theorem qd_192_142 : decode qm192.2.2.1 142 = .ok (.getfield 29, 3) := by decide +kernel
theorem qd_192_145 : decode qm192.2.2.1 145 = .ok (.iload 4, 2) := by decide +kernel
theorem qd_192_147 : decode qm192.2.2.1 147 = .ok (.iaload, 1) := by decide +kernel
theorem qd_192_148 : decode qm192.2.2.1 148 = .ok (.ireturn, 1) := by decide +kernel
theorem qd_192_149 : decode qm192.2.2.1 149 = .ok (.aload_n 0, 1) := by decide +kernel
theorem qd_192_150 : decode qm192.2.2.1 150 = .ok (.iload_n 1, 1) := by decide +kernel
theorem qd_192_151 : decode qm192.2.2.1 151 = .ok (.aload_n 0, 1) := by decide +kernel
theorem qd_192_152 : decode qm192.2.2.1 152 = .ok (.iload 5, 2) := by decide +kernel
theorem qd_192_154 : decode qm192.2.2.1 154 = .ok (.iconst 4, 1) := by decide +kernel
theorem qd_192_155 : decode qm192.2.2.1 155 = .ok (.iadd, 1) := by decide +kernel
theorem qd_192_156 : decode qm192.2.2.1 156 = .ok (.invokevirtual 91, 3) := by decide +kernel
theorem qd_192_159 : decode qm192.2.2.1 159 = .ok (.invokevirtual 309, 3) := by decide +kernel
theorem qd_192_162 : decode qm192.2.2.1 162 = .ok (.ireturn, 1) := by decide +kernel
theorem qd_192_163 : decode qm192.2.2.1 163 = .ok (.aload_n 0, 1) := by decide +kernel
theorem qd_192_164 : decode qm192.2.2.1 164 = .ok (.getfield 32, 3) := by decide +kernel
theorem qd_192_167 : decode qm192.2.2.1 167 = .ok (.iload 4, 2) := by decide +kernel
theorem qd_192_169 : decode qm192.2.2.1 169 = .ok (.iaload, 1) := by decide +kernel
theorem qd_192_170 : decode qm192.2.2.1 170 = .ok (.ireturn, 1) := by decide +kernel
theorem qd_192_171 : decode qm192.2.2.1 171 = .ok (.aload_n 0, 1) := by decide +kernel
theorem qd_192_172 : decode qm192.2.2.1 172 = .ok (.getfield 35, 3) := by decide +kernel
theorem qd_192_175 : decode qm192.2.2.1 175 = .ok (.iload 4, 2) := by decide +kernel
theorem qd_192_177 : decode qm192.2.2.1 177 = .ok (.iaload, 1) := by decide +kernel
theorem qd_192_178 : decode qm192.2.2.1 178 = .ok (.ireturn, 1) := by decide +kernel
theorem qd_192_179 : decode qm192.2.2.1 179 = .ok (.aload_n 0, 1) := by decide +kernel
theorem qd_192_180 : decode qm192.2.2.1 180 = .ok (.getfield 38, 3) := by decide +kernel
theorem qd_192_183 : decode qm192.2.2.1 183 = .ok (.iload 4, 2) := by decide +kernel
theorem qd_192_185 : decode qm192.2.2.1 185 = .ok (.iaload, 1) := by decide +kernel
theorem qd_192_186 : decode qm192.2.2.1 186 = .ok (.ireturn, 1) := by decide +kernel
theorem qd_193_0 : decode qm193.2.2.1 0 = .ok (.aload_n 0, 1) := by decide +kernel
theorem qd_193_1 : decode qm193.2.2.1 1 = .ok (.iload_n 2, 1) := by decide +kernel
theorem qd_193_2 : decode qm193.2.2.1 2 = .ok (.iconst 0, 1) := by decide +kernel
theorem qd_193_3 : decode qm193.2.2.1 3 = .ok (.invokevirtual 107, 3) := by decide +kernel
theorem qd_193_6 : decode qm193.2.2.1 6 = .ok (.istore_n 3, 1) := by decide +kernel
theorem qd_193_7 : decode qm193.2.2.1 7 = .ok (.iload_n 1, 1) := by decide +kernel
theorem qd_193_8 : decode qm193.2.2.1 8 = .ok (.ifCond .ne 21, 3) := by decide +kernel
theorem qd_193_11 : decode qm193.2.2.1 11 = .ok (.iload_n 3, 1) := by decide +kernel
theorem qd_193_12 : decode qm193.2.2.1 12 = .ok (.bipush 74, 2) := by decide +kernel
theorem qd_193_14 : decode qm193.2.2.1 14 = .ok (.if_icmp .eq 9, 3) := by decide +kernel
theorem qd_193_17 : decode qm193.2.2.1 17 = .ok (.iload_n 3, 1) := by decide +kernel
theorem qd_193_18 : decode qm193.2.2.1 18 = .ok (.bipush 68, 2) := by decide +kernel
theorem qd_193_20 : decode qm193.2.2.1 20 = .ok (.if_icmp .ne 7, 3) := by decide +kernel
theorem qd_193_23 : decode qm193.2.2.1 23 = .ok (.iconst 2, 1) := by decide +kernel
theorem qd_193_24 : decode qm193.2.2.1 24 = .ok (.goto 4, 3) := by decide +kernel
theorem qd_193_27 : decode qm193.2.2.1 27 = .ok (.iconst 1, 1) := by decide +kernel
theorem qd_193_28 : decode qm193.2.2.1 28 = .ok (.ireturn, 1) := by decide +kernel
theorem qd_193_29 : decode qm193.2.2.1 29 = .ok (.aload_n 0, 1) := by decide +kernel
theorem qd_193_30 : decode qm193.2.2.1 30 = .ok (.iload_n 2, 1) := by decide +kernel
theorem qd_193_31 : decode qm193.2.2.1 31 = .ok (.invokevirtual 146, 3) := by decide +kernel
theorem qd_193_34 : decode qm193.2.2.1 34 = .ok (.ifCond .eq 10, 3) := by decide +kernel
theorem qd_193_37 : decode qm193.2.2.1 37 = .ok (.aload_n 0, 1) := by decide +kernel
theorem qd_193_38 : decode qm193.2.2.1 38 = .ok (.getfield 128, 3) := by decide +kernel
theorem qd_193_41 : decode qm193.2.2.1 41 = .ok (.goto 4, 3) := by decide +kernel
theorem qd_193_44 : decode qm193.2.2.1 44 = .ok (.iconst 0, 1) := by decide +kernel
theorem qd_193_45 : decode qm193.2.2.1 45 = .ok (.ireturn, 1) := by decide +kernel
theorem qd_194_0 : decode qm194.2.2.1 0 = .ok (.aload_n 0, 1) := by decide +kernel
theorem qd_194_1 : decode qm194.2.2.1 1 = .ok (.invokevirtual 262, 3) := by decide +kernel
theorem qd_194_4 : decode qm194.2.2.1 4 = .ok (.ifCond .ne 5, 3) := by decide +kernel
theorem qd_194_7 : decode qm194.2.2.1 7 = .ok (.iconst 0, 1) := by decide +kernel
theorem qd_194_8 : decode qm194.2.2.1 8 = .ok (.ireturn, 1) := by decide +kernel
theorem qd_194_9 : decode qm194.2.2.1 9 = .ok (.iload_n 1, 1) := by decide +kernel
theorem qd_194_10 : decode qm194.2.2.1 10 = .ok (.iconst 0, 1) := by decide +kernel
theorem qd_194_11 : decode qm194.2.2.1 11 = .ok (.bipush 10, 2) := by decide +kernel
theorem qd_194_13 : decode qm194.2.2.1 13 = .ok (.invokestatic 63, 3) := by decide +kernel
theorem qd_194_16 : decode qm194.2.2.1 16 = .ok (.ifCond .ne 5, 3) := by decide +kernel
theorem qd_194_19 : decode qm194.2.2.1 19 = .ok (.iconst (-1), 1) := by decide +kernel
theorem qd_194_20 : decode qm194.2.2.1 20 = .ok (.ireturn, 1) := by decide +kernel
theorem qd_194_21 : decode qm194.2.2.1 21 = .ok (.iload_n 1, 1) := by decide +kernel
theorem qd_194_22 : decode qm194.2.2.1 22 = .ok (.ifCond .ne 7, 3) := by decide +kernel
theorem qd_194_25 : decode qm194.2.2.1 25 = .ok (.iconst 5, 1) := by decide +kernel
theorem qd_194_26 : decode qm194.2.2.1 26 = .ok (.goto 44, 3) := by decide +kernel
theorem qd_194_29 : decode qm194.2.2.1 29 = .ok (.iload_n 1, 1) := by decide +kernel
theorem qd_194_30 : decode qm194.2.2.1 30 = .ok (.iconst 3, 1) := by decide +kernel
theorem qd_194_31 : decode qm194.2.2.1 31 = .ok (.if_icmp .ge 7, 3) := by decide +kernel
theorem qd_194_34 : decode qm194.2.2.1 34 = .ok (.iconst 4, 1) := by decide +kernel
theorem qd_194_35 : decode qm194.2.2.1 35 = .ok (.goto 35, 3) := by decide +kernel
theorem qd_194_38 : decode qm194.2.2.1 38 = .ok (.iload_n 1, 1) := by decide +kernel
theorem qd_194_39 : decode qm194.2.2.1 39 = .ok (.iconst 3, 1) := by decide +kernel
theorem qd_194_40 : decode qm194.2.2.1 40 = .ok (.if_icmp .ne 8, 3) := by decide +kernel
theorem qd_194_43 : decode qm194.2.2.1 43 = .ok (.bipush 6, 2) := by decide +kernel
theorem qd_194_45 : decode qm194.2.2.1 45 = .ok (.goto 25, 3) := by decide +kernel
theorem qd_194_48 : decode qm194.2.2.1 48 = .ok (.iload_n 1, 1) := by decide +kernel
theorem qd_194_49 : decode qm194.2.2.1 49 = .ok (.iconst 4, 1) := by decide +kernel
theorem qd_194_50 : decode qm194.2.2.1 50 = .ok (.if_icmp .ne 8, 3) := by decide +kernel
theorem qd_194_53 : decode qm194.2.2.1 53 = .ok (.bipush 7, 2) := by decide +kernel
theorem qd_194_55 : decode qm194.2.2.1 55 = .ok (.goto 15, 3) := by decide +kernel
theorem qd_194_58 : decode qm194.2.2.1 58 = .ok (.iload_n 1, 1) := by decide +kernel
theorem qd_194_59 : decode qm194.2.2.1 59 = .ok (.bipush 9, 2) := by decide +kernel
theorem qd_194_61 : decode qm194.2.2.1 61 = .ok (.if_icmp .ge 7, 3) := by decide +kernel
theorem qd_194_64 : decode qm194.2.2.1 64 = .ok (.iconst 3, 1) := by decide +kernel
theorem qd_194_65 : decode qm194.2.2.1 65 = .ok (.goto 5, 3) := by decide +kernel
theorem qd_194_68 : decode qm194.2.2.1 68 = .ok (.bipush 8, 2) := by decide +kernel
theorem qd_194_70 : decode qm194.2.2.1 70 = .ok (.istore_n 3, 1) := by decide +kernel
theorem qd_194_71 : decode qm194.2.2.1 71 = .ok (.aload_n 0, 1) := by decide +kernel
theorem qd_194_72 : decode qm194.2.2.1 72 = .ok (.getfield 47, 3) := by decide +kernel
theorem qd_194_75 : decode qm194.2.2.1 75 = .ok (.iload_n 3, 1) := by decide +kernel
theorem qd_194_76 : decode qm194.2.2.1 76 = .ok (.iaload, 1) := by decide +kernel
theorem qd_194_77 : decode qm194.2.2.1 77 = .ok (.ifCond .ge 7, 3) := by decide +kernel
theorem qd_194_80 : decode qm194.2.2.1 80 = .ok (.iconst 0, 1) := by decide +kernel
theorem qd_194_81 : decode qm194.2.2.1 81 = .ok (.goto 9, 3) := by decide +kernel
theorem qd_194_84 : decode qm194.2.2.1 84 = .ok (.aload_n 0, 1) := by decide +kernel
theorem qd_194_85 : decode qm194.2.2.1 85 = .ok (.getfield 47, 3) := by decide +kernel
theorem qd_194_88 : decode qm194.2.2.1 88 = .ok (.iload_n 3, 1) := by decide +kernel
theorem qd_194_89 : decode qm194.2.2.1 89 = .ok (.iaload, 1) := by decide +kernel
theorem qd_194_90 : decode qm194.2.2.1 90 = .ok (.istore 4, 2) := by decide +kernel
theorem qd_194_92 : decode qm194.2.2.1 92 = .ok (.iload_n 1, 1) := by decide +kernel
theorem qd_194_93 : decode qm194.2.2.1 93 = .ok (.iconst 3, 1) := by decide +kernel
theorem qd_194_94 : decode qm194.2.2.1 94 = .ok (.if_icmp .ge 35, 3) := by decide +kernel
theorem qd_194_97 : decode qm194.2.2.1 97 = .ok (.iload 4, 2) := by decide +kernel
theorem qd_194_99 : decode qm194.2.2.1 99 = .ok (.ifCond .ne 8, 3) := by decide +kernel
theorem qd_194_102 : decode qm194.2.2.1 102 = .ok (.bipush (-2), 2) := by decide +kernel
theorem qd_194_104 : decode qm194.2.2.1 104 = .ok (.goto 24, 3) := by decide +kernel
theorem qd_194_107 : decode qm194.2.2.1 107 = .ok (.aload_n 0, 1) := by decide +kernel
theorem qd_194_108 : decode qm194.2.2.1 108 = .ok (.aload_n 0, 1) := by decide +kernel
theorem qd_194_109 : decode qm194.2.2.1 109 = .ok (.getfield 44, 3) := by decide +kernel
theorem qd_194_112 : decode qm194.2.2.1 112 = .ok (.iload_n 3, 1) := by decide +kernel
theorem qd_194_113 : decode qm194.2.2.1 113 = .ok (.iaload, 1) := by decide +kernel
theorem qd_194_114 : decode qm194.2.2.1 114 = .ok (.iload_n 1, 1) := by decide +kernel
theorem qd_194_115 : decode qm194.2.2.1 115 = .ok (.iconst 2, 1) := by decide +kernel
theorem qd_194_116 : decode qm194.2.2.1 116 = .ok (.if_icmp .ne 7, 3) := by decide +kernel
theorem qd_194_119 : decode qm194.2.2.1 119 = .ok (.iconst 2, 1) := by decide +kernel
theorem qd_194_120 : decode qm194.2.2.1 120 = .ok (.goto 4, 3) := by decide +kernel
theorem qd_194_123 : decode qm194.2.2.1 123 = .ok (.iconst 0, 1) := by decide +kernel
theorem qd_194_124 : decode qm194.2.2.1 124 = .ok (.iadd, 1) := by decide +kernel
theorem qd_194_125 : decode qm194.2.2.1 125 = .ok (.invokevirtual 91, 3) := by decide +kernel
theorem qd_194_128 : decode qm194.2.2.1 128 = .ok (.ireturn, 1) := by decide +kernel
theorem qd_194_129 : decode qm194.2.2.1 129 = .ok (.iload_n 2, 1) := by decide +kernel
theorem qd_194_130 : decode qm194.2.2.1 130 = .ok (.iconst (-1), 1) := by decide +kernel
theorem qd_194_131 : decode qm194.2.2.1 131 = .ok (.if_icmp .ne 6, 3) := by decide +kernel
theorem qd_194_134 : decode qm194.2.2.1 134 = .ok (.iload 4, 2) := by decide +kernel
theorem qd_194_136 : decode qm194.2.2.1 136 = .ok (.ireturn, 1) := by decide +kernel
theorem qd_194_137 : decode qm194.2.2.1 137 = .ok (.iload_n 2, 1) := by decide +kernel
theorem qd_194_138 : decode qm194.2.2.1 138 = .ok (.iconst 0, 1) := by decide +kernel
theorem qd_194_139 : decode qm194.2.2.1 139 = .ok (.iload 4, 2) := by decide +kernel
theorem qd_194_141 : decode qm194.2.2.1 141 = .ok (.iconst 1, 1) := by decide +kernel
theorem qd_194_142 : decode qm194.2.2.1 142 = .ok (.isub, 1) := by decide +kernel
theorem qd_194_143 : decode qm194.2.2.1 143 = .ok (.invokestatic 63, 3) := by decide +kernel
theorem qd_194_146 : decode qm194.2.2.1 146 = .ok (.ifCond .ne 6, 3) := by decide +kernel
theorem qd_194_149 : decode qm194.2.2.1 149 = .ok (.bipush (-2), 2) := by decide +kernel
theorem qd_194_151 : decode qm194.2.2.1 151 = .ok (.ireturn, 1) := by decide +kernel
theorem qd_194_152 : decode qm194.2.2.1 152 = .ok (.iload_n 3, 1) := by decide +kernel
theorem qd_194_153 : decode qm194.2.2.1 153 = .ok (.bipush 8, 2) := by decide +kernel
theorem qd_194_155 : decode qm194.2.2.1 155 = .ok (.if_icmp .ne 26, 3) := by decide +kernel
theorem qd_194_158 : decode qm194.2.2.1 158 = .ok (.aload_n 0, 1) := by decide +kernel
theorem qd_194_159 : decode qm194.2.2.1 159 = .ok (.aload_n 0, 1) := by decide +kernel
theorem qd_194_160 : decode qm194.2.2.1 160 = .ok (.getfield 50, 3) := by decide +kernel
theorem qd_194_163 : decode qm194.2.2.1 163 = .ok (.iload_n 2, 1) := by decide +kernel
theorem qd_194_164 : decode qm194.2.2.1 164 = .ok (.iaload, 1) := by decide +kernel
theorem qd_194_165 : decode qm194.2.2.1 165 = .ok (.iload_n 1, 1) := by decide +kernel
theorem qd_194_166 : decode qm194.2.2.1 166 = .ok (.bipush 9, 2) := by decide +kernel
theorem qd_194_168 : decode qm194.2.2.1 168 = .ok (.if_icmp .ne 7, 3) := by decide +kernel
theorem qd_194_171 : decode qm194.2.2.1 171 = .ok (.iconst 0, 1) := by decide +kernel
theorem qd_194_172 : decode qm194.2.2.1 172 = .ok (.goto 4, 3) := by decide +kernel
theorem qd_194_175 : decode qm194.2.2.1 175 = .ok (.iconst 2, 1) := by decide +kernel
theorem qd_194_176 : decode qm194.2.2.1 176 = .ok (.iadd, 1) := by decide +kernel
theorem qd_194_177 : decode qm194.2.2.1 177 = .ok (.invokevirtual 91, 3) := by decide +kernel
theorem qd_194_180 : decode qm194.2.2.1 180 = .ok (.ireturn, 1) := by decide +kernel
theorem qd_194_181 : decode qm194.2.2.1 181 = .ok (.aload_n 0, 1) := by decide +kernel
theorem qd_194_182 : decode qm194.2.2.1 182 = .ok (.aload_n 0, 1) := by decide +kernel
theorem qd_194_183 : decode qm194.2.2.1 183 = .ok (.getfield 44, 3) := by decide +kernel
theorem qd_194_186 : decode qm194.2.2.1 186 = .ok (.iload_n 3, 1) := by decide +kernel
theorem qd_194_187 : decode qm194.2.2.1 187 = .ok (.iaload, 1) := by decide +kernel
theorem qd_194_188 : decode qm194.2.2.1 188 = .ok (.iload_n 3, 1) := by decide +kernel
theorem qd_194_189 : decode qm194.2.2.1 189 = .ok (.iconst 3, 1) := by decide +kernel
theorem qd_194_190 : decode qm194.2.2.1 190 = .ok (.if_icmp .ne 16, 3) := by decide +kernel
theorem qd_194_193 : decode qm194.2.2.1 193 = .ok (.bipush 8, 2) := by decide +kernel
theorem qd_194_195 : decode qm194.2.2.1 195 = .ok (.iload_n 2, 1) := by decide +kernel
theorem qd_194_196 : decode qm194.2.2.1 196 = .ok (.imul, 1) := by decide +kernel
theorem qd_194_197 : decode qm194.2.2.1 197 = .ok (.iconst 2, 1) := by decide +kernel
theorem qd_194_198 : decode qm194.2.2.1 198 = .ok (.iload_n 1, 1) := by decide +kernel
theorem qd_194_199 : decode qm194.2.2.1 199 = .ok (.iconst 5, 1) := by decide +kernel
theorem qd_194_200 : decode qm194.2.2.1 200 = .ok (.isub, 1) := by decide +kernel
theorem qd_194_201 : decode qm194.2.2.1 201 = .ok (.imul, 1) := by decide +kernel
theorem qd_194_202 : decode qm194.2.2.1 202 = .ok (.iadd, 1) := by decide +kernel
theorem qd_194_203 : decode qm194.2.2.1 203 = .ok (.goto 6, 3) := by decide +kernel
theorem qd_194_206 : decode qm194.2.2.1 206 = .ok (.iconst 2, 1) := by decide +kernel
theorem qd_194_207 : decode qm194.2.2.1 207 = .ok (.iload_n 2, 1) := by decide +kernel
theorem qd_194_208 : decode qm194.2.2.1 208 = .ok (.imul, 1) := by decide +kernel
theorem qd_194_209 : decode qm194.2.2.1 209 = .ok (.iadd, 1) := by decide +kernel
theorem qd_194_210 : decode qm194.2.2.1 210 = .ok (.invokevirtual 91, 3) := by decide +kernel
theorem qd_194_213 : decode qm194.2.2.1 213 = .ok (.ireturn, 1) := by decide +kernel
theorem qd_203_0 : decode qm203.2.2.1 0 = .ok (.aload_n 0, 1) := by decide +kernel
theorem qd_203_1 : decode qm203.2.2.1 1 = .ok (.arraylength, 1) := by decide +kernel
theorem qd_203_2 : decode qm203.2.2.1 2 = .ok (.iload_n 1, 1) := by decide +kernel
theorem qd_203_3 : decode qm203.2.2.1 3 = .ok (.iload_n 2, 1) := by decide +kernel
theorem qd_203_4 : decode qm203.2.2.1 4 = .ok (.invokestatic 13, 3) := by decide +kernel
theorem qd_203_7 : decode qm203.2.2.1 7 = .ok (.iload_n 1, 1) := by decide +kernel
theorem qd_203_8 : decode qm203.2.2.1 8 = .ok (.istore 4, 2) := by decide +kernel
theorem qd_203_10 : decode qm203.2.2.1 10 = .ok (.iload 4, 2) := by decide +kernel
theorem qd_203_12 : decode qm203.2.2.1 12 = .ok (.iload_n 2, 1) := by decide +kernel
theorem qd_203_13 : decode qm203.2.2.1 13 = .ok (.if_icmp .ge 14, 3) := by decide +kernel
theorem qd_203_16 : decode qm203.2.2.1 16 = .ok (.aload_n 0, 1) := by decide +kernel
theorem qd_203_17 : decode qm203.2.2.1 17 = .ok (.iload 4, 2) := by decide +kernel
theorem qd_203_19 : decode qm203.2.2.1 19 = .ok (.iload_n 3, 1) := by decide +kernel
theorem qd_203_20 : decode qm203.2.2.1 20 = .ok (.iastore, 1) := by decide +kernel
theorem qd_203_21 : decode qm203.2.2.1 21 = .ok (.iinc 4 1, 3) := by decide +kernel
theorem qd_203_24 : decode qm203.2.2.1 24 = .ok (.goto (-14), 3) := by decide +kernel
theorem qd_203_27 : decode qm203.2.2.1 27 = .ok (.return_, 1) := by decide +kernel
theorem qd_204_0 : decode qm204.2.2.1 0 = .ok (.iload_n 1, 1) := by decide +kernel
theorem qd_204_1 : decode qm204.2.2.1 1 = .ok (.iload_n 2, 1) := by decide +kernel
theorem qd_204_2 : decode qm204.2.2.1 2 = .ok (.if_icmp .le 44, 3) := by decide +kernel
theorem qd_204_5 : decode qm204.2.2.1 5 = .ok (.new 43, 3) := by decide +kernel
theorem qd_204_46 : decode qm204.2.2.1 46 = .ok (.iload_n 1, 1) := by decide +kernel
theorem qd_204_47 : decode qm204.2.2.1 47 = .ok (.ifCond .ge 12, 3) := by decide +kernel
theorem qd_204_50 : decode qm204.2.2.1 50 = .ok (.new 68, 3) := by decide +kernel
theorem qd_204_59 : decode qm204.2.2.1 59 = .ok (.iload_n 2, 1) := by decide +kernel
theorem qd_204_60 : decode qm204.2.2.1 60 = .ok (.iload_n 0, 1) := by decide +kernel
theorem qd_204_61 : decode qm204.2.2.1 61 = .ok (.if_icmp .le 12, 3) := by decide +kernel
theorem qd_204_64 : decode qm204.2.2.1 64 = .ok (.new 68, 3) := by decide +kernel
theorem qd_204_73 : decode qm204.2.2.1 73 = .ok (.return_, 1) := by decide +kernel
theorem qd_205_0 : decode qm205.2.2.1 0 = .ok (.iload_n 0, 1) := by decide +kernel
theorem qd_205_1 : decode qm205.2.2.1 1 = .ok (.iload_n 0, 1) := by decide +kernel
theorem qd_205_2 : decode qm205.2.2.1 2 = .ok (.iconst 1, 1) := by decide +kernel
theorem qd_205_3 : decode qm205.2.2.1 3 = .ok (.iushr, 1) := by decide +kernel
theorem qd_205_4 : decode qm205.2.2.1 4 = .ok (.ldc_w 265, 3) := by decide +kernel
theorem qd_205_7 : decode qm205.2.2.1 7 = .ok (.iand, 1) := by decide +kernel
theorem qd_205_8 : decode qm205.2.2.1 8 = .ok (.isub, 1) := by decide +kernel
theorem qd_205_9 : decode qm205.2.2.1 9 = .ok (.istore_n 0, 1) := by decide +kernel
theorem qd_205_10 : decode qm205.2.2.1 10 = .ok (.iload_n 0, 1) := by decide +kernel
theorem qd_205_11 : decode qm205.2.2.1 11 = .ok (.ldc_w 266, 3) := by decide +kernel
theorem qd_205_14 : decode qm205.2.2.1 14 = .ok (.iand, 1) := by decide +kernel
theorem qd_205_15 : decode qm205.2.2.1 15 = .ok (.iload_n 0, 1) := by decide +kernel
theorem qd_205_16 : decode qm205.2.2.1 16 = .ok (.iconst 2, 1) := by decide +kernel
theorem qd_205_17 : decode qm205.2.2.1 17 = .ok (.iushr, 1) := by decide +kernel
theorem qd_205_18 : decode qm205.2.2.1 18 = .ok (.ldc_w 266, 3) := by decide +kernel
theorem qd_205_21 : decode qm205.2.2.1 21 = .ok (.iand, 1) := by decide +kernel
theorem qd_205_22 : decode qm205.2.2.1 22 = .ok (.iadd, 1) := by decide +kernel
theorem qd_205_23 : decode qm205.2.2.1 23 = .ok (.istore_n 0, 1) := by decide +kernel
theorem qd_205_24 : decode qm205.2.2.1 24 = .ok (.iload_n 0, 1) := by decide +kernel
theorem qd_205_25 : decode qm205.2.2.1 25 = .ok (.iload_n 0, 1) := by decide +kernel
theorem qd_205_26 : decode qm205.2.2.1 26 = .ok (.iconst 4, 1) := by decide +kernel
theorem qd_205_27 : decode qm205.2.2.1 27 = .ok (.iushr, 1) := by decide +kernel
theorem qd_205_28 : decode qm205.2.2.1 28 = .ok (.iadd, 1) := by decide +kernel
theorem qd_205_29 : decode qm205.2.2.1 29 = .ok (.ldc_w 267, 3) := by decide +kernel
theorem qd_205_32 : decode qm205.2.2.1 32 = .ok (.iand, 1) := by decide +kernel
theorem qd_205_33 : decode qm205.2.2.1 33 = .ok (.istore_n 0, 1) := by decide +kernel
theorem qd_205_34 : decode qm205.2.2.1 34 = .ok (.iload_n 0, 1) := by decide +kernel
theorem qd_205_35 : decode qm205.2.2.1 35 = .ok (.iload_n 0, 1) := by decide +kernel
theorem qd_205_36 : decode qm205.2.2.1 36 = .ok (.bipush 8, 2) := by decide +kernel
theorem qd_205_38 : decode qm205.2.2.1 38 = .ok (.iushr, 1) := by decide +kernel
theorem qd_205_39 : decode qm205.2.2.1 39 = .ok (.iadd, 1) := by decide +kernel
theorem qd_205_40 : decode qm205.2.2.1 40 = .ok (.istore_n 0, 1) := by decide +kernel
theorem qd_205_41 : decode qm205.2.2.1 41 = .ok (.iload_n 0, 1) := by decide +kernel
theorem qd_205_42 : decode qm205.2.2.1 42 = .ok (.iload_n 0, 1) := by decide +kernel
theorem qd_205_43 : decode qm205.2.2.1 43 = .ok (.bipush 16, 2) := by decide +kernel
theorem qd_205_45 : decode qm205.2.2.1 45 = .ok (.iushr, 1) := by decide +kernel
theorem qd_205_46 : decode qm205.2.2.1 46 = .ok (.iadd, 1) := by decide +kernel
theorem qd_205_47 : decode qm205.2.2.1 47 = .ok (.istore_n 0, 1) := by decide +kernel
theorem qd_205_48 : decode qm205.2.2.1 48 = .ok (.iload_n 0, 1) := by decide +kernel
theorem qd_205_49 : decode qm205.2.2.1 49 = .ok (.bipush 63, 2) := by decide +kernel
theorem qd_205_51 : decode qm205.2.2.1 51 = .ok (.iand, 1) := by decide +kernel
theorem qd_205_52 : decode qm205.2.2.1 52 = .ok (.ireturn, 1) := by decide +kernel
