/-! the code, instruction by instruction: printed by a program of mine (wip/whole/gen_blocks.py, emit.py) -/
theorem qd_53_0 : decode qm53.2.2.1 0 = .ok (.aload_n 0, 1) := by decide +kernel
theorem qd_53_1 : decode qm53.2.2.1 1 = .ok (.getfield 15, 3) := by decide +kernel
theorem qd_53_4 : decode qm53.2.2.1 4 = .ok (.iload_n 1, 1) := by decide +kernel
theorem qd_53_5 : decode qm53.2.2.1 5 = .ok (.invokevirtual 49, 3) := by decide +kernel
theorem qd_53_8 : decode qm53.2.2.1 8 = .ok (.istore_n 2, 1) := by decide +kernel
theorem qd_53_9 : decode qm53.2.2.1 9 = .ok (.aload_n 0, 1) := by decide +kernel
theorem qd_53_10 : decode qm53.2.2.1 10 = .ok (.iload_n 1, 1) := by decide +kernel
theorem qd_53_11 : decode qm53.2.2.1 11 = .ok (.bipush 32, 2) := by decide +kernel
theorem qd_53_13 : decode qm53.2.2.1 13 = .ok (.invokevirtual 61, 3) := by decide +kernel
theorem qd_53_16 : decode qm53.2.2.1 16 = .ok (.ifCond .eq 33, 3) := by decide +kernel
theorem qd_53_19 : decode qm53.2.2.1 19 = .ok (.aload_n 0, 1) := by decide +kernel
theorem qd_53_20 : decode qm53.2.2.1 20 = .ok (.getfield 15, 3) := by decide +kernel
theorem qd_53_23 : decode qm53.2.2.1 23 = .ok (.iload_n 2, 1) := by decide +kernel
theorem qd_53_24 : decode qm53.2.2.1 24 = .ok (.iconst 2, 1) := by decide +kernel
theorem qd_53_25 : decode qm53.2.2.1 25 = .ok (.invokevirtual 57, 3) := by decide +kernel
theorem qd_53_28 : decode qm53.2.2.1 28 = .ok (.ifCond .eq 21, 3) := by decide +kernel
theorem qd_53_31 : decode qm53.2.2.1 31 = .ok (.aload_n 0, 1) := by decide +kernel
theorem qd_53_32 : decode qm53.2.2.1 32 = .ok (.getfield 15, 3) := by decide +kernel
theorem qd_53_35 : decode qm53.2.2.1 35 = .ok (.iload_n 2, 1) := by decide +kernel
theorem qd_53_36 : decode qm53.2.2.1 36 = .ok (.sipush 128, 3) := by decide +kernel
theorem qd_53_39 : decode qm53.2.2.1 39 = .ok (.invokevirtual 57, 3) := by decide +kernel
theorem qd_53_42 : decode qm53.2.2.1 42 = .ok (.ifCond .ne 7, 3) := by decide +kernel
theorem qd_53_45 : decode qm53.2.2.1 45 = .ok (.iconst 1, 1) := by decide +kernel
theorem qd_53_46 : decode qm53.2.2.1 46 = .ok (.goto 4, 3) := by decide +kernel
theorem qd_53_49 : decode qm53.2.2.1 49 = .ok (.iconst 0, 1) := by decide +kernel
theorem qd_53_50 : decode qm53.2.2.1 50 = .ok (.ireturn, 1) := by decide +kernel
theorem qd_54_0 : decode qm54.2.2.1 0 = .ok (.aload_n 0, 1) := by decide +kernel
theorem qd_54_1 : decode qm54.2.2.1 1 = .ok (.getfield 15, 3) := by decide +kernel
theorem qd_54_4 : decode qm54.2.2.1 4 = .ok (.iload_n 1, 1) := by decide +kernel
theorem qd_54_5 : decode qm54.2.2.1 5 = .ok (.iconst 3, 1) := by decide +kernel
theorem qd_54_6 : decode qm54.2.2.1 6 = .ok (.invokevirtual 57, 3) := by decide +kernel
theorem qd_54_9 : decode qm54.2.2.1 9 = .ok (.ifCond .eq 20, 3) := by decide +kernel
theorem qd_54_12 : decode qm54.2.2.1 12 = .ok (.aload_n 0, 1) := by decide +kernel
theorem qd_54_13 : decode qm54.2.2.1 13 = .ok (.getfield 15, 3) := by decide +kernel
theorem qd_54_16 : decode qm54.2.2.1 16 = .ok (.iload_n 2, 1) := by decide +kernel
theorem qd_54_17 : decode qm54.2.2.1 17 = .ok (.bipush 48, 2) := by decide +kernel
theorem qd_54_19 : decode qm54.2.2.1 19 = .ok (.invokevirtual 57, 3) := by decide +kernel
theorem qd_54_22 : decode qm54.2.2.1 22 = .ok (.ifCond .eq 7, 3) := by decide +kernel
theorem qd_54_25 : decode qm54.2.2.1 25 = .ok (.iconst 1, 1) := by decide +kernel
theorem qd_54_26 : decode qm54.2.2.1 26 = .ok (.goto 4, 3) := by decide +kernel
theorem qd_54_29 : decode qm54.2.2.1 29 = .ok (.iconst 0, 1) := by decide +kernel
theorem qd_54_30 : decode qm54.2.2.1 30 = .ok (.ireturn, 1) := by decide +kernel
theorem qd_55_0 : decode qm55.2.2.1 0 = .ok (.iload_n 0, 1) := by decide +kernel
theorem qd_55_1 : decode qm55.2.2.1 1 = .ok (.tableswitch 105 1 9 #[51, 51, 51, 51, 63, 75, 75, 63, 93], 51) := by decide +kernel
theorem qd_55_52 : decode qm55.2.2.1 52 = .ok (.iload_n 1, 1) := by decide +kernel
theorem qd_55_53 : decode qm55.2.2.1 53 = .ok (.bipush 9, 2) := by decide +kernel
theorem qd_55_55 : decode qm55.2.2.1 55 = .ok (.if_icmp .ne 7, 3) := by decide +kernel
theorem qd_55_58 : decode qm55.2.2.1 58 = .ok (.iconst 1, 1) := by decide +kernel
theorem qd_55_59 : decode qm55.2.2.1 59 = .ok (.goto 4, 3) := by decide +kernel
theorem qd_55_62 : decode qm55.2.2.1 62 = .ok (.iconst 0, 1) := by decide +kernel
theorem qd_55_63 : decode qm55.2.2.1 63 = .ok (.ireturn, 1) := by decide +kernel
theorem qd_55_64 : decode qm55.2.2.1 64 = .ok (.iload_n 1, 1) := by decide +kernel
theorem qd_55_65 : decode qm55.2.2.1 65 = .ok (.bipush 10, 2) := by decide +kernel
theorem qd_55_67 : decode qm55.2.2.1 67 = .ok (.if_icmp .ne 7, 3) := by decide +kernel
theorem qd_55_70 : decode qm55.2.2.1 70 = .ok (.iconst 1, 1) := by decide +kernel
theorem qd_55_71 : decode qm55.2.2.1 71 = .ok (.goto 4, 3) := by decide +kernel
theorem qd_55_74 : decode qm55.2.2.1 74 = .ok (.iconst 0, 1) := by decide +kernel
theorem qd_55_75 : decode qm55.2.2.1 75 = .ok (.ireturn, 1) := by decide +kernel
theorem qd_55_76 : decode qm55.2.2.1 76 = .ok (.iload_n 1, 1) := by decide +kernel
theorem qd_55_77 : decode qm55.2.2.1 77 = .ok (.bipush 10, 2) := by decide +kernel
theorem qd_55_79 : decode qm55.2.2.1 79 = .ok (.if_icmp .eq 9, 3) := by decide +kernel
theorem qd_55_82 : decode qm55.2.2.1 82 = .ok (.iload_n 1, 1) := by decide +kernel
theorem qd_55_83 : decode qm55.2.2.1 83 = .ok (.bipush 11, 2) := by decide +kernel
theorem qd_55_85 : decode qm55.2.2.1 85 = .ok (.if_icmp .ne 7, 3) := by decide +kernel
theorem qd_55_88 : decode qm55.2.2.1 88 = .ok (.iconst 1, 1) := by decide +kernel
theorem qd_55_89 : decode qm55.2.2.1 89 = .ok (.goto 4, 3) := by decide +kernel
theorem qd_55_92 : decode qm55.2.2.1 92 = .ok (.iconst 0, 1) := by decide +kernel
theorem qd_55_93 : decode qm55.2.2.1 93 = .ok (.ireturn, 1) := by decide +kernel
theorem qd_55_94 : decode qm55.2.2.1 94 = .ok (.iload_n 1, 1) := by decide +kernel
theorem qd_55_95 : decode qm55.2.2.1 95 = .ok (.bipush 11, 2) := by decide +kernel
theorem qd_55_97 : decode qm55.2.2.1 97 = .ok (.if_icmp .ne 7, 3) := by decide +kernel
theorem qd_55_100 : decode qm55.2.2.1 100 = .ok (.iconst 1, 1) := by decide +kernel
theorem qd_55_101 : decode qm55.2.2.1 101 = .ok (.goto 4, 3) := by decide +kernel
theorem qd_55_104 : decode qm55.2.2.1 104 = .ok (.iconst 0, 1) := by decide +kernel
theorem qd_55_105 : decode qm55.2.2.1 105 = .ok (.ireturn, 1) := by decide +kernel
theorem qd_55_106 : decode qm55.2.2.1 106 = .ok (.iconst 0, 1) := by decide +kernel
theorem qd_55_107 : decode qm55.2.2.1 107 = .ok (.ireturn, 1) := by decide +kernel
theorem qd_56_0 : decode qm56.2.2.1 0 = .ok (.aload_n 0, 1) := by decide +kernel
theorem qd_56_1 : decode qm56.2.2.1 1 = .ok (.aload_n 0, 1) := by decide +kernel
theorem qd_56_2 : decode qm56.2.2.1 2 = .ok (.getfield 9, 3) := by decide +kernel
theorem qd_56_5 : decode qm56.2.2.1 5 = .ok (.iconst 2, 1) := by decide +kernel
theorem qd_56_6 : decode qm56.2.2.1 6 = .ok (.invokevirtual 38, 3) := by decide +kernel
theorem qd_56_9 : decode qm56.2.2.1 9 = .ok (.putfield 64, 3) := by decide +kernel
theorem qd_56_12 : decode qm56.2.2.1 12 = .ok (.aload_n 0, 1) := by decide +kernel
theorem qd_56_13 : decode qm56.2.2.1 13 = .ok (.getfield 9, 3) := by decide +kernel
theorem qd_56_16 : decode qm56.2.2.1 16 = .ok (.aload_n 0, 1) := by decide +kernel
theorem qd_56_17 : decode qm56.2.2.1 17 = .ok (.getfield 64, 3) := by decide +kernel
theorem qd_56_20 : decode qm56.2.2.1 20 = .ok (.invokestatic 67, 3) := by decide +kernel
theorem qd_56_23 : decode qm56.2.2.1 23 = .ok (.aload_n 0, 1) := by decide +kernel
theorem qd_56_24 : decode qm56.2.2.1 24 = .ok (.getfield 9, 3) := by decide +kernel
theorem qd_56_27 : decode qm56.2.2.1 27 = .ok (.invokevirtual 57, 3) := by decide +kernel
theorem qd_56_30 : decode qm56.2.2.1 30 = .ok (.iconst 2, 1) := by decide +kernel
theorem qd_56_31 : decode qm56.2.2.1 31 = .ok (.isub, 1) := by decide +kernel
theorem qd_56_32 : decode qm56.2.2.1 32 = .ok (.invokevirtual 45, 3) := by decide +kernel
theorem qd_56_35 : decode qm56.2.2.1 35 = .ok (.aload_n 0, 1) := by decide +kernel
theorem qd_56_36 : decode qm56.2.2.1 36 = .ok (.aload_n 0, 1) := by decide +kernel
theorem qd_56_37 : decode qm56.2.2.1 37 = .ok (.invokevirtual 71, 3) := by decide +kernel
theorem qd_56_40 : decode qm56.2.2.1 40 = .ok (.putfield 74, 3) := by decide +kernel
theorem qd_56_43 : decode qm56.2.2.1 43 = .ok (.aload_n 0, 1) := by decide +kernel
theorem qd_56_44 : decode qm56.2.2.1 44 = .ok (.aload_n 0, 1) := by decide +kernel
theorem qd_56_45 : decode qm56.2.2.1 45 = .ok (.getfield 9, 3) := by decide +kernel
theorem qd_56_48 : decode qm56.2.2.1 48 = .ok (.iconst 2, 1) := by decide +kernel
theorem qd_56_49 : decode qm56.2.2.1 49 = .ok (.invokevirtual 38, 3) := by decide +kernel
theorem qd_56_52 : decode qm56.2.2.1 52 = .ok (.putfield 77, 3) := by decide +kernel
theorem qd_56_55 : decode qm56.2.2.1 55 = .ok (.aload_n 0, 1) := by decide +kernel
theorem qd_56_56 : decode qm56.2.2.1 56 = .ok (.getfield 77, 3) := by decide +kernel
theorem qd_56_59 : decode qm56.2.2.1 59 = .ok (.ifCond .ne 22, 3) := by decide +kernel
theorem qd_56_62 : decode qm56.2.2.1 62 = .ok (.aload_n 0, 1) := by decide +kernel
theorem qd_56_63 : decode qm56.2.2.1 63 = .ok (.getfield 64, 3) := by decide +kernel
theorem qd_56_66 : decode qm56.2.2.1 66 = .ok (.sipush 512, 3) := by decide +kernel
theorem qd_56_69 : decode qm56.2.2.1 69 = .ok (.iand, 1) := by decide +kernel
theorem qd_56_70 : decode qm56.2.2.1 70 = .ok (.ifCond .ne 7, 3) := by decide +kernel
theorem qd_56_73 : decode qm56.2.2.1 73 = .ok (.iconst 1, 1) := by decide +kernel
theorem qd_56_74 : decode qm56.2.2.1 74 = .ok (.goto 18, 3) := by decide +kernel
theorem qd_56_77 : decode qm56.2.2.1 77 = .ok (.iconst 0, 1) := by decide +kernel
theorem qd_56_78 : decode qm56.2.2.1 78 = .ok (.goto 14, 3) := by decide +kernel
theorem qd_56_81 : decode qm56.2.2.1 81 = .ok (.aload_n 0, 1) := by decide +kernel
theorem qd_56_82 : decode qm56.2.2.1 82 = .ok (.getfield 15, 3) := by decide +kernel
theorem qd_56_85 : decode qm56.2.2.1 85 = .ok (.aload_n 0, 1) := by decide +kernel
theorem qd_56_86 : decode qm56.2.2.1 86 = .ok (.getfield 77, 3) := by decide +kernel
theorem qd_56_89 : decode qm56.2.2.1 89 = .ok (.invokevirtual 80, 3) := by decide +kernel
theorem qd_56_92 : decode qm56.2.2.1 92 = .ok (.istore_n 1, 1) := by decide +kernel
theorem qd_56_93 : decode qm56.2.2.1 93 = .ok (.aload_n 0, 1) := by decide +kernel
theorem qd_56_94 : decode qm56.2.2.1 94 = .ok (.getfield 9, 3) := by decide +kernel
theorem qd_56_97 : decode qm56.2.2.1 97 = .ok (.iload_n 1, 1) := by decide +kernel
theorem qd_56_98 : decode qm56.2.2.1 98 = .ok (.aload_n 0, 1) := by decide +kernel
theorem qd_56_99 : decode qm56.2.2.1 99 = .ok (.getfield 9, 3) := by decide +kernel
theorem qd_56_102 : decode qm56.2.2.1 102 = .ok (.invokevirtual 57, 3) := by decide +kernel
theorem qd_56_105 : decode qm56.2.2.1 105 = .ok (.iconst 2, 1) := by decide +kernel
theorem qd_56_106 : decode qm56.2.2.1 106 = .ok (.isub, 1) := by decide +kernel
theorem qd_56_107 : decode qm56.2.2.1 107 = .ok (.invokevirtual 45, 3) := by decide +kernel
theorem qd_56_110 : decode qm56.2.2.1 110 = .ok (.aload_n 0, 1) := by decide +kernel
theorem qd_56_111 : decode qm56.2.2.1 111 = .ok (.getfield 28, 3) := by decide +kernel
theorem qd_56_114 : decode qm56.2.2.1 114 = .ok (.invokevirtual 85, 3) := by decide +kernel
theorem qd_56_117 : decode qm56.2.2.1 117 = .ok (.aload_n 0, 1) := by decide +kernel
theorem qd_56_118 : decode qm56.2.2.1 118 = .ok (.getfield 9, 3) := by decide +kernel
theorem qd_56_121 : decode qm56.2.2.1 121 = .ok (.iconst 2, 1) := by decide +kernel
theorem qd_56_122 : decode qm56.2.2.1 122 = .ok (.invokevirtual 38, 3) := by decide +kernel
theorem qd_56_125 : decode qm56.2.2.1 125 = .ok (.istore_n 2, 1) := by decide +kernel
theorem qd_56_126 : decode qm56.2.2.1 126 = .ok (.iconst 0, 1) := by decide +kernel
theorem qd_56_127 : decode qm56.2.2.1 127 = .ok (.istore_n 3, 1) := by decide +kernel
theorem qd_56_128 : decode qm56.2.2.1 128 = .ok (.iload_n 3, 1) := by decide +kernel
theorem qd_56_129 : decode qm56.2.2.1 129 = .ok (.iload_n 2, 1) := by decide +kernel
theorem qd_56_130 : decode qm56.2.2.1 130 = .ok (.if_icmp .ge 21, 3) := by decide +kernel
theorem qd_56_133 : decode qm56.2.2.1 133 = .ok (.aload_n 0, 1) := by decide +kernel
theorem qd_56_134 : decode qm56.2.2.1 134 = .ok (.getfield 28, 3) := by decide +kernel
theorem qd_56_137 : decode qm56.2.2.1 137 = .ok (.aload_n 0, 1) := by decide +kernel
theorem qd_56_138 : decode qm56.2.2.1 138 = .ok (.invokevirtual 71, 3) := by decide +kernel
theorem qd_56_141 : decode qm56.2.2.1 141 = .ok (.invokevirtual 88, 3) := by decide +kernel
theorem qd_56_144 : decode qm56.2.2.1 144 = .ok (.pop, 1) := by decide +kernel
theorem qd_56_145 : decode qm56.2.2.1 145 = .ok (.iinc 3 1, 3) := by decide +kernel
theorem qd_56_148 : decode qm56.2.2.1 148 = .ok (.goto (-20), 3) := by decide +kernel
theorem qd_56_151 : decode qm56.2.2.1 151 = .ok (.return_, 1) := by decide +kernel
theorem qd_57_0 : decode qm57.2.2.1 0 = .ok (.iload_n 0, 1) := by decide +kernel
theorem qd_57_1 : decode qm57.2.2.1 1 = .ok (.bipush 16, 2) := by decide +kernel
theorem qd_57_3 : decode qm57.2.2.1 3 = .ok (.iand, 1) := by decide +kernel
theorem qd_57_4 : decode qm57.2.2.1 4 = .ok (.ifCond .eq 7, 3) := by decide +kernel
theorem qd_57_7 : decode qm57.2.2.1 7 = .ok (.iconst 1, 1) := by decide +kernel
theorem qd_57_8 : decode qm57.2.2.1 8 = .ok (.goto 4, 3) := by decide +kernel
theorem qd_57_11 : decode qm57.2.2.1 11 = .ok (.iconst 0, 1) := by decide +kernel
theorem qd_57_12 : decode qm57.2.2.1 12 = .ok (.istore_n 1, 1) := by decide +kernel
theorem qd_57_13 : decode qm57.2.2.1 13 = .ok (.iload_n 0, 1) := by decide +kernel
theorem qd_57_14 : decode qm57.2.2.1 14 = .ok (.sipush 1024, 3) := by decide +kernel
theorem qd_57_17 : decode qm57.2.2.1 17 = .ok (.iand, 1) := by decide +kernel
theorem qd_57_18 : decode qm57.2.2.1 18 = .ok (.ifCond .eq 7, 3) := by decide +kernel
theorem qd_57_21 : decode qm57.2.2.1 21 = .ok (.iconst 1, 1) := by decide +kernel
theorem qd_57_22 : decode qm57.2.2.1 22 = .ok (.goto 4, 3) := by decide +kernel
theorem qd_57_25 : decode qm57.2.2.1 25 = .ok (.iconst 0, 1) := by decide +kernel
theorem qd_57_26 : decode qm57.2.2.1 26 = .ok (.istore_n 2, 1) := by decide +kernel
theorem qd_57_27 : decode qm57.2.2.1 27 = .ok (.iload_n 0, 1) := by decide +kernel
theorem qd_57_28 : decode qm57.2.2.1 28 = .ok (.sipush 512, 3) := by decide +kernel
theorem qd_57_31 : decode qm57.2.2.1 31 = .ok (.iand, 1) := by decide +kernel
theorem qd_57_32 : decode qm57.2.2.1 32 = .ok (.ifCond .eq 17, 3) := by decide +kernel
theorem qd_57_35 : decode qm57.2.2.1 35 = .ok (.iload_n 2, 1) := by decide +kernel
theorem qd_57_36 : decode qm57.2.2.1 36 = .ok (.ifCond .eq 11, 3) := by decide +kernel
theorem qd_57_39 : decode qm57.2.2.1 39 = .ok (.iload_n 1, 1) := by decide +kernel
theorem qd_57_40 : decode qm57.2.2.1 40 = .ok (.ifCond .ne 7, 3) := by decide +kernel
theorem qd_57_43 : decode qm57.2.2.1 43 = .ok (.iconst 1, 1) := by decide +kernel
theorem qd_57_44 : decode qm57.2.2.1 44 = .ok (.goto 4, 3) := by decide +kernel
theorem qd_57_47 : decode qm57.2.2.1 47 = .ok (.iconst 0, 1) := by decide +kernel
theorem qd_57_48 : decode qm57.2.2.1 48 = .ok (.ireturn, 1) := by decide +kernel
theorem qd_57_49 : decode qm57.2.2.1 49 = .ok (.iload_n 2, 1) := by decide +kernel
theorem qd_57_50 : decode qm57.2.2.1 50 = .ok (.ifCond .eq 7, 3) := by decide +kernel
theorem qd_57_53 : decode qm57.2.2.1 53 = .ok (.iload_n 1, 1) := by decide +kernel
theorem qd_57_54 : decode qm57.2.2.1 54 = .ok (.ifCond .ne 7, 3) := by decide +kernel
theorem qd_57_57 : decode qm57.2.2.1 57 = .ok (.iconst 1, 1) := by decide +kernel
theorem qd_57_58 : decode qm57.2.2.1 58 = .ok (.goto 4, 3) := by decide +kernel
theorem qd_57_61 : decode qm57.2.2.1 61 = .ok (.iconst 0, 1) := by decide +kernel
theorem qd_57_62 : decode qm57.2.2.1 62 = .ok (.ireturn, 1) := by decide +kernel
theorem qd_58_0 : decode qm58.2.2.1 0 = .ok (.aload_n 0, 1) := by decide +kernel
theorem qd_58_1 : decode qm58.2.2.1 1 = .ok (.getfield 9, 3) := by decide +kernel
theorem qd_58_4 : decode qm58.2.2.1 4 = .ok (.iconst 2, 1) := by decide +kernel
theorem qd_58_5 : decode qm58.2.2.1 5 = .ok (.invokevirtual 38, 3) := by decide +kernel
theorem qd_58_8 : decode qm58.2.2.1 8 = .ok (.istore_n 1, 1) := by decide +kernel
theorem qd_58_9 : decode qm58.2.2.1 9 = .ok (.aload_n 0, 1) := by decide +kernel
theorem qd_58_10 : decode qm58.2.2.1 10 = .ok (.getfield 9, 3) := by decide +kernel
theorem qd_58_13 : decode qm58.2.2.1 13 = .ok (.aload_n 0, 1) := by decide +kernel
theorem qd_58_14 : decode qm58.2.2.1 14 = .ok (.getfield 15, 3) := by decide +kernel
theorem qd_58_17 : decode qm58.2.2.1 17 = .ok (.iload_n 1, 1) := by decide +kernel
theorem qd_58_18 : decode qm58.2.2.1 18 = .ok (.invokevirtual 80, 3) := by decide +kernel
theorem qd_58_21 : decode qm58.2.2.1 21 = .ok (.aload_n 0, 1) := by decide +kernel
theorem qd_58_22 : decode qm58.2.2.1 22 = .ok (.getfield 9, 3) := by decide +kernel
theorem qd_58_25 : decode qm58.2.2.1 25 = .ok (.invokevirtual 57, 3) := by decide +kernel
theorem qd_58_28 : decode qm58.2.2.1 28 = .ok (.iconst 2, 1) := by decide +kernel
theorem qd_58_29 : decode qm58.2.2.1 29 = .ok (.isub, 1) := by decide +kernel
theorem qd_58_30 : decode qm58.2.2.1 30 = .ok (.invokevirtual 45, 3) := by decide +kernel
theorem qd_58_33 : decode qm58.2.2.1 33 = .ok (.iload_n 1, 1) := by decide +kernel
theorem qd_58_34 : decode qm58.2.2.1 34 = .ok (.ireturn, 1) := by decide +kernel
theorem qd_59_0 : decode qm59.2.2.1 0 = .ok (.aload_n 0, 1) := by decide +kernel
theorem qd_59_1 : decode qm59.2.2.1 1 = .ok (.iload_n 1, 1) := by decide +kernel
theorem qd_59_2 : decode qm59.2.2.1 2 = .ok (.invokevirtual 78, 3) := by decide +kernel
theorem qd_59_5 : decode qm59.2.2.1 5 = .ok (.bipush 7, 2) := by decide +kernel
theorem qd_59_7 : decode qm59.2.2.1 7 = .ok (.if_icmp .ne 20, 3) := by decide +kernel
theorem qd_59_10 : decode qm59.2.2.1 10 = .ok (.aload_n 0, 1) := by decide +kernel
theorem qd_59_11 : decode qm59.2.2.1 11 = .ok (.aload_n 0, 1) := by decide +kernel
theorem qd_59_12 : decode qm59.2.2.1 12 = .ok (.iload_n 1, 1) := by decide +kernel
theorem qd_59_13 : decode qm59.2.2.1 13 = .ok (.invokevirtual 101, 3) := by decide +kernel
theorem qd_59_16 : decode qm59.2.2.1 16 = .ok (.iconst 4, 1) := by decide +kernel
theorem qd_59_17 : decode qm59.2.2.1 17 = .ok (.invokevirtual 97, 3) := by decide +kernel
theorem qd_59_20 : decode qm59.2.2.1 20 = .ok (.ifCond .eq 7, 3) := by decide +kernel
theorem qd_59_23 : decode qm59.2.2.1 23 = .ok (.iconst 1, 1) := by decide +kernel
theorem qd_59_24 : decode qm59.2.2.1 24 = .ok (.goto 4, 3) := by decide +kernel
theorem qd_59_27 : decode qm59.2.2.1 27 = .ok (.iconst 0, 1) := by decide +kernel
theorem qd_59_28 : decode qm59.2.2.1 28 = .ok (.ireturn, 1) := by decide +kernel
theorem qd_60_0 : decode qm60.2.2.1 0 = .ok (.aload_n 0, 1) := by decide +kernel
theorem qd_60_1 : decode qm60.2.2.1 1 = .ok (.getfield 32, 3) := by decide +kernel
theorem qd_60_4 : decode qm60.2.2.1 4 = .ok (.invokevirtual 85, 3) := by decide +kernel
theorem qd_60_7 : decode qm60.2.2.1 7 = .ok (.aload_n 0, 1) := by decide +kernel
theorem qd_60_8 : decode qm60.2.2.1 8 = .ok (.getfield 9, 3) := by decide +kernel
theorem qd_60_11 : decode qm60.2.2.1 11 = .ok (.iconst 2, 1) := by decide +kernel
theorem qd_60_12 : decode qm60.2.2.1 12 = .ok (.invokevirtual 38, 3) := by decide +kernel
theorem qd_60_15 : decode qm60.2.2.1 15 = .ok (.istore_n 1, 1) := by decide +kernel
theorem qd_60_16 : decode qm60.2.2.1 16 = .ok (.iconst 0, 1) := by decide +kernel
theorem qd_60_17 : decode qm60.2.2.1 17 = .ok (.istore_n 2, 1) := by decide +kernel
theorem qd_60_18 : decode qm60.2.2.1 18 = .ok (.iload_n 2, 1) := by decide +kernel
theorem qd_60_19 : decode qm60.2.2.1 19 = .ok (.iload_n 1, 1) := by decide +kernel
theorem qd_60_20 : decode qm60.2.2.1 20 = .ok (.if_icmp .ge 44, 3) := by decide +kernel
theorem qd_60_23 : decode qm60.2.2.1 23 = .ok (.aload_n 0, 1) := by decide +kernel
theorem qd_60_24 : decode qm60.2.2.1 24 = .ok (.invokevirtual 91, 3) := by decide +kernel
theorem qd_60_27 : decode qm60.2.2.1 27 = .ok (.istore_n 3, 1) := by decide +kernel
theorem qd_60_28 : decode qm60.2.2.1 28 = .ok (.aload_n 0, 1) := by decide +kernel
theorem qd_60_29 : decode qm60.2.2.1 29 = .ok (.getfield 19, 3) := by decide +kernel
theorem qd_60_32 : decode qm60.2.2.1 32 = .ok (.iconst 1, 1) := by decide +kernel
theorem qd_60_33 : decode qm60.2.2.1 33 = .ok (.aload_n 0, 1) := by decide +kernel
theorem qd_60_34 : decode qm60.2.2.1 34 = .ok (.getfield 32, 3) := by decide +kernel
theorem qd_60_37 : decode qm60.2.2.1 37 = .ok (.iload_n 3, 1) := by decide +kernel
theorem qd_60_38 : decode qm60.2.2.1 38 = .ok (.iconst 2, 1) := by decide +kernel
theorem qd_60_39 : decode qm60.2.2.1 39 = .ok (.invokevirtual 96, 3) := by decide +kernel
theorem qd_60_42 : decode qm60.2.2.1 42 = .ok (.invokevirtual 100, 3) := by decide +kernel
theorem qd_60_45 : decode qm60.2.2.1 45 = .ok (.istore 4, 2) := by decide +kernel
theorem qd_60_47 : decode qm60.2.2.1 47 = .ok (.aload_n 0, 1) := by decide +kernel
theorem qd_60_48 : decode qm60.2.2.1 48 = .ok (.aload_n 0, 1) := by decide +kernel
theorem qd_60_49 : decode qm60.2.2.1 49 = .ok (.getfield 32, 3) := by decide +kernel
theorem qd_60_52 : decode qm60.2.2.1 52 = .ok (.iload_n 3, 1) := by decide +kernel
theorem qd_60_53 : decode qm60.2.2.1 53 = .ok (.iload 4, 2) := by decide +kernel
theorem qd_60_55 : decode qm60.2.2.1 55 = .ok (.invokevirtual 105, 3) := by decide +kernel
theorem qd_60_58 : decode qm60.2.2.1 58 = .ok (.iinc 2 1, 3) := by decide +kernel
theorem qd_60_61 : decode qm60.2.2.1 61 = .ok (.goto (-43), 3) := by decide +kernel
theorem qd_60_64 : decode qm60.2.2.1 64 = .ok (.return_, 1) := by decide +kernel
theorem qd_61_0 : decode qm61.2.2.1 0 = .ok (.aload_n 0, 1) := by decide +kernel
theorem qd_61_1 : decode qm61.2.2.1 1 = .ok (.getfield 9, 3) := by decide +kernel
theorem qd_61_4 : decode qm61.2.2.1 4 = .ok (.iconst 2, 1) := by decide +kernel
theorem qd_61_5 : decode qm61.2.2.1 5 = .ok (.invokevirtual 38, 3) := by decide +kernel
theorem qd_61_8 : decode qm61.2.2.1 8 = .ok (.istore_n 1, 1) := by decide +kernel
theorem qd_61_9 : decode qm61.2.2.1 9 = .ok (.aload_n 0, 1) := by decide +kernel
theorem qd_61_10 : decode qm61.2.2.1 10 = .ok (.getfield 9, 3) := by decide +kernel
theorem qd_61_13 : decode qm61.2.2.1 13 = .ok (.iload_n 1, 1) := by decide +kernel
theorem qd_61_14 : decode qm61.2.2.1 14 = .ok (.invokestatic 109, 3) := by decide +kernel
theorem qd_61_17 : decode qm61.2.2.1 17 = .ok (.aload_n 0, 1) := by decide +kernel
theorem qd_61_18 : decode qm61.2.2.1 18 = .ok (.getfield 9, 3) := by decide +kernel
theorem qd_61_21 : decode qm61.2.2.1 21 = .ok (.invokevirtual 57, 3) := by decide +kernel
theorem qd_61_24 : decode qm61.2.2.1 24 = .ok (.iconst 2, 1) := by decide +kernel
theorem qd_61_25 : decode qm61.2.2.1 25 = .ok (.isub, 1) := by decide +kernel
theorem qd_61_26 : decode qm61.2.2.1 26 = .ok (.invokevirtual 45, 3) := by decide +kernel
theorem qd_61_29 : decode qm61.2.2.1 29 = .ok (.aload_n 0, 1) := by decide +kernel
theorem qd_61_30 : decode qm61.2.2.1 30 = .ok (.getfield 15, 3) := by decide +kernel
theorem qd_61_33 : decode qm61.2.2.1 33 = .ok (.iconst 1, 1) := by decide +kernel
theorem qd_61_34 : decode qm61.2.2.1 34 = .ok (.invokevirtual 114, 3) := by decide +kernel
theorem qd_61_37 : decode qm61.2.2.1 37 = .ok (.istore_n 2, 1) := by decide +kernel
theorem qd_61_38 : decode qm61.2.2.1 38 = .ok (.aload_n 0, 1) := by decide +kernel
theorem qd_61_39 : decode qm61.2.2.1 39 = .ok (.getfield 9, 3) := by decide +kernel
theorem qd_61_42 : decode qm61.2.2.1 42 = .ok (.invokevirtual 57, 3) := by decide +kernel
theorem qd_61_45 : decode qm61.2.2.1 45 = .ok (.iconst 2, 1) := by decide +kernel
theorem qd_61_46 : decode qm61.2.2.1 46 = .ok (.isub, 1) := by decide +kernel
theorem qd_61_47 : decode qm61.2.2.1 47 = .ok (.istore_n 3, 1) := by decide +kernel
theorem qd_61_48 : decode qm61.2.2.1 48 = .ok (.aload_n 0, 1) := by decide +kernel
theorem qd_61_49 : decode qm61.2.2.1 49 = .ok (.getfield 15, 3) := by decide +kernel
theorem qd_61_52 : decode qm61.2.2.1 52 = .ok (.bipush 16, 2) := by decide +kernel
theorem qd_61_54 : decode qm61.2.2.1 54 = .ok (.invokevirtual 114, 3) := by decide +kernel
theorem qd_61_57 : decode qm61.2.2.1 57 = .ok (.istore 4, 2) := by decide +kernel
theorem qd_61_59 : decode qm61.2.2.1 59 = .ok (.aload_n 0, 1) := by decide +kernel
theorem qd_61_60 : decode qm61.2.2.1 60 = .ok (.getfield 32, 3) := by decide +kernel
theorem qd_61_63 : decode qm61.2.2.1 63 = .ok (.iload_n 1, 1) := by decide +kernel
theorem qd_61_64 : decode qm61.2.2.1 64 = .ok (.iload_n 2, 1) := by decide +kernel
theorem qd_61_65 : decode qm61.2.2.1 65 = .ok (.iload 4, 2) := by decide +kernel
theorem qd_61_67 : decode qm61.2.2.1 67 = .ok (.invokestatic 117, 3) := by decide +kernel
theorem qd_61_70 : decode qm61.2.2.1 70 = .ok (.istore 5, 2) := by decide +kernel
theorem qd_61_72 : decode qm61.2.2.1 72 = .ok (.aload_n 0, 1) := by decide +kernel
theorem qd_61_73 : decode qm61.2.2.1 73 = .ok (.getfield 32, 3) := by decide +kernel
theorem qd_61_76 : decode qm61.2.2.1 76 = .ok (.iload 5, 2) := by decide +kernel
theorem qd_61_78 : decode qm61.2.2.1 78 = .ok (.iconst 4, 1) := by decide +kernel
theorem qd_61_79 : decode qm61.2.2.1 79 = .ok (.aload_n 0, 1) := by decide +kernel
theorem qd_61_80 : decode qm61.2.2.1 80 = .ok (.getfield 15, 3) := by decide +kernel
theorem qd_61_83 : decode qm61.2.2.1 83 = .ok (.iload 4, 2) := by decide +kernel
theorem qd_61_85 : decode qm61.2.2.1 85 = .ok (.iconst 0, 1) := by decide +kernel
theorem qd_61_86 : decode qm61.2.2.1 86 = .ok (.invokevirtual 121, 3) := by decide +kernel
theorem qd_61_89 : decode qm61.2.2.1 89 = .ok (.invokestatic 124, 3) := by decide +kernel
theorem qd_61_92 : decode qm61.2.2.1 92 = .ok (.ifCond .eq 7, 3) := by decide +kernel
theorem qd_61_95 : decode qm61.2.2.1 95 = .ok (.iconst 2, 1) := by decide +kernel
theorem qd_61_96 : decode qm61.2.2.1 96 = .ok (.goto 4, 3) := by decide +kernel
theorem qd_61_99 : decode qm61.2.2.1 99 = .ok (.iconst 1, 1) := by decide +kernel
theorem qd_61_100 : decode qm61.2.2.1 100 = .ok (.invokevirtual 127, 3) := by decide +kernel
theorem qd_61_103 : decode qm61.2.2.1 103 = .ok (.aload_n 0, 1) := by decide +kernel
theorem qd_61_104 : decode qm61.2.2.1 104 = .ok (.getfield 9, 3) := by decide +kernel
theorem qd_61_107 : decode qm61.2.2.1 107 = .ok (.aload_n 0, 1) := by decide +kernel
theorem qd_61_108 : decode qm61.2.2.1 108 = .ok (.aload_n 0, 1) := by decide +kernel
theorem qd_61_109 : decode qm61.2.2.1 109 = .ok (.getfield 32, 3) := by decide +kernel
theorem qd_61_112 : decode qm61.2.2.1 112 = .ok (.iload 5, 2) := by decide +kernel
theorem qd_61_114 : decode qm61.2.2.1 114 = .ok (.invokevirtual 131, 3) := by decide +kernel
theorem qd_61_117 : decode qm61.2.2.1 117 = .ok (.ifCond .ne 7, 3) := by decide +kernel
theorem qd_61_120 : decode qm61.2.2.1 120 = .ok (.iconst 1, 1) := by decide +kernel
theorem qd_61_121 : decode qm61.2.2.1 121 = .ok (.goto 4, 3) := by decide +kernel
theorem qd_61_124 : decode qm61.2.2.1 124 = .ok (.iconst 0, 1) := by decide +kernel
theorem qd_61_125 : decode qm61.2.2.1 125 = .ok (.iload_n 3, 1) := by decide +kernel
theorem qd_61_126 : decode qm61.2.2.1 126 = .ok (.invokevirtual 45, 3) := by decide +kernel
theorem qd_61_129 : decode qm61.2.2.1 129 = .ok (.iload 5, 2) := by decide +kernel
theorem qd_61_131 : decode qm61.2.2.1 131 = .ok (.ireturn, 1) := by decide +kernel
theorem qd_62_0 : decode qm62.2.2.1 0 = .ok (.iload_n 0, 1) := by decide +kernel
theorem qd_62_1 : decode qm62.2.2.1 1 = .ok (.bipush 16, 2) := by decide +kernel
theorem qd_62_3 : decode qm62.2.2.1 3 = .ok (.iand, 1) := by decide +kernel
theorem qd_62_4 : decode qm62.2.2.1 4 = .ok (.ifCond .eq 14, 3) := by decide +kernel
theorem qd_62_7 : decode qm62.2.2.1 7 = .ok (.iload_n 0, 1) := by decide +kernel
theorem qd_62_8 : decode qm62.2.2.1 8 = .ok (.bipush 64, 2) := by decide +kernel
theorem qd_62_10 : decode qm62.2.2.1 10 = .ok (.iand, 1) := by decide +kernel
theorem qd_62_11 : decode qm62.2.2.1 11 = .ok (.ifCond .eq 7, 3) := by decide +kernel
theorem qd_62_14 : decode qm62.2.2.1 14 = .ok (.iconst 1, 1) := by decide +kernel
theorem qd_62_15 : decode qm62.2.2.1 15 = .ok (.goto 4, 3) := by decide +kernel
theorem qd_62_18 : decode qm62.2.2.1 18 = .ok (.iconst 0, 1) := by decide +kernel
theorem qd_62_19 : decode qm62.2.2.1 19 = .ok (.istore_n 1, 1) := by decide +kernel
theorem qd_62_20 : decode qm62.2.2.1 20 = .ok (.iload_n 0, 1) := by decide +kernel
theorem qd_62_21 : decode qm62.2.2.1 21 = .ok (.bipush 7, 2) := by decide +kernel
theorem qd_62_23 : decode qm62.2.2.1 23 = .ok (.iand, 1) := by decide +kernel
theorem qd_62_24 : decode qm62.2.2.1 24 = .ok (.invokestatic 159, 3) := by decide +kernel
theorem qd_62_27 : decode qm62.2.2.1 27 = .ok (.iconst 1, 1) := by decide +kernel
theorem qd_62_28 : decode qm62.2.2.1 28 = .ok (.if_icmp .gt 11, 3) := by decide +kernel
theorem qd_62_31 : decode qm62.2.2.1 31 = .ok (.iload_n 1, 1) := by decide +kernel
theorem qd_62_32 : decode qm62.2.2.1 32 = .ok (.ifCond .ne 7, 3) := by decide +kernel
theorem qd_62_35 : decode qm62.2.2.1 35 = .ok (.iconst 1, 1) := by decide +kernel
theorem qd_62_36 : decode qm62.2.2.1 36 = .ok (.goto 4, 3) := by decide +kernel
theorem qd_62_39 : decode qm62.2.2.1 39 = .ok (.iconst 0, 1) := by decide +kernel
theorem qd_62_40 : decode qm62.2.2.1 40 = .ok (.ireturn, 1) := by decide +kernel
theorem qd_63_0 : decode qm63.2.2.1 0 = .ok (.aload_n 0, 1) := by decide +kernel
theorem qd_63_1 : decode qm63.2.2.1 1 = .ok (.getfield 9, 3) := by decide +kernel
theorem qd_63_4 : decode qm63.2.2.1 4 = .ok (.iconst 2, 1) := by decide +kernel
theorem qd_63_5 : decode qm63.2.2.1 5 = .ok (.invokevirtual 35, 3) := by decide +kernel
theorem qd_63_8 : decode qm63.2.2.1 8 = .ok (.istore_n 2, 1) := by decide +kernel
theorem qd_63_9 : decode qm63.2.2.1 9 = .ok (.aload_n 0, 1) := by decide +kernel
theorem qd_63_10 : decode qm63.2.2.1 10 = .ok (.getfield 9, 3) := by decide +kernel
theorem qd_63_13 : decode qm63.2.2.1 13 = .ok (.aload_n 0, 1) := by decide +kernel
theorem qd_63_14 : decode qm63.2.2.1 14 = .ok (.iload_n 2, 1) := by decide +kernel
theorem qd_63_15 : decode qm63.2.2.1 15 = .ok (.iload_n 1, 1) := by decide +kernel
theorem qd_63_16 : decode qm63.2.2.1 16 = .ok (.invokevirtual 97, 3) := by decide +kernel
theorem qd_63_19 : decode qm63.2.2.1 19 = .ok (.aload_n 0, 1) := by decide +kernel
theorem qd_63_20 : decode qm63.2.2.1 20 = .ok (.getfield 9, 3) := by decide +kernel
theorem qd_63_23 : decode qm63.2.2.1 23 = .ok (.invokevirtual 41, 3) := by decide +kernel
theorem qd_63_26 : decode qm63.2.2.1 26 = .ok (.iconst 2, 1) := by decide +kernel
theorem qd_63_27 : decode qm63.2.2.1 27 = .ok (.isub, 1) := by decide +kernel
theorem qd_63_28 : decode qm63.2.2.1 28 = .ok (.invokevirtual 45, 3) := by decide +kernel
theorem qd_63_31 : decode qm63.2.2.1 31 = .ok (.iload_n 2, 1) := by decide +kernel
theorem qd_63_32 : decode qm63.2.2.1 32 = .ok (.ireturn, 1) := by decide +kernel
theorem qd_64_0 : decode qm64.2.2.1 0 = .ok (.aload_n 0, 1) := by decide +kernel
theorem qd_64_1 : decode qm64.2.2.1 1 = .ok (.iload_n 1, 1) := by decide +kernel
theorem qd_64_2 : decode qm64.2.2.1 2 = .ok (.invokevirtual 88, 3) := by decide +kernel
theorem qd_64_5 : decode qm64.2.2.1 5 = .ok (.istore 4, 2) := by decide +kernel
theorem qd_64_7 : decode qm64.2.2.1 7 = .ok (.aload_n 0, 1) := by decide +kernel
theorem qd_64_8 : decode qm64.2.2.1 8 = .ok (.iload 4, 2) := by decide +kernel
theorem qd_64_10 : decode qm64.2.2.1 10 = .ok (.iconst 1, 1) := by decide +kernel
theorem qd_64_11 : decode qm64.2.2.1 11 = .ok (.iload_n 2, 1) := by decide +kernel
theorem qd_64_12 : decode qm64.2.2.1 12 = .ok (.invokevirtual 127, 3) := by decide +kernel
theorem qd_64_15 : decode qm64.2.2.1 15 = .ok (.aload_n 0, 1) := by decide +kernel
theorem qd_64_16 : decode qm64.2.2.1 16 = .ok (.iload 4, 2) := by decide +kernel
theorem qd_64_18 : decode qm64.2.2.1 18 = .ok (.iconst 2, 1) := by decide +kernel
theorem qd_64_19 : decode qm64.2.2.1 19 = .ok (.iload_n 3, 1) := by decide +kernel
theorem qd_64_20 : decode qm64.2.2.1 20 = .ok (.invokevirtual 127, 3) := by decide +kernel
theorem qd_64_23 : decode qm64.2.2.1 23 = .ok (.iload 4, 2) := by decide +kernel
theorem qd_64_25 : decode qm64.2.2.1 25 = .ok (.ireturn, 1) := by decide +kernel
theorem qd_65_0 : decode qm65.2.2.1 0 = .ok (.aload_n 0, 1) := by decide +kernel
theorem qd_65_1 : decode qm65.2.2.1 1 = .ok (.iload_n 1, 1) := by decide +kernel
theorem qd_65_2 : decode qm65.2.2.1 2 = .ok (.invokevirtual 78, 3) := by decide +kernel
theorem qd_65_5 : decode qm65.2.2.1 5 = .ok (.iconst 1, 1) := by decide +kernel
theorem qd_65_6 : decode qm65.2.2.1 6 = .ok (.if_icmp .ne 17, 3) := by decide +kernel
theorem qd_65_9 : decode qm65.2.2.1 9 = .ok (.iload_n 2, 1) := by decide +kernel
theorem qd_65_10 : decode qm65.2.2.1 10 = .ok (.iconst (-1), 1) := by decide +kernel
theorem qd_65_11 : decode qm65.2.2.1 11 = .ok (.if_icmp .lt 12, 3) := by decide +kernel
theorem qd_65_14 : decode qm65.2.2.1 14 = .ok (.iload_n 2, 1) := by decide +kernel
theorem qd_65_15 : decode qm65.2.2.1 15 = .ok (.aload_n 0, 1) := by decide +kernel
theorem qd_65_16 : decode qm65.2.2.1 16 = .ok (.iload_n 1, 1) := by decide +kernel
theorem qd_65_17 : decode qm65.2.2.1 17 = .ok (.invokevirtual 101, 3) := by decide +kernel
theorem qd_65_20 : decode qm65.2.2.1 20 = .ok (.if_icmp .lt 6, 3) := by decide +kernel
theorem qd_65_23 : decode qm65.2.2.1 23 = .ok (.bipush (-2), 2) := by decide +kernel
theorem qd_65_25 : decode qm65.2.2.1 25 = .ok (.ireturn, 1) := by decide +kernel
theorem qd_65_26 : decode qm65.2.2.1 26 = .ok (.iload_n 2, 1) := by decide +kernel
theorem qd_65_27 : decode qm65.2.2.1 27 = .ok (.iconst (-1), 1) := by decide +kernel
theorem qd_65_28 : decode qm65.2.2.1 28 = .ok (.if_icmp .ne 11, 3) := by decide +kernel
theorem qd_65_31 : decode qm65.2.2.1 31 = .ok (.aload_n 0, 1) := by decide +kernel
theorem qd_65_32 : decode qm65.2.2.1 32 = .ok (.iload_n 1, 1) := by decide +kernel
theorem qd_65_33 : decode qm65.2.2.1 33 = .ok (.invokevirtual 101, 3) := by decide +kernel
theorem qd_65_36 : decode qm65.2.2.1 36 = .ok (.goto 15, 3) := by decide +kernel
theorem qd_65_39 : decode qm65.2.2.1 39 = .ok (.aload_n 0, 1) := by decide +kernel
theorem qd_65_40 : decode qm65.2.2.1 40 = .ok (.getfield 24, 3) := by decide +kernel
theorem qd_65_43 : decode qm65.2.2.1 43 = .ok (.aload_n 0, 1) := by decide +kernel
theorem qd_65_44 : decode qm65.2.2.1 44 = .ok (.iload_n 1, 1) := by decide +kernel
theorem qd_65_45 : decode qm65.2.2.1 45 = .ok (.invokevirtual 81, 3) := by decide +kernel
theorem qd_65_48 : decode qm65.2.2.1 48 = .ok (.iload_n 2, 1) := by decide +kernel
theorem qd_65_49 : decode qm65.2.2.1 49 = .ok (.iadd, 1) := by decide +kernel
theorem qd_65_50 : decode qm65.2.2.1 50 = .ok (.iaload, 1) := by decide +kernel
theorem qd_65_51 : decode qm65.2.2.1 51 = .ok (.ireturn, 1) := by decide +kernel
theorem qd_66_0 : decode qm66.2.2.1 0 = .ok (.iload_n 0, 1) := by decide +kernel
theorem qd_66_1 : decode qm66.2.2.1 1 = .ok (.bipush 74, 2) := by decide +kernel
theorem qd_66_3 : decode qm66.2.2.1 3 = .ok (.if_icmp .eq 9, 3) := by decide +kernel
theorem qd_66_6 : decode qm66.2.2.1 6 = .ok (.iload_n 0, 1) := by decide +kernel
theorem qd_66_7 : decode qm66.2.2.1 7 = .ok (.bipush 68, 2) := by decide +kernel
theorem qd_66_9 : decode qm66.2.2.1 9 = .ok (.if_icmp .ne 7, 3) := by decide +kernel
theorem qd_66_12 : decode qm66.2.2.1 12 = .ok (.iconst 1, 1) := by decide +kernel
theorem qd_66_13 : decode qm66.2.2.1 13 = .ok (.goto 4, 3) := by decide +kernel
theorem qd_66_16 : decode qm66.2.2.1 16 = .ok (.iconst 0, 1) := by decide +kernel
theorem qd_66_17 : decode qm66.2.2.1 17 = .ok (.ireturn, 1) := by decide +kernel
theorem qd_67_0 : decode qm67.2.2.1 0 = .ok (.aload_n 1, 1) := by decide +kernel
theorem qd_67_1 : decode qm67.2.2.1 1 = .ok (.iload_n 2, 1) := by decide +kernel
theorem qd_67_2 : decode qm67.2.2.1 2 = .ok (.iconst 1, 1) := by decide +kernel
theorem qd_67_3 : decode qm67.2.2.1 3 = .ok (.invokevirtual 96, 3) := by decide +kernel
theorem qd_67_6 : decode qm67.2.2.1 6 = .ok (.istore_n 3, 1) := by decide +kernel
theorem qd_67_7 : decode qm67.2.2.1 7 = .ok (.aload_n 1, 1) := by decide +kernel
theorem qd_67_8 : decode qm67.2.2.1 8 = .ok (.iload_n 2, 1) := by decide +kernel
theorem qd_67_9 : decode qm67.2.2.1 9 = .ok (.iconst 2, 1) := by decide +kernel
theorem qd_67_10 : decode qm67.2.2.1 10 = .ok (.invokevirtual 96, 3) := by decide +kernel
theorem qd_67_13 : decode qm67.2.2.1 13 = .ok (.istore 4, 2) := by decide +kernel
theorem qd_67_15 : decode qm67.2.2.1 15 = .ok (.iconst 0, 1) := by decide +kernel
theorem qd_67_16 : decode qm67.2.2.1 16 = .ok (.istore 5, 2) := by decide +kernel
theorem qd_67_18 : decode qm67.2.2.1 18 = .ok (.iload 5, 2) := by decide +kernel
theorem qd_67_20 : decode qm67.2.2.1 20 = .ok (.iload_n 2, 1) := by decide +kernel
theorem qd_67_21 : decode qm67.2.2.1 21 = .ok (.if_icmp .ge 48, 3) := by decide +kernel
theorem qd_67_24 : decode qm67.2.2.1 24 = .ok (.aload_n 0, 1) := by decide +kernel
theorem qd_67_25 : decode qm67.2.2.1 25 = .ok (.getfield 15, 3) := by decide +kernel
theorem qd_67_28 : decode qm67.2.2.1 28 = .ok (.aload_n 1, 1) := by decide +kernel
theorem qd_67_29 : decode qm67.2.2.1 29 = .ok (.iload 5, 2) := by decide +kernel
theorem qd_67_31 : decode qm67.2.2.1 31 = .ok (.iconst 1, 1) := by decide +kernel
theorem qd_67_32 : decode qm67.2.2.1 32 = .ok (.invokevirtual 96, 3) := by decide +kernel
theorem qd_67_35 : decode qm67.2.2.1 35 = .ok (.iload_n 3, 1) := by decide +kernel
theorem qd_67_36 : decode qm67.2.2.1 36 = .ok (.invokevirtual 184, 3) := by decide +kernel
theorem qd_67_39 : decode qm67.2.2.1 39 = .ok (.ifCond .eq 24, 3) := by decide +kernel
theorem qd_67_42 : decode qm67.2.2.1 42 = .ok (.aload_n 0, 1) := by decide +kernel
theorem qd_67_43 : decode qm67.2.2.1 43 = .ok (.getfield 15, 3) := by decide +kernel
theorem qd_67_46 : decode qm67.2.2.1 46 = .ok (.aload_n 1, 1) := by decide +kernel
theorem qd_67_47 : decode qm67.2.2.1 47 = .ok (.iload 5, 2) := by decide +kernel
theorem qd_67_49 : decode qm67.2.2.1 49 = .ok (.iconst 2, 1) := by decide +kernel
theorem qd_67_50 : decode qm67.2.2.1 50 = .ok (.invokevirtual 96, 3) := by decide +kernel
theorem qd_67_53 : decode qm67.2.2.1 53 = .ok (.iload 4, 2) := by decide +kernel
theorem qd_67_55 : decode qm67.2.2.1 55 = .ok (.invokevirtual 184, 3) := by decide +kernel
theorem qd_67_58 : decode qm67.2.2.1 58 = .ok (.ifCond .eq 5, 3) := by decide +kernel
theorem qd_67_61 : decode qm67.2.2.1 61 = .ok (.iconst 1, 1) := by decide +kernel
theorem qd_67_62 : decode qm67.2.2.1 62 = .ok (.ireturn, 1) := by decide +kernel
theorem qd_67_63 : decode qm67.2.2.1 63 = .ok (.iinc 5 1, 3) := by decide +kernel
theorem qd_67_66 : decode qm67.2.2.1 66 = .ok (.goto (-48), 3) := by decide +kernel
theorem qd_67_69 : decode qm67.2.2.1 69 = .ok (.iconst 0, 1) := by decide +kernel
theorem qd_67_70 : decode qm67.2.2.1 70 = .ok (.ireturn, 1) := by decide +kernel
theorem qd_68_0 : decode qm68.2.2.1 0 = .ok (.aload_n 0, 1) := by decide +kernel
theorem qd_68_1 : decode qm68.2.2.1 1 = .ok (.iload_n 1, 1) := by decide +kernel
theorem qd_68_2 : decode qm68.2.2.1 2 = .ok (.invokevirtual 81, 3) := by decide +kernel
theorem qd_68_5 : decode qm68.2.2.1 5 = .ok (.istore_n 3, 1) := by decide +kernel
theorem qd_68_6 : decode qm68.2.2.1 6 = .ok (.aload_n 0, 1) := by decide +kernel
theorem qd_68_7 : decode qm68.2.2.1 7 = .ok (.iload_n 1, 1) := by decide +kernel
theorem qd_68_8 : decode qm68.2.2.1 8 = .ok (.invokevirtual 101, 3) := by decide +kernel
theorem qd_68_11 : decode qm68.2.2.1 11 = .ok (.istore 4, 2) := by decide +kernel
theorem qd_68_13 : decode qm68.2.2.1 13 = .ok (.aload_n 0, 1) := by decide +kernel
theorem qd_68_14 : decode qm68.2.2.1 14 = .ok (.iload_n 2, 1) := by decide +kernel
theorem qd_68_15 : decode qm68.2.2.1 15 = .ok (.invokevirtual 81, 3) := by decide +kernel
theorem qd_68_18 : decode qm68.2.2.1 18 = .ok (.istore 5, 2) := by decide +kernel
theorem qd_68_20 : decode qm68.2.2.1 20 = .ok (.aload_n 0, 1) := by decide +kernel
theorem qd_68_21 : decode qm68.2.2.1 21 = .ok (.iload_n 1, 1) := by decide +kernel
theorem qd_68_22 : decode qm68.2.2.1 22 = .ok (.invokevirtual 78, 3) := by decide +kernel
theorem qd_68_25 : decode qm68.2.2.1 25 = .ok (.iconst 1, 1) := by decide +kernel
theorem qd_68_26 : decode qm68.2.2.1 26 = .ok (.if_icmp .ne 22, 3) := by decide +kernel
theorem qd_68_29 : decode qm68.2.2.1 29 = .ok (.aload_n 0, 1) := by decide +kernel
theorem qd_68_30 : decode qm68.2.2.1 30 = .ok (.iload_n 2, 1) := by decide +kernel
theorem qd_68_31 : decode qm68.2.2.1 31 = .ok (.invokevirtual 78, 3) := by decide +kernel
theorem qd_68_34 : decode qm68.2.2.1 34 = .ok (.iconst 1, 1) := by decide +kernel
theorem qd_68_35 : decode qm68.2.2.1 35 = .ok (.if_icmp .ne 13, 3) := by decide +kernel
theorem qd_68_38 : decode qm68.2.2.1 38 = .ok (.iload 4, 2) := by decide +kernel
theorem qd_68_40 : decode qm68.2.2.1 40 = .ok (.aload_n 0, 1) := by decide +kernel
theorem qd_68_41 : decode qm68.2.2.1 41 = .ok (.iload_n 2, 1) := by decide +kernel
theorem qd_68_42 : decode qm68.2.2.1 42 = .ok (.invokevirtual 101, 3) := by decide +kernel
theorem qd_68_45 : decode qm68.2.2.1 45 = .ok (.if_icmp .eq 5, 3) := by decide +kernel
theorem qd_68_48 : decode qm68.2.2.1 48 = .ok (.iconst 0, 1) := by decide +kernel
theorem qd_68_49 : decode qm68.2.2.1 49 = .ok (.ireturn, 1) := by decide +kernel
theorem qd_68_50 : decode qm68.2.2.1 50 = .ok (.iconst 0, 1) := by decide +kernel
theorem qd_68_51 : decode qm68.2.2.1 51 = .ok (.istore 6, 2) := by decide +kernel
theorem qd_68_53 : decode qm68.2.2.1 53 = .ok (.iload 6, 2) := by decide +kernel
theorem qd_68_55 : decode qm68.2.2.1 55 = .ok (.iload 4, 2) := by decide +kernel
theorem qd_68_57 : decode qm68.2.2.1 57 = .ok (.if_icmp .ge 33, 3) := by decide +kernel
theorem qd_68_60 : decode qm68.2.2.1 60 = .ok (.aload_n 0, 1) := by decide +kernel
theorem qd_68_61 : decode qm68.2.2.1 61 = .ok (.getfield 24, 3) := by decide +kernel
theorem qd_68_64 : decode qm68.2.2.1 64 = .ok (.iload_n 3, 1) := by decide +kernel
theorem qd_68_65 : decode qm68.2.2.1 65 = .ok (.iload 6, 2) := by decide +kernel
theorem qd_68_67 : decode qm68.2.2.1 67 = .ok (.iadd, 1) := by decide +kernel
theorem qd_68_68 : decode qm68.2.2.1 68 = .ok (.iaload, 1) := by decide +kernel
theorem qd_68_69 : decode qm68.2.2.1 69 = .ok (.aload_n 0, 1) := by decide +kernel
theorem qd_68_70 : decode qm68.2.2.1 70 = .ok (.getfield 24, 3) := by decide +kernel
theorem qd_68_73 : decode qm68.2.2.1 73 = .ok (.iload 5, 2) := by decide +kernel
theorem qd_68_75 : decode qm68.2.2.1 75 = .ok (.iload 6, 2) := by decide +kernel
theorem qd_68_77 : decode qm68.2.2.1 77 = .ok (.iadd, 1) := by decide +kernel
theorem qd_68_78 : decode qm68.2.2.1 78 = .ok (.iaload, 1) := by decide +kernel
theorem qd_68_79 : decode qm68.2.2.1 79 = .ok (.if_icmp .eq 5, 3) := by decide +kernel
theorem qd_68_82 : decode qm68.2.2.1 82 = .ok (.iconst 0, 1) := by decide +kernel
theorem qd_68_83 : decode qm68.2.2.1 83 = .ok (.ireturn, 1) := by decide +kernel
theorem qd_68_84 : decode qm68.2.2.1 84 = .ok (.iinc 6 1, 3) := by decide +kernel
theorem qd_68_87 : decode qm68.2.2.1 87 = .ok (.goto (-34), 3) := by decide +kernel
theorem qd_68_90 : decode qm68.2.2.1 90 = .ok (.iconst 1, 1) := by decide +kernel
theorem qd_68_91 : decode qm68.2.2.1 91 = .ok (.ireturn, 1) := by decide +kernel
theorem qd_69_0 : decode qm69.2.2.1 0 = .ok (.aload_n 0, 1) := by decide +kernel
theorem qd_69_1 : decode qm69.2.2.1 1 = .ok (.bipush (-2), 2) := by decide +kernel
theorem qd_69_3 : decode qm69.2.2.1 3 = .ok (.putfield 56, 3) := by decide +kernel
theorem qd_69_6 : decode qm69.2.2.1 6 = .ok (.aload_n 0, 1) := by decide +kernel
theorem qd_69_7 : decode qm69.2.2.1 7 = .ok (.bipush (-2), 2) := by decide +kernel
theorem qd_69_9 : decode qm69.2.2.1 9 = .ok (.putfield 59, 3) := by decide +kernel
theorem qd_69_12 : decode qm69.2.2.1 12 = .ok (.aload_n 0, 1) := by decide +kernel
theorem qd_69_13 : decode qm69.2.2.1 13 = .ok (.iconst 0, 1) := by decide +kernel
theorem qd_69_14 : decode qm69.2.2.1 14 = .ok (.putfield 62, 3) := by decide +kernel
theorem qd_69_17 : decode qm69.2.2.1 17 = .ok (.aload_n 0, 1) := by decide +kernel
theorem qd_69_18 : decode qm69.2.2.1 18 = .ok (.getfield 9, 3) := by decide +kernel
theorem qd_69_21 : decode qm69.2.2.1 21 = .ok (.iconst 2, 1) := by decide +kernel
theorem qd_69_22 : decode qm69.2.2.1 22 = .ok (.invokevirtual 65, 3) := by decide +kernel
theorem qd_69_25 : decode qm69.2.2.1 25 = .ok (.istore_n 3, 1) := by decide +kernel
theorem qd_69_26 : decode qm69.2.2.1 26 = .ok (.iconst 0, 1) := by decide +kernel
theorem qd_69_27 : decode qm69.2.2.1 27 = .ok (.istore 4, 2) := by decide +kernel
theorem qd_69_29 : decode qm69.2.2.1 29 = .ok (.iconst 0, 1) := by decide +kernel
theorem qd_69_30 : decode qm69.2.2.1 30 = .ok (.istore 5, 2) := by decide +kernel
theorem qd_69_32 : decode qm69.2.2.1 32 = .ok (.iload 5, 2) := by decide +kernel
theorem qd_69_34 : decode qm69.2.2.1 34 = .ok (.iload_n 3, 1) := by decide +kernel
theorem qd_69_35 : decode qm69.2.2.1 35 = .ok (.if_icmp .ge 312, 3) := by decide +kernel
theorem qd_69_38 : decode qm69.2.2.1 38 = .ok (.aload_n 0, 1) := by decide +kernel
theorem qd_69_39 : decode qm69.2.2.1 39 = .ok (.getfield 9, 3) := by decide +kernel
theorem qd_69_42 : decode qm69.2.2.1 42 = .ok (.invokevirtual 71, 3) := by decide +kernel
theorem qd_69_45 : decode qm69.2.2.1 45 = .ok (.istore 6, 2) := by decide +kernel
theorem qd_69_47 : decode qm69.2.2.1 47 = .ok (.aload_n 0, 1) := by decide +kernel
theorem qd_69_48 : decode qm69.2.2.1 48 = .ok (.iload_n 1, 1) := by decide +kernel
theorem qd_69_49 : decode qm69.2.2.1 49 = .ok (.aload_n 0, 1) := by decide +kernel
theorem qd_69_50 : decode qm69.2.2.1 50 = .ok (.getfield 15, 3) := by decide +kernel
theorem qd_69_53 : decode qm69.2.2.1 53 = .ok (.iconst 1, 1) := by decide +kernel
theorem qd_69_54 : decode qm69.2.2.1 54 = .ok (.invokevirtual 75, 3) := by decide +kernel
theorem qd_69_57 : decode qm69.2.2.1 57 = .ok (.invokevirtual 80, 3) := by decide +kernel
theorem qd_69_60 : decode qm69.2.2.1 60 = .ok (.astore 7, 2) := by decide +kernel
theorem qd_69_62 : decode qm69.2.2.1 62 = .ok (.aload_n 0, 1) := by decide +kernel
theorem qd_69_63 : decode qm69.2.2.1 63 = .ok (.getfield 9, 3) := by decide +kernel
theorem qd_69_66 : decode qm69.2.2.1 66 = .ok (.iload 4, 2) := by decide +kernel
theorem qd_69_68 : decode qm69.2.2.1 68 = .ok (.aload 7, 2) := by decide +kernel
theorem qd_69_70 : decode qm69.2.2.1 70 = .ok (.getfield 84, 3) := by decide +kernel
theorem qd_69_73 : decode qm69.2.2.1 73 = .ok (.iand, 1) := by decide +kernel
theorem qd_69_74 : decode qm69.2.2.1 74 = .ok (.ifCond .ne 7, 3) := by decide +kernel
theorem qd_69_77 : decode qm69.2.2.1 77 = .ok (.iconst 1, 1) := by decide +kernel
theorem qd_69_78 : decode qm69.2.2.1 78 = .ok (.goto 4, 3) := by decide +kernel
theorem qd_69_81 : decode qm69.2.2.1 81 = .ok (.iconst 0, 1) := by decide +kernel
theorem qd_69_82 : decode qm69.2.2.1 82 = .ok (.iload 6, 2) := by decide +kernel
theorem qd_69_84 : decode qm69.2.2.1 84 = .ok (.invokevirtual 87, 3) := by decide +kernel
theorem qd_69_87 : decode qm69.2.2.1 87 = .ok (.iload 4, 2) := by decide +kernel
theorem qd_69_89 : decode qm69.2.2.1 89 = .ok (.aload 7, 2) := by decide +kernel
theorem qd_69_91 : decode qm69.2.2.1 91 = .ok (.getfield 91, 3) := by decide +kernel
theorem qd_69_94 : decode qm69.2.2.1 94 = .ok (.ior, 1) := by decide +kernel
theorem qd_69_95 : decode qm69.2.2.1 95 = .ok (.istore 4, 2) := by decide +kernel
theorem qd_69_97 : decode qm69.2.2.1 97 = .ok (.aload_n 0, 1) := by decide +kernel
theorem qd_69_98 : decode qm69.2.2.1 98 = .ok (.getfield 9, 3) := by decide +kernel
theorem qd_69_101 : decode qm69.2.2.1 101 = .ok (.invokevirtual 71, 3) := by decide +kernel
theorem qd_69_104 : decode qm69.2.2.1 104 = .ok (.istore 8, 2) := by decide +kernel
theorem qd_69_106 : decode qm69.2.2.1 106 = .ok (.aload_n 0, 1) := by decide +kernel
theorem qd_69_107 : decode qm69.2.2.1 107 = .ok (.getfield 9, 3) := by decide +kernel
theorem qd_69_110 : decode qm69.2.2.1 110 = .ok (.invokevirtual 94, 3) := by decide +kernel
theorem qd_69_113 : decode qm69.2.2.1 113 = .ok (.istore 9, 2) := by decide +kernel
theorem qd_69_115 : decode qm69.2.2.1 115 = .ok (.aload_n 0, 1) := by decide +kernel
theorem qd_69_116 : decode qm69.2.2.1 116 = .ok (.getfield 9, 3) := by decide +kernel
theorem qd_69_119 : decode qm69.2.2.1 119 = .ok (.invokevirtual 71, 3) := by decide +kernel
theorem qd_69_122 : decode qm69.2.2.1 122 = .ok (.iload 9, 2) := by decide +kernel
theorem qd_69_124 : decode qm69.2.2.1 124 = .ok (.iadd, 1) := by decide +kernel
theorem qd_69_125 : decode qm69.2.2.1 125 = .ok (.istore 10, 2) := by decide +kernel
theorem qd_69_127 : decode qm69.2.2.1 127 = .ok (.getstatic 97, 3) := by decide +kernel
theorem qd_69_130 : decode qm69.2.2.1 130 = .ok (.aload 7, 2) := by decide +kernel
theorem qd_69_132 : decode qm69.2.2.1 132 = .ok (.invokevirtual 103, 3) := by decide +kernel
theorem qd_69_135 : decode qm69.2.2.1 135 = .ok (.iaload, 1) := by decide +kernel
theorem qd_69_136 : decode qm69.2.2.1 136 = .ok (.tableswitch 170 1 9 #[52, 71, 78, 89, 96, 125, 141, 152, 163], 52) := by decide +kernel
theorem qd_69_188 : decode qm69.2.2.1 188 = .ok (.aload_n 0, 1) := by decide +kernel
theorem qd_69_189 : decode qm69.2.2.1 189 = .ok (.aload_n 0, 1) := by decide +kernel
theorem qd_69_190 : decode qm69.2.2.1 190 = .ok (.getfield 15, 3) := by decide +kernel
theorem qd_69_193 : decode qm69.2.2.1 193 = .ok (.aload_n 0, 1) := by decide +kernel
theorem qd_69_194 : decode qm69.2.2.1 194 = .ok (.iload_n 2, 1) := by decide +kernel
theorem qd_69_195 : decode qm69.2.2.1 195 = .ok (.invokevirtual 106, 3) := by decide +kernel
theorem qd_69_198 : decode qm69.2.2.1 198 = .ok (.invokevirtual 75, 3) := by decide +kernel
theorem qd_69_201 : decode qm69.2.2.1 201 = .ok (.putfield 56, 3) := by decide +kernel
theorem qd_69_204 : decode qm69.2.2.1 204 = .ok (.goto 111, 3) := by decide +kernel
theorem qd_69_207 : decode qm69.2.2.1 207 = .ok (.aload_n 0, 1) := by decide +kernel
theorem qd_69_208 : decode qm69.2.2.1 208 = .ok (.invokevirtual 109, 3) := by decide +kernel
theorem qd_69_211 : decode qm69.2.2.1 211 = .ok (.goto 104, 3) := by decide +kernel
theorem qd_69_214 : decode qm69.2.2.1 214 = .ok (.aload_n 0, 1) := by decide +kernel
theorem qd_69_215 : decode qm69.2.2.1 215 = .ok (.aload_n 0, 1) := by decide +kernel
theorem qd_69_216 : decode qm69.2.2.1 216 = .ok (.invokevirtual 112, 3) := by decide +kernel
theorem qd_69_219 : decode qm69.2.2.1 219 = .ok (.putfield 62, 3) := by decide +kernel
theorem qd_69_222 : decode qm69.2.2.1 222 = .ok (.goto 93, 3) := by decide +kernel
theorem qd_69_225 : decode qm69.2.2.1 225 = .ok (.aload_n 0, 1) := by decide +kernel
theorem qd_69_226 : decode qm69.2.2.1 226 = .ok (.invokevirtual 115, 3) := by decide +kernel
theorem qd_69_229 : decode qm69.2.2.1 229 = .ok (.goto 86, 3) := by decide +kernel
theorem qd_69_232 : decode qm69.2.2.1 232 = .ok (.aload_n 0, 1) := by decide +kernel
theorem qd_69_233 : decode qm69.2.2.1 233 = .ok (.aload_n 0, 1) := by decide +kernel
theorem qd_69_234 : decode qm69.2.2.1 234 = .ok (.getfield 15, 3) := by decide +kernel
theorem qd_69_237 : decode qm69.2.2.1 237 = .ok (.bipush 7, 2) := by decide +kernel
theorem qd_69_239 : decode qm69.2.2.1 239 = .ok (.invokevirtual 75, 3) := by decide +kernel
theorem qd_69_242 : decode qm69.2.2.1 242 = .ok (.putfield 41, 3) := by decide +kernel
theorem qd_69_245 : decode qm69.2.2.1 245 = .ok (.aload_n 0, 1) := by decide +kernel
theorem qd_69_246 : decode qm69.2.2.1 246 = .ok (.aload_n 0, 1) := by decide +kernel
theorem qd_69_247 : decode qm69.2.2.1 247 = .ok (.getfield 15, 3) := by decide +kernel
theorem qd_69_250 : decode qm69.2.2.1 250 = .ok (.bipush 12, 2) := by decide +kernel
theorem qd_69_252 : decode qm69.2.2.1 252 = .ok (.invokevirtual 118, 3) := by decide +kernel
theorem qd_69_255 : decode qm69.2.2.1 255 = .ok (.putfield 44, 3) := by decide +kernel
theorem qd_69_258 : decode qm69.2.2.1 258 = .ok (.goto 57, 3) := by decide +kernel
theorem qd_69_261 : decode qm69.2.2.1 261 = .ok (.aload_n 0, 1) := by decide +kernel
theorem qd_69_262 : decode qm69.2.2.1 262 = .ok (.aload_n 0, 1) := by decide +kernel
theorem qd_69_263 : decode qm69.2.2.1 263 = .ok (.getfield 15, 3) := by decide +kernel
theorem qd_69_266 : decode qm69.2.2.1 266 = .ok (.bipush 7, 2) := by decide +kernel
theorem qd_69_268 : decode qm69.2.2.1 268 = .ok (.invokevirtual 75, 3) := by decide +kernel
theorem qd_69_271 : decode qm69.2.2.1 271 = .ok (.putfield 37, 3) := by decide +kernel
theorem qd_69_274 : decode qm69.2.2.1 274 = .ok (.goto 41, 3) := by decide +kernel
theorem qd_69_277 : decode qm69.2.2.1 277 = .ok (.aload_n 0, 1) := by decide +kernel
theorem qd_69_278 : decode qm69.2.2.1 278 = .ok (.aload_n 0, 1) := by decide +kernel
theorem qd_69_279 : decode qm69.2.2.1 279 = .ok (.getfield 24, 3) := by decide +kernel
theorem qd_69_282 : decode qm69.2.2.1 282 = .ok (.invokevirtual 121, 3) := by decide +kernel
theorem qd_69_285 : decode qm69.2.2.1 285 = .ok (.goto 30, 3) := by decide +kernel
theorem qd_69_288 : decode qm69.2.2.1 288 = .ok (.aload_n 0, 1) := by decide +kernel
theorem qd_69_289 : decode qm69.2.2.1 289 = .ok (.aload_n 0, 1) := by decide +kernel
theorem qd_69_290 : decode qm69.2.2.1 290 = .ok (.getfield 28, 3) := by decide +kernel
theorem qd_69_293 : decode qm69.2.2.1 293 = .ok (.invokevirtual 121, 3) := by decide +kernel
theorem qd_69_296 : decode qm69.2.2.1 296 = .ok (.goto 19, 3) := by decide +kernel
theorem qd_69_299 : decode qm69.2.2.1 299 = .ok (.aload_n 0, 1) := by decide +kernel
theorem qd_69_300 : decode qm69.2.2.1 300 = .ok (.invokevirtual 125, 3) := by decide +kernel
theorem qd_69_303 : decode qm69.2.2.1 303 = .ok (.goto 12, 3) := by decide +kernel
theorem qd_69_306 : decode qm69.2.2.1 306 = .ok (.aload_n 0, 1) := by decide +kernel
theorem qd_69_307 : decode qm69.2.2.1 307 = .ok (.getfield 9, 3) := by decide +kernel
theorem qd_69_310 : decode qm69.2.2.1 310 = .ok (.iload 9, 2) := by decide +kernel
theorem qd_69_312 : decode qm69.2.2.1 312 = .ok (.invokevirtual 128, 3) := by decide +kernel
theorem qd_69_315 : decode qm69.2.2.1 315 = .ok (.aload_n 0, 1) := by decide +kernel
theorem qd_69_316 : decode qm69.2.2.1 316 = .ok (.getfield 9, 3) := by decide +kernel
theorem qd_69_319 : decode qm69.2.2.1 319 = .ok (.aload_n 0, 1) := by decide +kernel
theorem qd_69_320 : decode qm69.2.2.1 320 = .ok (.getfield 9, 3) := by decide +kernel
theorem qd_69_323 : decode qm69.2.2.1 323 = .ok (.invokevirtual 71, 3) := by decide +kernel
theorem qd_69_326 : decode qm69.2.2.1 326 = .ok (.iload 10, 2) := by decide +kernel
theorem qd_69_328 : decode qm69.2.2.1 328 = .ok (.if_icmp .ne 7, 3) := by decide +kernel
theorem qd_69_331 : decode qm69.2.2.1 331 = .ok (.iconst 1, 1) := by decide +kernel
theorem qd_69_332 : decode qm69.2.2.1 332 = .ok (.goto 4, 3) := by decide +kernel
theorem qd_69_335 : decode qm69.2.2.1 335 = .ok (.iconst 0, 1) := by decide +kernel
theorem qd_69_336 : decode qm69.2.2.1 336 = .ok (.iload 8, 2) := by decide +kernel
theorem qd_69_338 : decode qm69.2.2.1 338 = .ok (.invokevirtual 87, 3) := by decide +kernel
theorem qd_69_341 : decode qm69.2.2.1 341 = .ok (.iinc 5 1, 3) := by decide +kernel
theorem qd_69_344 : decode qm69.2.2.1 344 = .ok (.goto (-312), 3) := by decide +kernel
theorem qd_69_347 : decode qm69.2.2.1 347 = .ok (.iload_n 3, 1) := by decide +kernel
theorem qd_69_348 : decode qm69.2.2.1 348 = .ok (.ireturn, 1) := by decide +kernel
theorem qd_70_0 : decode qm70.2.2.1 0 = .ok (.aload_n 0, 1) := by decide +kernel
theorem qd_70_1 : decode qm70.2.2.1 1 = .ok (.getfield 9, 3) := by decide +kernel
theorem qd_70_4 : decode qm70.2.2.1 4 = .ok (.iconst 2, 1) := by decide +kernel
theorem qd_70_5 : decode qm70.2.2.1 5 = .ok (.invokevirtual 35, 3) := by decide +kernel
theorem qd_70_8 : decode qm70.2.2.1 8 = .ok (.istore_n 2, 1) := by decide +kernel
theorem qd_70_9 : decode qm70.2.2.1 9 = .ok (.aload_n 0, 1) := by decide +kernel
theorem qd_70_10 : decode qm70.2.2.1 10 = .ok (.getfield 9, 3) := by decide +kernel
theorem qd_70_13 : decode qm70.2.2.1 13 = .ok (.aload_n 0, 1) := by decide +kernel
theorem qd_70_14 : decode qm70.2.2.1 14 = .ok (.getfield 20, 3) := by decide +kernel
theorem qd_70_17 : decode qm70.2.2.1 17 = .ok (.iload_n 2, 1) := by decide +kernel
theorem qd_70_18 : decode qm70.2.2.1 18 = .ok (.iconst 0, 1) := by decide +kernel
theorem qd_70_19 : decode qm70.2.2.1 19 = .ok (.invokevirtual 93, 3) := by decide +kernel
theorem qd_70_22 : decode qm70.2.2.1 22 = .ok (.iload_n 1, 1) := by decide +kernel
theorem qd_70_23 : decode qm70.2.2.1 23 = .ok (.if_icmp .ne 7, 3) := by decide +kernel
theorem qd_70_26 : decode qm70.2.2.1 26 = .ok (.iconst 1, 1) := by decide +kernel
theorem qd_70_27 : decode qm70.2.2.1 27 = .ok (.goto 4, 3) := by decide +kernel
theorem qd_70_30 : decode qm70.2.2.1 30 = .ok (.iconst 0, 1) := by decide +kernel
theorem qd_70_31 : decode qm70.2.2.1 31 = .ok (.aload_n 0, 1) := by decide +kernel
theorem qd_70_32 : decode qm70.2.2.1 32 = .ok (.getfield 9, 3) := by decide +kernel
theorem qd_70_35 : decode qm70.2.2.1 35 = .ok (.invokevirtual 41, 3) := by decide +kernel
theorem qd_70_38 : decode qm70.2.2.1 38 = .ok (.iconst 2, 1) := by decide +kernel
theorem qd_70_39 : decode qm70.2.2.1 39 = .ok (.isub, 1) := by decide +kernel
theorem qd_70_40 : decode qm70.2.2.1 40 = .ok (.invokevirtual 45, 3) := by decide +kernel
theorem qd_70_43 : decode qm70.2.2.1 43 = .ok (.iload_n 2, 1) := by decide +kernel
theorem qd_70_44 : decode qm70.2.2.1 44 = .ok (.ireturn, 1) := by decide +kernel
theorem qd_71_0 : decode qm71.2.2.1 0 = .ok (.iconst 0, 1) := by decide +kernel
theorem qd_71_1 : decode qm71.2.2.1 1 = .ok (.istore_n 3, 1) := by decide +kernel
theorem qd_71_2 : decode qm71.2.2.1 2 = .ok (.iload_n 3, 1) := by decide +kernel
theorem qd_71_3 : decode qm71.2.2.1 3 = .ok (.getstatic 132, 3) := by decide +kernel
theorem qd_71_6 : decode qm71.2.2.1 6 = .ok (.arraylength, 1) := by decide +kernel
theorem qd_71_7 : decode qm71.2.2.1 7 = .ok (.if_icmp .ge 46, 3) := by decide +kernel
theorem qd_71_10 : decode qm71.2.2.1 10 = .ok (.getstatic 132, 3) := by decide +kernel
theorem qd_71_13 : decode qm71.2.2.1 13 = .ok (.iload_n 3, 1) := by decide +kernel
theorem qd_71_14 : decode qm71.2.2.1 14 = .ok (.aaload, 1) := by decide +kernel
theorem qd_71_15 : decode qm71.2.2.1 15 = .ok (.getfield 136, 3) := by decide +kernel
theorem qd_71_18 : decode qm71.2.2.1 18 = .ok (.iload_n 1, 1) := by decide +kernel
theorem qd_71_19 : decode qm71.2.2.1 19 = .ok (.if_icmp .ne 28, 3) := by decide +kernel
theorem qd_71_22 : decode qm71.2.2.1 22 = .ok (.aload_n 0, 1) := by decide +kernel
theorem qd_71_23 : decode qm71.2.2.1 23 = .ok (.getfield 15, 3) := by decide +kernel
theorem qd_71_26 : decode qm71.2.2.1 26 = .ok (.iload_n 2, 1) := by decide +kernel
theorem qd_71_27 : decode qm71.2.2.1 27 = .ok (.getstatic 132, 3) := by decide +kernel
theorem qd_71_30 : decode qm71.2.2.1 30 = .ok (.iload_n 3, 1) := by decide +kernel
theorem qd_71_31 : decode qm71.2.2.1 31 = .ok (.aaload, 1) := by decide +kernel
theorem qd_71_32 : decode qm71.2.2.1 32 = .ok (.getfield 139, 3) := by decide +kernel
theorem qd_71_35 : decode qm71.2.2.1 35 = .ok (.invokevirtual 143, 3) := by decide +kernel
theorem qd_71_38 : decode qm71.2.2.1 38 = .ok (.ifCond .eq 9, 3) := by decide +kernel
theorem qd_71_41 : decode qm71.2.2.1 41 = .ok (.getstatic 132, 3) := by decide +kernel
theorem qd_71_44 : decode qm71.2.2.1 44 = .ok (.iload_n 3, 1) := by decide +kernel
theorem qd_71_45 : decode qm71.2.2.1 45 = .ok (.aaload, 1) := by decide +kernel
theorem qd_71_46 : decode qm71.2.2.1 46 = .ok (.areturn, 1) := by decide +kernel
theorem qd_71_47 : decode qm71.2.2.1 47 = .ok (.iinc 3 1, 3) := by decide +kernel
theorem qd_71_50 : decode qm71.2.2.1 50 = .ok (.goto (-48), 3) := by decide +kernel
theorem qd_71_53 : decode qm71.2.2.1 53 = .ok (.getstatic 147, 3) := by decide +kernel
theorem qd_71_56 : decode qm71.2.2.1 56 = .ok (.areturn, 1) := by decide +kernel
theorem qd_72_0 : decode qm72.2.2.1 0 = .ok (.aload_n 0, 1) := by decide +kernel
theorem qd_72_1 : decode qm72.2.2.1 1 = .ok (.iload_n 1, 1) := by decide +kernel
theorem qd_72_2 : decode qm72.2.2.1 2 = .ok (.invokevirtual 78, 3) := by decide +kernel
theorem qd_72_5 : decode qm72.2.2.1 5 = .ok (.iconst 1, 1) := by decide +kernel
theorem qd_72_6 : decode qm72.2.2.1 6 = .ok (.if_icmp .ne 28, 3) := by decide +kernel
theorem qd_72_9 : decode qm72.2.2.1 9 = .ok (.aload_n 0, 1) := by decide +kernel
theorem qd_72_10 : decode qm72.2.2.1 10 = .ok (.getfield 24, 3) := by decide +kernel
theorem qd_72_13 : decode qm72.2.2.1 13 = .ok (.aload_n 0, 1) := by decide +kernel
theorem qd_72_14 : decode qm72.2.2.1 14 = .ok (.iload_n 1, 1) := by decide +kernel
theorem qd_72_15 : decode qm72.2.2.1 15 = .ok (.invokevirtual 81, 3) := by decide +kernel
theorem qd_72_18 : decode qm72.2.2.1 18 = .ok (.aload_n 0, 1) := by decide +kernel
theorem qd_72_19 : decode qm72.2.2.1 19 = .ok (.iload_n 1, 1) := by decide +kernel
theorem qd_72_20 : decode qm72.2.2.1 20 = .ok (.invokevirtual 84, 3) := by decide +kernel
theorem qd_72_23 : decode qm72.2.2.1 23 = .ok (.aload_n 2, 1) := by decide +kernel
theorem qd_72_24 : decode qm72.2.2.1 24 = .ok (.invokestatic 113, 3) := by decide +kernel
theorem qd_72_27 : decode qm72.2.2.1 27 = .ok (.ifCond .eq 7, 3) := by decide +kernel
theorem qd_72_30 : decode qm72.2.2.1 30 = .ok (.iconst 1, 1) := by decide +kernel
theorem qd_72_31 : decode qm72.2.2.1 31 = .ok (.goto 4, 3) := by decide +kernel
theorem qd_72_34 : decode qm72.2.2.1 34 = .ok (.iconst 0, 1) := by decide +kernel
theorem qd_72_35 : decode qm72.2.2.1 35 = .ok (.ireturn, 1) := by decide +kernel
theorem qd_73_0 : decode qm73.2.2.1 0 = .ok (.aload_n 0, 1) := by decide +kernel
theorem qd_73_1 : decode qm73.2.2.1 1 = .ok (.iconst 4, 1) := by decide +kernel
theorem qd_73_2 : decode qm73.2.2.1 2 = .ok (.invokevirtual 35, 3) := by decide +kernel
theorem qd_73_5 : decode qm73.2.2.1 5 = .ok (.istore_n 1, 1) := by decide +kernel
theorem qd_73_6 : decode qm73.2.2.1 6 = .ok (.aload_n 0, 1) := by decide +kernel
theorem qd_73_7 : decode qm73.2.2.1 7 = .ok (.iload_n 1, 1) := by decide +kernel
theorem qd_73_8 : decode qm73.2.2.1 8 = .ok (.invokevirtual 39, 3) := by decide +kernel
theorem qd_73_11 : decode qm73.2.2.1 11 = .ok (.iload_n 1, 1) := by decide +kernel
theorem qd_73_12 : decode qm73.2.2.1 12 = .ok (.ireturn, 1) := by decide +kernel
theorem qd_74_0 : decode qm74.2.2.1 0 = .ok (.aload_n 0, 1) := by decide +kernel
theorem qd_74_1 : decode qm74.2.2.1 1 = .ok (.getfield 15, 3) := by decide +kernel
theorem qd_74_4 : decode qm74.2.2.1 4 = .ok (.iload_n 1, 1) := by decide +kernel
theorem qd_74_5 : decode qm74.2.2.1 5 = .ok (.ldc 151, 2) := by decide +kernel
theorem qd_74_7 : decode qm74.2.2.1 7 = .ok (.invokevirtual 143, 3) := by decide +kernel
theorem qd_74_10 : decode qm74.2.2.1 10 = .ok (.ifCond .eq 6, 3) := by decide +kernel
theorem qd_74_13 : decode qm74.2.2.1 13 = .ok (.bipush 8, 2) := by decide +kernel
theorem qd_74_15 : decode qm74.2.2.1 15 = .ok (.ireturn, 1) := by decide +kernel
theorem qd_74_16 : decode qm74.2.2.1 16 = .ok (.aload_n 0, 1) := by decide +kernel
theorem qd_74_17 : decode qm74.2.2.1 17 = .ok (.getfield 15, 3) := by decide +kernel
theorem qd_74_20 : decode qm74.2.2.1 20 = .ok (.iload_n 1, 1) := by decide +kernel
theorem qd_74_21 : decode qm74.2.2.1 21 = .ok (.invokevirtual 152, 3) := by decide +kernel
theorem qd_74_24 : decode qm74.2.2.1 24 = .ok (.iconst 1, 1) := by decide +kernel
theorem qd_74_25 : decode qm74.2.2.1 25 = .ok (.if_icmp .eq 5, 3) := by decide +kernel
theorem qd_74_28 : decode qm74.2.2.1 28 = .ok (.iconst (-1), 1) := by decide +kernel
theorem qd_74_29 : decode qm74.2.2.1 29 = .ok (.ireturn, 1) := by decide +kernel
theorem qd_74_30 : decode qm74.2.2.1 30 = .ok (.aload_n 0, 1) := by decide +kernel
theorem qd_74_31 : decode qm74.2.2.1 31 = .ok (.getfield 15, 3) := by decide +kernel
theorem qd_74_34 : decode qm74.2.2.1 34 = .ok (.iload_n 1, 1) := by decide +kernel
theorem qd_74_35 : decode qm74.2.2.1 35 = .ok (.iconst 0, 1) := by decide +kernel
theorem qd_74_36 : decode qm74.2.2.1 36 = .ok (.invokevirtual 155, 3) := by decide +kernel
theorem qd_74_39 : decode qm74.2.2.1 39 = .ok (.lookupswitch 40 #[(68, 37), (70, 35), (74, 33)], 33) := by decide +kernel
theorem qd_74_72 : decode qm74.2.2.1 72 = .ok (.iconst 5, 1) := by decide +kernel
theorem qd_74_73 : decode qm74.2.2.1 73 = .ok (.ireturn, 1) := by decide +kernel
theorem qd_74_74 : decode qm74.2.2.1 74 = .ok (.iconst 4, 1) := by decide +kernel
theorem qd_74_75 : decode qm74.2.2.1 75 = .ok (.ireturn, 1) := by decide +kernel
theorem qd_74_76 : decode qm74.2.2.1 76 = .ok (.bipush 6, 2) := by decide +kernel
theorem qd_74_78 : decode qm74.2.2.1 78 = .ok (.ireturn, 1) := by decide +kernel
theorem qd_74_79 : decode qm74.2.2.1 79 = .ok (.iconst 3, 1) := by decide +kernel
theorem qd_74_80 : decode qm74.2.2.1 80 = .ok (.ireturn, 1) := by decide +kernel
theorem qd_75_0 : decode qm75.2.2.1 0 = .ok (.aload_n 0, 1) := by decide +kernel
theorem qd_75_1 : decode qm75.2.2.1 1 = .ok (.getfield 9, 3) := by decide +kernel
theorem qd_75_4 : decode qm75.2.2.1 4 = .ok (.iconst 4, 1) := by decide +kernel
theorem qd_75_5 : decode qm75.2.2.1 5 = .ok (.invokevirtual 128, 3) := by decide +kernel
theorem qd_75_8 : decode qm75.2.2.1 8 = .ok (.aload_n 0, 1) := by decide +kernel
theorem qd_75_9 : decode qm75.2.2.1 9 = .ok (.getfield 9, 3) := by decide +kernel
theorem qd_75_12 : decode qm75.2.2.1 12 = .ok (.iconst 4, 1) := by decide +kernel
theorem qd_75_13 : decode qm75.2.2.1 13 = .ok (.invokevirtual 65, 3) := by decide +kernel
theorem qd_75_16 : decode qm75.2.2.1 16 = .ok (.istore_n 1, 1) := by decide +kernel
theorem qd_75_17 : decode qm75.2.2.1 17 = .ok (.aload_n 0, 1) := by decide +kernel
theorem qd_75_18 : decode qm75.2.2.1 18 = .ok (.getfield 9, 3) := by decide +kernel
theorem qd_75_21 : decode qm75.2.2.1 21 = .ok (.iload_n 1, 1) := by decide +kernel
theorem qd_75_22 : decode qm75.2.2.1 22 = .ok (.iconst 1, 1) := by decide +kernel
theorem qd_75_23 : decode qm75.2.2.1 23 = .ok (.if_icmp .lt 13, 3) := by decide +kernel
theorem qd_75_26 : decode qm75.2.2.1 26 = .ok (.iload_n 1, 1) := by decide +kernel
theorem qd_75_27 : decode qm75.2.2.1 27 = .ok (.ldc 158, 2) := by decide +kernel
theorem qd_75_29 : decode qm75.2.2.1 29 = .ok (.if_icmp .gt 7, 3) := by decide +kernel
theorem qd_75_32 : decode qm75.2.2.1 32 = .ok (.iconst 1, 1) := by decide +kernel
theorem qd_75_33 : decode qm75.2.2.1 33 = .ok (.goto 4, 3) := by decide +kernel
theorem qd_75_36 : decode qm75.2.2.1 36 = .ok (.iconst 0, 1) := by decide +kernel
theorem qd_75_37 : decode qm75.2.2.1 37 = .ok (.aload_n 0, 1) := by decide +kernel
theorem qd_75_38 : decode qm75.2.2.1 38 = .ok (.getfield 9, 3) := by decide +kernel
theorem qd_75_41 : decode qm75.2.2.1 41 = .ok (.invokevirtual 71, 3) := by decide +kernel
theorem qd_75_44 : decode qm75.2.2.1 44 = .ok (.iconst 4, 1) := by decide +kernel
theorem qd_75_45 : decode qm75.2.2.1 45 = .ok (.isub, 1) := by decide +kernel
theorem qd_75_46 : decode qm75.2.2.1 46 = .ok (.invokevirtual 87, 3) := by decide +kernel
theorem qd_75_49 : decode qm75.2.2.1 49 = .ok (.aload_n 0, 1) := by decide +kernel
theorem qd_75_50 : decode qm75.2.2.1 50 = .ok (.getfield 9, 3) := by decide +kernel
theorem qd_75_53 : decode qm75.2.2.1 53 = .ok (.iload_n 1, 1) := by decide +kernel
theorem qd_75_54 : decode qm75.2.2.1 54 = .ok (.invokevirtual 128, 3) := by decide +kernel
theorem qd_75_57 : decode qm75.2.2.1 57 = .ok (.aload_n 0, 1) := by decide +kernel
theorem qd_75_58 : decode qm75.2.2.1 58 = .ok (.getfield 9, 3) := by decide +kernel
theorem qd_75_61 : decode qm75.2.2.1 61 = .ok (.iconst 2, 1) := by decide +kernel
theorem qd_75_62 : decode qm75.2.2.1 62 = .ok (.invokevirtual 65, 3) := by decide +kernel
theorem qd_75_65 : decode qm75.2.2.1 65 = .ok (.istore_n 2, 1) := by decide +kernel
theorem qd_75_66 : decode qm75.2.2.1 66 = .ok (.iconst 0, 1) := by decide +kernel
theorem qd_75_67 : decode qm75.2.2.1 67 = .ok (.istore_n 3, 1) := by decide +kernel
theorem qd_75_68 : decode qm75.2.2.1 68 = .ok (.iload_n 3, 1) := by decide +kernel
theorem qd_75_69 : decode qm75.2.2.1 69 = .ok (.iload_n 2, 1) := by decide +kernel
theorem qd_75_70 : decode qm75.2.2.1 70 = .ok (.if_icmp .ge 14, 3) := by decide +kernel
theorem qd_75_73 : decode qm75.2.2.1 73 = .ok (.aload_n 0, 1) := by decide +kernel
theorem qd_75_74 : decode qm75.2.2.1 74 = .ok (.iload_n 1, 1) := by decide +kernel
theorem qd_75_75 : decode qm75.2.2.1 75 = .ok (.invokevirtual 159, 3) := by decide +kernel
theorem qd_75_78 : decode qm75.2.2.1 78 = .ok (.iinc 3 1, 3) := by decide +kernel
theorem qd_75_81 : decode qm75.2.2.1 81 = .ok (.goto (-13), 3) := by decide +kernel
theorem qd_75_84 : decode qm75.2.2.1 84 = .ok (.aload_n 0, 1) := by decide +kernel
theorem qd_75_85 : decode qm75.2.2.1 85 = .ok (.invokevirtual 162, 3) := by decide +kernel
theorem qd_75_88 : decode qm75.2.2.1 88 = .ok (.aload_n 0, 1) := by decide +kernel
theorem qd_75_89 : decode qm75.2.2.1 89 = .ok (.iload_n 1, 1) := by decide +kernel
theorem qd_75_90 : decode qm75.2.2.1 90 = .ok (.putfield 56, 3) := by decide +kernel
theorem qd_75_93 : decode qm75.2.2.1 93 = .ok (.aload_n 0, 1) := by decide +kernel
theorem qd_75_94 : decode qm75.2.2.1 94 = .ok (.iload_n 2, 1) := by decide +kernel
theorem qd_75_95 : decode qm75.2.2.1 95 = .ok (.putfield 59, 3) := by decide +kernel
theorem qd_75_98 : decode qm75.2.2.1 98 = .ok (.return_, 1) := by decide +kernel
theorem qd_76_0 : decode qm76.2.2.1 0 = .ok (.aload_n 0, 1) := by decide +kernel
theorem qd_76_1 : decode qm76.2.2.1 1 = .ok (.iload_n 1, 1) := by decide +kernel
theorem qd_76_2 : decode qm76.2.2.1 2 = .ok (.invokevirtual 39, 3) := by decide +kernel
theorem qd_76_5 : decode qm76.2.2.1 5 = .ok (.aload_n 0, 1) := by decide +kernel
theorem qd_76_6 : decode qm76.2.2.1 6 = .ok (.dup, 1) := by decide +kernel
theorem qd_76_7 : decode qm76.2.2.1 7 = .ok (.getfield 19, 3) := by decide +kernel
theorem qd_76_10 : decode qm76.2.2.1 10 = .ok (.iload_n 1, 1) := by decide +kernel
theorem qd_76_11 : decode qm76.2.2.1 11 = .ok (.iadd, 1) := by decide +kernel
theorem qd_76_12 : decode qm76.2.2.1 12 = .ok (.putfield 19, 3) := by decide +kernel
theorem qd_76_15 : decode qm76.2.2.1 15 = .ok (.return_, 1) := by decide +kernel
theorem qd_77_0 : decode qm77.2.2.1 0 = .ok (.aload_n 0, 1) := by decide +kernel
theorem qd_77_1 : decode qm77.2.2.1 1 = .ok (.getfield 9, 3) := by decide +kernel
theorem qd_77_4 : decode qm77.2.2.1 4 = .ok (.invokevirtual 71, 3) := by decide +kernel
theorem qd_77_7 : decode qm77.2.2.1 7 = .ok (.istore_n 2, 1) := by decide +kernel
theorem qd_77_8 : decode qm77.2.2.1 8 = .ok (.aload_n 0, 1) := by decide +kernel
theorem qd_77_9 : decode qm77.2.2.1 9 = .ok (.getfield 9, 3) := by decide +kernel
theorem qd_77_12 : decode qm77.2.2.1 12 = .ok (.iconst 2, 1) := by decide +kernel
theorem qd_77_13 : decode qm77.2.2.1 13 = .ok (.invokevirtual 65, 3) := by decide +kernel
theorem qd_77_16 : decode qm77.2.2.1 16 = .ok (.istore_n 3, 1) := by decide +kernel
theorem qd_77_17 : decode qm77.2.2.1 17 = .ok (.aload_n 0, 1) := by decide +kernel
theorem qd_77_18 : decode qm77.2.2.1 18 = .ok (.getfield 9, 3) := by decide +kernel
theorem qd_77_21 : decode qm77.2.2.1 21 = .ok (.iconst 2, 1) := by decide +kernel
theorem qd_77_22 : decode qm77.2.2.1 22 = .ok (.invokevirtual 65, 3) := by decide +kernel
theorem qd_77_25 : decode qm77.2.2.1 25 = .ok (.istore 4, 2) := by decide +kernel
theorem qd_77_27 : decode qm77.2.2.1 27 = .ok (.aload_n 0, 1) := by decide +kernel
theorem qd_77_28 : decode qm77.2.2.1 28 = .ok (.getfield 9, 3) := by decide +kernel
theorem qd_77_31 : decode qm77.2.2.1 31 = .ok (.iconst 2, 1) := by decide +kernel
theorem qd_77_32 : decode qm77.2.2.1 32 = .ok (.invokevirtual 65, 3) := by decide +kernel
theorem qd_77_35 : decode qm77.2.2.1 35 = .ok (.istore 5, 2) := by decide +kernel
theorem qd_77_37 : decode qm77.2.2.1 37 = .ok (.aload_n 0, 1) := by decide +kernel
theorem qd_77_38 : decode qm77.2.2.1 38 = .ok (.getfield 9, 3) := by decide +kernel
theorem qd_77_41 : decode qm77.2.2.1 41 = .ok (.iload_n 3, 1) := by decide +kernel
theorem qd_77_42 : decode qm77.2.2.1 42 = .ok (.iload 4, 2) := by decide +kernel
theorem qd_77_44 : decode qm77.2.2.1 44 = .ok (.if_icmp .ge 7, 3) := by decide +kernel
theorem qd_77_47 : decode qm77.2.2.1 47 = .ok (.iconst 1, 1) := by decide +kernel
theorem qd_77_48 : decode qm77.2.2.1 48 = .ok (.goto 4, 3) := by decide +kernel
theorem qd_77_51 : decode qm77.2.2.1 51 = .ok (.iconst 0, 1) := by decide +kernel
theorem qd_77_52 : decode qm77.2.2.1 52 = .ok (.iload_n 2, 1) := by decide +kernel
theorem qd_77_53 : decode qm77.2.2.1 53 = .ok (.invokevirtual 87, 3) := by decide +kernel
theorem qd_77_56 : decode qm77.2.2.1 56 = .ok (.aload_n 0, 1) := by decide +kernel
theorem qd_77_57 : decode qm77.2.2.1 57 = .ok (.getfield 9, 3) := by decide +kernel
theorem qd_77_60 : decode qm77.2.2.1 60 = .ok (.iload 4, 2) := by decide +kernel
theorem qd_77_62 : decode qm77.2.2.1 62 = .ok (.iload_n 1, 1) := by decide +kernel
theorem qd_77_63 : decode qm77.2.2.1 63 = .ok (.if_icmp .gt 7, 3) := by decide +kernel
theorem qd_77_66 : decode qm77.2.2.1 66 = .ok (.iconst 1, 1) := by decide +kernel
theorem qd_77_67 : decode qm77.2.2.1 67 = .ok (.goto 4, 3) := by decide +kernel
theorem qd_77_70 : decode qm77.2.2.1 70 = .ok (.iconst 0, 1) := by decide +kernel
theorem qd_77_71 : decode qm77.2.2.1 71 = .ok (.iload_n 2, 1) := by decide +kernel
theorem qd_77_72 : decode qm77.2.2.1 72 = .ok (.iconst 2, 1) := by decide +kernel
theorem qd_77_73 : decode qm77.2.2.1 73 = .ok (.iadd, 1) := by decide +kernel
theorem qd_77_74 : decode qm77.2.2.1 74 = .ok (.invokevirtual 87, 3) := by decide +kernel
theorem qd_77_77 : decode qm77.2.2.1 77 = .ok (.aload_n 0, 1) := by decide +kernel
theorem qd_77_78 : decode qm77.2.2.1 78 = .ok (.getfield 9, 3) := by decide +kernel
theorem qd_77_81 : decode qm77.2.2.1 81 = .ok (.iload 5, 2) := by decide +kernel
theorem qd_77_83 : decode qm77.2.2.1 83 = .ok (.iload_n 1, 1) := by decide +kernel
theorem qd_77_84 : decode qm77.2.2.1 84 = .ok (.if_icmp .ge 7, 3) := by decide +kernel
theorem qd_77_87 : decode qm77.2.2.1 87 = .ok (.iconst 1, 1) := by decide +kernel
theorem qd_77_88 : decode qm77.2.2.1 88 = .ok (.goto 4, 3) := by decide +kernel
theorem qd_77_91 : decode qm77.2.2.1 91 = .ok (.iconst 0, 1) := by decide +kernel
theorem qd_77_92 : decode qm77.2.2.1 92 = .ok (.iload_n 2, 1) := by decide +kernel
theorem qd_77_93 : decode qm77.2.2.1 93 = .ok (.iconst 4, 1) := by decide +kernel
theorem qd_77_94 : decode qm77.2.2.1 94 = .ok (.iadd, 1) := by decide +kernel
theorem qd_77_95 : decode qm77.2.2.1 95 = .ok (.invokevirtual 87, 3) := by decide +kernel
theorem qd_77_98 : decode qm77.2.2.1 98 = .ok (.aload_n 0, 1) := by decide +kernel
theorem qd_77_99 : decode qm77.2.2.1 99 = .ok (.getfield 15, 3) := by decide +kernel
theorem qd_77_102 : decode qm77.2.2.1 102 = .ok (.bipush 7, 2) := by decide +kernel
theorem qd_77_104 : decode qm77.2.2.1 104 = .ok (.invokevirtual 118, 3) := by decide +kernel
theorem qd_77_107 : decode qm77.2.2.1 107 = .ok (.pop, 1) := by decide +kernel
theorem qd_77_108 : decode qm77.2.2.1 108 = .ok (.return_, 1) := by decide +kernel
theorem qd_78_0 : decode qm78.2.2.1 0 = .ok (.aload_n 0, 1) := by decide +kernel
theorem qd_78_1 : decode qm78.2.2.1 1 = .ok (.getfield 9, 3) := by decide +kernel
theorem qd_78_4 : decode qm78.2.2.1 4 = .ok (.iconst 2, 1) := by decide +kernel
theorem qd_78_5 : decode qm78.2.2.1 5 = .ok (.invokevirtual 35, 3) := by decide +kernel
theorem qd_78_8 : decode qm78.2.2.1 8 = .ok (.istore_n 2, 1) := by decide +kernel
theorem qd_78_9 : decode qm78.2.2.1 9 = .ok (.aload_n 0, 1) := by decide +kernel
theorem qd_78_10 : decode qm78.2.2.1 10 = .ok (.getfield 9, 3) := by decide +kernel
theorem qd_78_13 : decode qm78.2.2.1 13 = .ok (.iload_n 2, 1) := by decide +kernel
theorem qd_78_14 : decode qm78.2.2.1 14 = .ok (.ifCond .eq 16, 3) := by decide +kernel
theorem qd_78_17 : decode qm78.2.2.1 17 = .ok (.aload_n 0, 1) := by decide +kernel
theorem qd_78_18 : decode qm78.2.2.1 18 = .ok (.getfield 20, 3) := by decide +kernel
theorem qd_78_21 : decode qm78.2.2.1 21 = .ok (.iload_n 2, 1) := by decide +kernel
theorem qd_78_22 : decode qm78.2.2.1 22 = .ok (.iconst 0, 1) := by decide +kernel
theorem qd_78_23 : decode qm78.2.2.1 23 = .ok (.invokevirtual 93, 3) := by decide +kernel
theorem qd_78_26 : decode qm78.2.2.1 26 = .ok (.iload_n 1, 1) := by decide +kernel
theorem qd_78_27 : decode qm78.2.2.1 27 = .ok (.if_icmp .ne 7, 3) := by decide +kernel
theorem qd_78_30 : decode qm78.2.2.1 30 = .ok (.iconst 1, 1) := by decide +kernel
theorem qd_78_31 : decode qm78.2.2.1 31 = .ok (.goto 4, 3) := by decide +kernel
theorem qd_78_34 : decode qm78.2.2.1 34 = .ok (.iconst 0, 1) := by decide +kernel
theorem qd_78_35 : decode qm78.2.2.1 35 = .ok (.aload_n 0, 1) := by decide +kernel
theorem qd_78_36 : decode qm78.2.2.1 36 = .ok (.getfield 9, 3) := by decide +kernel
theorem qd_78_39 : decode qm78.2.2.1 39 = .ok (.invokevirtual 41, 3) := by decide +kernel
theorem qd_78_42 : decode qm78.2.2.1 42 = .ok (.iconst 2, 1) := by decide +kernel
theorem qd_78_43 : decode qm78.2.2.1 43 = .ok (.isub, 1) := by decide +kernel
theorem qd_78_44 : decode qm78.2.2.1 44 = .ok (.invokevirtual 45, 3) := by decide +kernel
theorem qd_78_47 : decode qm78.2.2.1 47 = .ok (.iload_n 2, 1) := by decide +kernel
theorem qd_78_48 : decode qm78.2.2.1 48 = .ok (.ireturn, 1) := by decide +kernel
theorem qd_79_0 : decode qm79.2.2.1 0 = .ok (.aload_n 0, 1) := by decide +kernel
theorem qd_79_1 : decode qm79.2.2.1 1 = .ok (.getfield 9, 3) := by decide +kernel
theorem qd_79_4 : decode qm79.2.2.1 4 = .ok (.iconst 2, 1) := by decide +kernel
theorem qd_79_5 : decode qm79.2.2.1 5 = .ok (.invokevirtual 65, 3) := by decide +kernel
theorem qd_79_8 : decode qm79.2.2.1 8 = .ok (.istore_n 1, 1) := by decide +kernel
theorem qd_79_9 : decode qm79.2.2.1 9 = .ok (.iconst 0, 1) := by decide +kernel
theorem qd_79_10 : decode qm79.2.2.1 10 = .ok (.istore_n 2, 1) := by decide +kernel
theorem qd_79_11 : decode qm79.2.2.1 11 = .ok (.iload_n 2, 1) := by decide +kernel
theorem qd_79_12 : decode qm79.2.2.1 12 = .ok (.iload_n 1, 1) := by decide +kernel
theorem qd_79_13 : decode qm79.2.2.1 13 = .ok (.if_icmp .ge 32, 3) := by decide +kernel
theorem qd_79_16 : decode qm79.2.2.1 16 = .ok (.aload_n 0, 1) := by decide +kernel
theorem qd_79_17 : decode qm79.2.2.1 17 = .ok (.getfield 15, 3) := by decide +kernel
theorem qd_79_20 : decode qm79.2.2.1 20 = .ok (.iconst 1, 1) := by decide +kernel
theorem qd_79_21 : decode qm79.2.2.1 21 = .ok (.invokevirtual 75, 3) := by decide +kernel
theorem qd_79_24 : decode qm79.2.2.1 24 = .ok (.pop, 1) := by decide +kernel
theorem qd_79_25 : decode qm79.2.2.1 25 = .ok (.aload_n 0, 1) := by decide +kernel
theorem qd_79_26 : decode qm79.2.2.1 26 = .ok (.getfield 9, 3) := by decide +kernel
theorem qd_79_29 : decode qm79.2.2.1 29 = .ok (.aload_n 0, 1) := by decide +kernel
theorem qd_79_30 : decode qm79.2.2.1 30 = .ok (.getfield 9, 3) := by decide +kernel
theorem qd_79_33 : decode qm79.2.2.1 33 = .ok (.invokevirtual 94, 3) := by decide +kernel
theorem qd_79_36 : decode qm79.2.2.1 36 = .ok (.invokevirtual 128, 3) := by decide +kernel
theorem qd_79_39 : decode qm79.2.2.1 39 = .ok (.iinc 2 1, 3) := by decide +kernel
theorem qd_79_42 : decode qm79.2.2.1 42 = .ok (.goto (-31), 3) := by decide +kernel
theorem qd_79_45 : decode qm79.2.2.1 45 = .ok (.return_, 1) := by decide +kernel
theorem qd_80_0 : decode qm80.2.2.1 0 = .ok (.aload_n 0, 1) := by decide +kernel
theorem qd_80_1 : decode qm80.2.2.1 1 = .ok (.getfield 9, 3) := by decide +kernel
theorem qd_80_4 : decode qm80.2.2.1 4 = .ok (.iconst 2, 1) := by decide +kernel
theorem qd_80_5 : decode qm80.2.2.1 5 = .ok (.invokevirtual 65, 3) := by decide +kernel
theorem qd_80_8 : decode qm80.2.2.1 8 = .ok (.istore_n 1, 1) := by decide +kernel
theorem qd_80_9 : decode qm80.2.2.1 9 = .ok (.iconst 0, 1) := by decide +kernel
theorem qd_80_10 : decode qm80.2.2.1 10 = .ok (.istore_n 2, 1) := by decide +kernel
theorem qd_80_11 : decode qm80.2.2.1 11 = .ok (.iload_n 2, 1) := by decide +kernel
theorem qd_80_12 : decode qm80.2.2.1 12 = .ok (.iload_n 1, 1) := by decide +kernel
theorem qd_80_13 : decode qm80.2.2.1 13 = .ok (.if_icmp .ge 19, 3) := by decide +kernel
theorem qd_80_16 : decode qm80.2.2.1 16 = .ok (.aload_n 0, 1) := by decide +kernel
theorem qd_80_17 : decode qm80.2.2.1 17 = .ok (.getfield 15, 3) := by decide +kernel
theorem qd_80_20 : decode qm80.2.2.1 20 = .ok (.bipush 7, 2) := by decide +kernel
theorem qd_80_22 : decode qm80.2.2.1 22 = .ok (.invokevirtual 75, 3) := by decide +kernel
theorem qd_80_25 : decode qm80.2.2.1 25 = .ok (.pop, 1) := by decide +kernel
theorem qd_80_26 : decode qm80.2.2.1 26 = .ok (.iinc 2 1, 3) := by decide +kernel
theorem qd_80_29 : decode qm80.2.2.1 29 = .ok (.goto (-18), 3) := by decide +kernel
theorem qd_80_32 : decode qm80.2.2.1 32 = .ok (.iload_n 1, 1) := by decide +kernel
theorem qd_80_33 : decode qm80.2.2.1 33 = .ok (.ireturn, 1) := by decide +kernel
theorem qd_81_0 : decode qm81.2.2.1 0 = .ok (.aload_n 0, 1) := by decide +kernel
theorem qd_81_1 : decode qm81.2.2.1 1 = .ok (.getfield 9, 3) := by decide +kernel
theorem qd_81_4 : decode qm81.2.2.1 4 = .ok (.iconst 2, 1) := by decide +kernel
theorem qd_81_5 : decode qm81.2.2.1 5 = .ok (.invokevirtual 65, 3) := by decide +kernel
theorem qd_81_8 : decode qm81.2.2.1 8 = .ok (.istore_n 1, 1) := by decide +kernel
theorem qd_81_9 : decode qm81.2.2.1 9 = .ok (.iconst 0, 1) := by decide +kernel
theorem qd_81_10 : decode qm81.2.2.1 10 = .ok (.istore_n 2, 1) := by decide +kernel
theorem qd_81_11 : decode qm81.2.2.1 11 = .ok (.iload_n 2, 1) := by decide +kernel
theorem qd_81_12 : decode qm81.2.2.1 12 = .ok (.iload_n 1, 1) := by decide +kernel
theorem qd_81_13 : decode qm81.2.2.1 13 = .ok (.if_icmp .ge 78, 3) := by decide +kernel
theorem qd_81_16 : decode qm81.2.2.1 16 = .ok (.aload_n 0, 1) := by decide +kernel
theorem qd_81_17 : decode qm81.2.2.1 17 = .ok (.getfield 31, 3) := by decide +kernel
theorem qd_81_20 : decode qm81.2.2.1 20 = .ok (.aload_n 0, 1) := by decide +kernel
theorem qd_81_21 : decode qm81.2.2.1 21 = .ok (.getfield 15, 3) := by decide +kernel
theorem qd_81_24 : decode qm81.2.2.1 24 = .ok (.bipush 7, 2) := by decide +kernel
theorem qd_81_26 : decode qm81.2.2.1 26 = .ok (.invokevirtual 75, 3) := by decide +kernel
theorem qd_81_29 : decode qm81.2.2.1 29 = .ok (.invokevirtual 165, 3) := by decide +kernel
theorem qd_81_32 : decode qm81.2.2.1 32 = .ok (.istore_n 3, 1) := by decide +kernel
theorem qd_81_33 : decode qm81.2.2.1 33 = .ok (.aload_n 0, 1) := by decide +kernel
theorem qd_81_34 : decode qm81.2.2.1 34 = .ok (.getfield 31, 3) := by decide +kernel
theorem qd_81_37 : decode qm81.2.2.1 37 = .ok (.iload_n 3, 1) := by decide +kernel
theorem qd_81_38 : decode qm81.2.2.1 38 = .ok (.iconst 1, 1) := by decide +kernel
theorem qd_81_39 : decode qm81.2.2.1 39 = .ok (.aload_n 0, 1) := by decide +kernel
theorem qd_81_40 : decode qm81.2.2.1 40 = .ok (.getfield 15, 3) := by decide +kernel
theorem qd_81_43 : decode qm81.2.2.1 43 = .ok (.bipush 7, 2) := by decide +kernel
theorem qd_81_45 : decode qm81.2.2.1 45 = .ok (.invokevirtual 118, 3) := by decide +kernel
theorem qd_81_48 : decode qm81.2.2.1 48 = .ok (.invokevirtual 168, 3) := by decide +kernel
theorem qd_81_51 : decode qm81.2.2.1 51 = .ok (.aload_n 0, 1) := by decide +kernel
theorem qd_81_52 : decode qm81.2.2.1 52 = .ok (.getfield 31, 3) := by decide +kernel
theorem qd_81_55 : decode qm81.2.2.1 55 = .ok (.iload_n 3, 1) := by decide +kernel
theorem qd_81_56 : decode qm81.2.2.1 56 = .ok (.iconst 2, 1) := by decide +kernel
theorem qd_81_57 : decode qm81.2.2.1 57 = .ok (.aload_n 0, 1) := by decide +kernel
theorem qd_81_58 : decode qm81.2.2.1 58 = .ok (.getfield 15, 3) := by decide +kernel
theorem qd_81_61 : decode qm81.2.2.1 61 = .ok (.iconst 1, 1) := by decide +kernel
theorem qd_81_62 : decode qm81.2.2.1 62 = .ok (.invokevirtual 118, 3) := by decide +kernel
theorem qd_81_65 : decode qm81.2.2.1 65 = .ok (.invokevirtual 168, 3) := by decide +kernel
theorem qd_81_68 : decode qm81.2.2.1 68 = .ok (.aload_n 0, 1) := by decide +kernel
theorem qd_81_69 : decode qm81.2.2.1 69 = .ok (.getfield 31, 3) := by decide +kernel
theorem qd_81_72 : decode qm81.2.2.1 72 = .ok (.iload_n 3, 1) := by decide +kernel
theorem qd_81_73 : decode qm81.2.2.1 73 = .ok (.iconst 3, 1) := by decide +kernel
theorem qd_81_74 : decode qm81.2.2.1 74 = .ok (.aload_n 0, 1) := by decide +kernel
theorem qd_81_75 : decode qm81.2.2.1 75 = .ok (.getfield 9, 3) := by decide +kernel
theorem qd_81_78 : decode qm81.2.2.1 78 = .ok (.iconst 2, 1) := by decide +kernel
theorem qd_81_79 : decode qm81.2.2.1 79 = .ok (.invokevirtual 65, 3) := by decide +kernel
theorem qd_81_82 : decode qm81.2.2.1 82 = .ok (.invokevirtual 168, 3) := by decide +kernel
theorem qd_81_85 : decode qm81.2.2.1 85 = .ok (.iinc 2 1, 3) := by decide +kernel
theorem qd_81_88 : decode qm81.2.2.1 88 = .ok (.goto (-77), 3) := by decide +kernel
theorem qd_81_91 : decode qm81.2.2.1 91 = .ok (.return_, 1) := by decide +kernel
theorem qd_82_0 : decode qm82.2.2.1 0 = .ok (.aload_n 0, 1) := by decide +kernel
theorem qd_82_1 : decode qm82.2.2.1 1 = .ok (.getfield 9, 3) := by decide +kernel
theorem qd_82_4 : decode qm82.2.2.1 4 = .ok (.iconst 2, 1) := by decide +kernel
theorem qd_82_5 : decode qm82.2.2.1 5 = .ok (.invokevirtual 65, 3) := by decide +kernel
theorem qd_82_8 : decode qm82.2.2.1 8 = .ok (.istore_n 2, 1) := by decide +kernel
theorem qd_82_9 : decode qm82.2.2.1 9 = .ok (.iconst 0, 1) := by decide +kernel
theorem qd_82_10 : decode qm82.2.2.1 10 = .ok (.istore_n 3, 1) := by decide +kernel
theorem qd_82_11 : decode qm82.2.2.1 11 = .ok (.iload_n 3, 1) := by decide +kernel
theorem qd_82_12 : decode qm82.2.2.1 12 = .ok (.iload_n 2, 1) := by decide +kernel
theorem qd_82_13 : decode qm82.2.2.1 13 = .ok (.if_icmp .ge 23, 3) := by decide +kernel
theorem qd_82_16 : decode qm82.2.2.1 16 = .ok (.aload_n 1, 1) := by decide +kernel
theorem qd_82_17 : decode qm82.2.2.1 17 = .ok (.aload_n 0, 1) := by decide +kernel
theorem qd_82_18 : decode qm82.2.2.1 18 = .ok (.getfield 15, 3) := by decide +kernel
theorem qd_82_21 : decode qm82.2.2.1 21 = .ok (.bipush 7, 2) := by decide +kernel
theorem qd_82_23 : decode qm82.2.2.1 23 = .ok (.invokevirtual 75, 3) := by decide +kernel
theorem qd_82_26 : decode qm82.2.2.1 26 = .ok (.invokevirtual 165, 3) := by decide +kernel
theorem qd_82_29 : decode qm82.2.2.1 29 = .ok (.pop, 1) := by decide +kernel
theorem qd_82_30 : decode qm82.2.2.1 30 = .ok (.iinc 3 1, 3) := by decide +kernel
theorem qd_82_33 : decode qm82.2.2.1 33 = .ok (.goto (-22), 3) := by decide +kernel
theorem qd_82_36 : decode qm82.2.2.1 36 = .ok (.return_, 1) := by decide +kernel
theorem qd_83_0 : decode qm83.2.2.1 0 = .ok (.aload_n 0, 1) := by decide +kernel
theorem qd_83_1 : decode qm83.2.2.1 1 = .ok (.getfield 9, 3) := by decide +kernel
theorem qd_83_4 : decode qm83.2.2.1 4 = .ok (.iconst 2, 1) := by decide +kernel
theorem qd_83_5 : decode qm83.2.2.1 5 = .ok (.invokevirtual 65, 3) := by decide +kernel
theorem qd_83_8 : decode qm83.2.2.1 8 = .ok (.istore_n 1, 1) := by decide +kernel
theorem qd_83_9 : decode qm83.2.2.1 9 = .ok (.iconst 0, 1) := by decide +kernel
theorem qd_83_10 : decode qm83.2.2.1 10 = .ok (.istore_n 2, 1) := by decide +kernel
theorem qd_83_11 : decode qm83.2.2.1 11 = .ok (.iload_n 2, 1) := by decide +kernel
theorem qd_83_12 : decode qm83.2.2.1 12 = .ok (.iload_n 1, 1) := by decide +kernel
theorem qd_83_13 : decode qm83.2.2.1 13 = .ok (.if_icmp .ge 101, 3) := by decide +kernel
theorem qd_83_16 : decode qm83.2.2.1 16 = .ok (.aload_n 0, 1) := by decide +kernel
theorem qd_83_17 : decode qm83.2.2.1 17 = .ok (.getfield 34, 3) := by decide +kernel
theorem qd_83_20 : decode qm83.2.2.1 20 = .ok (.aload_n 0, 1) := by decide +kernel
theorem qd_83_21 : decode qm83.2.2.1 21 = .ok (.getfield 15, 3) := by decide +kernel
theorem qd_83_24 : decode qm83.2.2.1 24 = .ok (.bipush 15, 2) := by decide +kernel
theorem qd_83_26 : decode qm83.2.2.1 26 = .ok (.invokevirtual 75, 3) := by decide +kernel
theorem qd_83_29 : decode qm83.2.2.1 29 = .ok (.invokevirtual 165, 3) := by decide +kernel
theorem qd_83_32 : decode qm83.2.2.1 32 = .ok (.istore_n 3, 1) := by decide +kernel
theorem qd_83_33 : decode qm83.2.2.1 33 = .ok (.aload_n 0, 1) := by decide +kernel
theorem qd_83_34 : decode qm83.2.2.1 34 = .ok (.getfield 9, 3) := by decide +kernel
theorem qd_83_37 : decode qm83.2.2.1 37 = .ok (.iconst 2, 1) := by decide +kernel
theorem qd_83_38 : decode qm83.2.2.1 38 = .ok (.invokevirtual 65, 3) := by decide +kernel
theorem qd_83_41 : decode qm83.2.2.1 41 = .ok (.istore 4, 2) := by decide +kernel
theorem qd_83_43 : decode qm83.2.2.1 43 = .ok (.aload_n 0, 1) := by decide +kernel
theorem qd_83_44 : decode qm83.2.2.1 44 = .ok (.getfield 34, 3) := by decide +kernel
theorem qd_83_47 : decode qm83.2.2.1 47 = .ok (.iload_n 3, 1) := by decide +kernel
theorem qd_83_48 : decode qm83.2.2.1 48 = .ok (.iconst 1, 1) := by decide +kernel
theorem qd_83_49 : decode qm83.2.2.1 49 = .ok (.iload 4, 2) := by decide +kernel
theorem qd_83_51 : decode qm83.2.2.1 51 = .ok (.invokevirtual 168, 3) := by decide +kernel
theorem qd_83_54 : decode qm83.2.2.1 54 = .ok (.iconst 0, 1) := by decide +kernel
theorem qd_83_55 : decode qm83.2.2.1 55 = .ok (.istore 5, 2) := by decide +kernel
theorem qd_83_57 : decode qm83.2.2.1 57 = .ok (.iload 5, 2) := by decide +kernel
theorem qd_83_59 : decode qm83.2.2.1 59 = .ok (.iload 4, 2) := by decide +kernel
theorem qd_83_61 : decode qm83.2.2.1 61 = .ok (.if_icmp .ge 47, 3) := by decide +kernel
theorem qd_83_64 : decode qm83.2.2.1 64 = .ok (.aload_n 0, 1) := by decide +kernel
theorem qd_83_65 : decode qm83.2.2.1 65 = .ok (.getfield 15, 3) := by decide +kernel
theorem qd_83_68 : decode qm83.2.2.1 68 = .ok (.aload_n 0, 1) := by decide +kernel
theorem qd_83_69 : decode qm83.2.2.1 69 = .ok (.getfield 9, 3) := by decide +kernel
theorem qd_83_72 : decode qm83.2.2.1 72 = .ok (.iconst 2, 1) := by decide +kernel
theorem qd_83_73 : decode qm83.2.2.1 73 = .ok (.invokevirtual 65, 3) := by decide +kernel
theorem qd_83_76 : decode qm83.2.2.1 76 = .ok (.invokevirtual 172, 3) := by decide +kernel
theorem qd_83_79 : decode qm83.2.2.1 79 = .ok (.istore 6, 2) := by decide +kernel
theorem qd_83_81 : decode qm83.2.2.1 81 = .ok (.aload_n 0, 1) := by decide +kernel
theorem qd_83_82 : decode qm83.2.2.1 82 = .ok (.getfield 9, 3) := by decide +kernel
theorem qd_83_85 : decode qm83.2.2.1 85 = .ok (.iload 6, 2) := by decide +kernel
theorem qd_83_87 : decode qm83.2.2.1 87 = .ok (.invokestatic 175, 3) := by decide +kernel
theorem qd_83_90 : decode qm83.2.2.1 90 = .ok (.aload_n 0, 1) := by decide +kernel
theorem qd_83_91 : decode qm83.2.2.1 91 = .ok (.getfield 9, 3) := by decide +kernel
theorem qd_83_94 : decode qm83.2.2.1 94 = .ok (.invokevirtual 71, 3) := by decide +kernel
theorem qd_83_97 : decode qm83.2.2.1 97 = .ok (.iconst 2, 1) := by decide +kernel
theorem qd_83_98 : decode qm83.2.2.1 98 = .ok (.isub, 1) := by decide +kernel
theorem qd_83_99 : decode qm83.2.2.1 99 = .ok (.invokevirtual 87, 3) := by decide +kernel
theorem qd_83_102 : decode qm83.2.2.1 102 = .ok (.iinc 5 1, 3) := by decide +kernel
theorem qd_83_105 : decode qm83.2.2.1 105 = .ok (.goto (-48), 3) := by decide +kernel
theorem qd_83_108 : decode qm83.2.2.1 108 = .ok (.iinc 2 1, 3) := by decide +kernel
theorem qd_83_111 : decode qm83.2.2.1 111 = .ok (.goto (-100), 3) := by decide +kernel
theorem qd_83_114 : decode qm83.2.2.1 114 = .ok (.return_, 1) := by decide +kernel
theorem qd_84_0 : decode qm84.2.2.1 0 = .ok (.iload_n 0, 1) := by decide +kernel
theorem qd_84_1 : decode qm84.2.2.1 1 = .ok (.tableswitch 77 3 17 #[75, 75, 75, 75, 75, 75, 77, 77, 77, 77, 77, 77, 75, 75, 75], 75) := by decide +kernel
theorem qd_84_76 : decode qm84.2.2.1 76 = .ok (.iconst 1, 1) := by decide +kernel
theorem qd_84_77 : decode qm84.2.2.1 77 = .ok (.ireturn, 1) := by decide +kernel
theorem qd_84_78 : decode qm84.2.2.1 78 = .ok (.iconst 0, 1) := by decide +kernel
theorem qd_84_79 : decode qm84.2.2.1 79 = .ok (.ireturn, 1) := by decide +kernel
theorem qd_85_0 : decode qm85.2.2.1 0 = .ok (.aload_n 1, 1) := by decide +kernel
theorem qd_85_1 : decode qm85.2.2.1 1 = .ok (.iload_n 2, 1) := by decide +kernel
theorem qd_85_2 : decode qm85.2.2.1 2 = .ok (.iconst 3, 1) := by decide +kernel
theorem qd_85_3 : decode qm85.2.2.1 3 = .ok (.iload_n 3, 1) := by decide +kernel
theorem qd_85_4 : decode qm85.2.2.1 4 = .ok (.invokevirtual 127, 3) := by decide +kernel
theorem qd_85_7 : decode qm85.2.2.1 7 = .ok (.aload_n 1, 1) := by decide +kernel
theorem qd_85_8 : decode qm85.2.2.1 8 = .ok (.iload_n 2, 1) := by decide +kernel
theorem qd_85_9 : decode qm85.2.2.1 9 = .ok (.iconst 5, 1) := by decide +kernel
theorem qd_85_10 : decode qm85.2.2.1 10 = .ok (.aload_n 0, 1) := by decide +kernel
theorem qd_85_11 : decode qm85.2.2.1 11 = .ok (.getfield 19, 3) := by decide +kernel
theorem qd_85_14 : decode qm85.2.2.1 14 = .ok (.getfield 175, 3) := by decide +kernel
theorem qd_85_17 : decode qm85.2.2.1 17 = .ok (.invokevirtual 127, 3) := by decide +kernel
theorem qd_85_20 : decode qm85.2.2.1 20 = .ok (.aload_n 1, 1) := by decide +kernel
theorem qd_85_21 : decode qm85.2.2.1 21 = .ok (.iload_n 2, 1) := by decide +kernel
theorem qd_85_22 : decode qm85.2.2.1 22 = .ok (.bipush 6, 2) := by decide +kernel
theorem qd_85_24 : decode qm85.2.2.1 24 = .ok (.aload_n 0, 1) := by decide +kernel
theorem qd_85_25 : decode qm85.2.2.1 25 = .ok (.getfield 19, 3) := by decide +kernel
theorem qd_85_28 : decode qm85.2.2.1 28 = .ok (.getfield 178, 3) := by decide +kernel
theorem qd_85_31 : decode qm85.2.2.1 31 = .ok (.invokevirtual 127, 3) := by decide +kernel
theorem qd_85_34 : decode qm85.2.2.1 34 = .ok (.aload_n 1, 1) := by decide +kernel
theorem qd_85_35 : decode qm85.2.2.1 35 = .ok (.iload_n 2, 1) := by decide +kernel
theorem qd_85_36 : decode qm85.2.2.1 36 = .ok (.bipush 7, 2) := by decide +kernel
theorem qd_85_38 : decode qm85.2.2.1 38 = .ok (.aload_n 0, 1) := by decide +kernel
theorem qd_85_39 : decode qm85.2.2.1 39 = .ok (.getfield 19, 3) := by decide +kernel
theorem qd_85_42 : decode qm85.2.2.1 42 = .ok (.getfield 181, 3) := by decide +kernel
theorem qd_85_45 : decode qm85.2.2.1 45 = .ok (.invokevirtual 127, 3) := by decide +kernel
theorem qd_85_48 : decode qm85.2.2.1 48 = .ok (.return_, 1) := by decide +kernel
theorem qd_86_0 : decode qm86.2.2.1 0 = .ok (.aload_n 0, 1) := by decide +kernel
theorem qd_86_1 : decode qm86.2.2.1 1 = .ok (.getfield 35, 3) := by decide +kernel
theorem qd_86_4 : decode qm86.2.2.1 4 = .ok (.invokevirtual 85, 3) := by decide +kernel
theorem qd_86_7 : decode qm86.2.2.1 7 = .ok (.aload_n 0, 1) := by decide +kernel
theorem qd_86_8 : decode qm86.2.2.1 8 = .ok (.getfield 9, 3) := by decide +kernel
theorem qd_86_11 : decode qm86.2.2.1 11 = .ok (.iconst 2, 1) := by decide +kernel
theorem qd_86_12 : decode qm86.2.2.1 12 = .ok (.invokevirtual 38, 3) := by decide +kernel
theorem qd_86_15 : decode qm86.2.2.1 15 = .ok (.istore_n 1, 1) := by decide +kernel
theorem qd_86_16 : decode qm86.2.2.1 16 = .ok (.iconst 0, 1) := by decide +kernel
theorem qd_86_17 : decode qm86.2.2.1 17 = .ok (.istore_n 2, 1) := by decide +kernel
theorem qd_86_18 : decode qm86.2.2.1 18 = .ok (.iload_n 2, 1) := by decide +kernel
theorem qd_86_19 : decode qm86.2.2.1 19 = .ok (.iload_n 1, 1) := by decide +kernel
theorem qd_86_20 : decode qm86.2.2.1 20 = .ok (.if_icmp .ge 113, 3) := by decide +kernel
theorem qd_86_23 : decode qm86.2.2.1 23 = .ok (.aload_n 0, 1) := by decide +kernel
theorem qd_86_24 : decode qm86.2.2.1 24 = .ok (.getfield 9, 3) := by decide +kernel
theorem qd_86_27 : decode qm86.2.2.1 27 = .ok (.invokevirtual 57, 3) := by decide +kernel
theorem qd_86_30 : decode qm86.2.2.1 30 = .ok (.istore_n 3, 1) := by decide +kernel
theorem qd_86_31 : decode qm86.2.2.1 31 = .ok (.aload_n 0, 1) := by decide +kernel
theorem qd_86_32 : decode qm86.2.2.1 32 = .ok (.invokevirtual 135, 3) := by decide +kernel
theorem qd_86_35 : decode qm86.2.2.1 35 = .ok (.istore 4, 2) := by decide +kernel
theorem qd_86_37 : decode qm86.2.2.1 37 = .ok (.aload_n 0, 1) := by decide +kernel
theorem qd_86_38 : decode qm86.2.2.1 38 = .ok (.getfield 19, 3) := by decide +kernel
theorem qd_86_41 : decode qm86.2.2.1 41 = .ok (.iconst 2, 1) := by decide +kernel
theorem qd_86_42 : decode qm86.2.2.1 42 = .ok (.bipush (-2), 2) := by decide +kernel
theorem qd_86_44 : decode qm86.2.2.1 44 = .ok (.invokevirtual 100, 3) := by decide +kernel
theorem qd_86_47 : decode qm86.2.2.1 47 = .ok (.istore 5, 2) := by decide +kernel
theorem qd_86_49 : decode qm86.2.2.1 49 = .ok (.aload_n 0, 1) := by decide +kernel
theorem qd_86_50 : decode qm86.2.2.1 50 = .ok (.aload_n 0, 1) := by decide +kernel
theorem qd_86_51 : decode qm86.2.2.1 51 = .ok (.getfield 35, 3) := by decide +kernel
theorem qd_86_54 : decode qm86.2.2.1 54 = .ok (.iload 4, 2) := by decide +kernel
theorem qd_86_56 : decode qm86.2.2.1 56 = .ok (.iload 5, 2) := by decide +kernel
theorem qd_86_58 : decode qm86.2.2.1 58 = .ok (.invokevirtual 105, 3) := by decide +kernel
theorem qd_86_61 : decode qm86.2.2.1 61 = .ok (.aload_n 0, 1) := by decide +kernel
theorem qd_86_62 : decode qm86.2.2.1 62 = .ok (.getfield 35, 3) := by decide +kernel
theorem qd_86_65 : decode qm86.2.2.1 65 = .ok (.iload 4, 2) := by decide +kernel
theorem qd_86_67 : decode qm86.2.2.1 67 = .ok (.iconst 0, 1) := by decide +kernel
theorem qd_86_68 : decode qm86.2.2.1 68 = .ok (.invokevirtual 96, 3) := by decide +kernel
theorem qd_86_71 : decode qm86.2.2.1 71 = .ok (.sipush 1280, 3) := by decide +kernel
theorem qd_86_74 : decode qm86.2.2.1 74 = .ok (.iand, 1) := by decide +kernel
theorem qd_86_75 : decode qm86.2.2.1 75 = .ok (.ifCond .eq 7, 3) := by decide +kernel
theorem qd_86_78 : decode qm86.2.2.1 78 = .ok (.iconst 1, 1) := by decide +kernel
theorem qd_86_79 : decode qm86.2.2.1 79 = .ok (.goto 4, 3) := by decide +kernel
theorem qd_86_82 : decode qm86.2.2.1 82 = .ok (.iconst 0, 1) := by decide +kernel
theorem qd_86_83 : decode qm86.2.2.1 83 = .ok (.istore 6, 2) := by decide +kernel
theorem qd_86_85 : decode qm86.2.2.1 85 = .ok (.aload_n 0, 1) := by decide +kernel
theorem qd_86_86 : decode qm86.2.2.1 86 = .ok (.getfield 35, 3) := by decide +kernel
theorem qd_86_89 : decode qm86.2.2.1 89 = .ok (.iload 4, 2) := by decide +kernel
theorem qd_86_91 : decode qm86.2.2.1 91 = .ok (.iconst 5, 1) := by decide +kernel
theorem qd_86_92 : decode qm86.2.2.1 92 = .ok (.invokevirtual 96, 3) := by decide +kernel
theorem qd_86_95 : decode qm86.2.2.1 95 = .ok (.bipush (-2), 2) := by decide +kernel
theorem qd_86_97 : decode qm86.2.2.1 97 = .ok (.if_icmp .eq 7, 3) := by decide +kernel
theorem qd_86_100 : decode qm86.2.2.1 100 = .ok (.iconst 1, 1) := by decide +kernel
theorem qd_86_101 : decode qm86.2.2.1 101 = .ok (.goto 4, 3) := by decide +kernel
theorem qd_86_104 : decode qm86.2.2.1 104 = .ok (.iconst 0, 1) := by decide +kernel
theorem qd_86_105 : decode qm86.2.2.1 105 = .ok (.istore 7, 2) := by decide +kernel
theorem qd_86_107 : decode qm86.2.2.1 107 = .ok (.aload_n 0, 1) := by decide +kernel
theorem qd_86_108 : decode qm86.2.2.1 108 = .ok (.getfield 9, 3) := by decide +kernel
theorem qd_86_111 : decode qm86.2.2.1 111 = .ok (.iload 6, 2) := by decide +kernel
theorem qd_86_113 : decode qm86.2.2.1 113 = .ok (.iload 7, 2) := by decide +kernel
theorem qd_86_115 : decode qm86.2.2.1 115 = .ok (.if_icmp .eq 7, 3) := by decide +kernel
theorem qd_86_118 : decode qm86.2.2.1 118 = .ok (.iconst 1, 1) := by decide +kernel
theorem qd_86_119 : decode qm86.2.2.1 119 = .ok (.goto 4, 3) := by decide +kernel
theorem qd_86_122 : decode qm86.2.2.1 122 = .ok (.iconst 0, 1) := by decide +kernel
theorem qd_86_123 : decode qm86.2.2.1 123 = .ok (.iload_n 3, 1) := by decide +kernel
theorem qd_86_124 : decode qm86.2.2.1 124 = .ok (.invokevirtual 45, 3) := by decide +kernel
theorem qd_86_127 : decode qm86.2.2.1 127 = .ok (.iinc 2 1, 3) := by decide +kernel
theorem qd_86_130 : decode qm86.2.2.1 130 = .ok (.goto (-112), 3) := by decide +kernel
theorem qd_86_133 : decode qm86.2.2.1 133 = .ok (.return_, 1) := by decide +kernel
theorem qd_87_0 : decode qm87.2.2.1 0 = .ok (.aload_n 0, 1) := by decide +kernel
theorem qd_87_1 : decode qm87.2.2.1 1 = .ok (.getfield 9, 3) := by decide +kernel
theorem qd_87_4 : decode qm87.2.2.1 4 = .ok (.iconst 2, 1) := by decide +kernel
theorem qd_87_5 : decode qm87.2.2.1 5 = .ok (.invokevirtual 38, 3) := by decide +kernel
theorem qd_87_8 : decode qm87.2.2.1 8 = .ok (.istore_n 1, 1) := by decide +kernel
theorem qd_87_9 : decode qm87.2.2.1 9 = .ok (.aload_n 0, 1) := by decide +kernel
theorem qd_87_10 : decode qm87.2.2.1 10 = .ok (.getfield 9, 3) := by decide +kernel
theorem qd_87_13 : decode qm87.2.2.1 13 = .ok (.iload_n 1, 1) := by decide +kernel
theorem qd_87_14 : decode qm87.2.2.1 14 = .ok (.invokestatic 138, 3) := by decide +kernel
theorem qd_87_17 : decode qm87.2.2.1 17 = .ok (.aload_n 0, 1) := by decide +kernel
theorem qd_87_18 : decode qm87.2.2.1 18 = .ok (.getfield 9, 3) := by decide +kernel
theorem qd_87_21 : decode qm87.2.2.1 21 = .ok (.invokevirtual 57, 3) := by decide +kernel
theorem qd_87_24 : decode qm87.2.2.1 24 = .ok (.iconst 2, 1) := by decide +kernel
theorem qd_87_25 : decode qm87.2.2.1 25 = .ok (.isub, 1) := by decide +kernel
theorem qd_87_26 : decode qm87.2.2.1 26 = .ok (.invokevirtual 45, 3) := by decide +kernel
theorem qd_87_29 : decode qm87.2.2.1 29 = .ok (.aload_n 0, 1) := by decide +kernel
theorem qd_87_30 : decode qm87.2.2.1 30 = .ok (.getfield 15, 3) := by decide +kernel
theorem qd_87_33 : decode qm87.2.2.1 33 = .ok (.iconst 2, 1) := by decide +kernel
theorem qd_87_34 : decode qm87.2.2.1 34 = .ok (.invokevirtual 114, 3) := by decide +kernel
theorem qd_87_37 : decode qm87.2.2.1 37 = .ok (.istore_n 2, 1) := by decide +kernel
theorem qd_87_38 : decode qm87.2.2.1 38 = .ok (.aload_n 0, 1) := by decide +kernel
theorem qd_87_39 : decode qm87.2.2.1 39 = .ok (.getfield 9, 3) := by decide +kernel
theorem qd_87_42 : decode qm87.2.2.1 42 = .ok (.invokevirtual 57, 3) := by decide +kernel
theorem qd_87_45 : decode qm87.2.2.1 45 = .ok (.iconst 2, 1) := by decide +kernel
theorem qd_87_46 : decode qm87.2.2.1 46 = .ok (.isub, 1) := by decide +kernel
theorem qd_87_47 : decode qm87.2.2.1 47 = .ok (.istore_n 3, 1) := by decide +kernel
theorem qd_87_48 : decode qm87.2.2.1 48 = .ok (.aload_n 0, 1) := by decide +kernel
theorem qd_87_49 : decode qm87.2.2.1 49 = .ok (.getfield 15, 3) := by decide +kernel
theorem qd_87_52 : decode qm87.2.2.1 52 = .ok (.bipush 32, 2) := by decide +kernel
theorem qd_87_54 : decode qm87.2.2.1 54 = .ok (.invokevirtual 114, 3) := by decide +kernel
theorem qd_87_57 : decode qm87.2.2.1 57 = .ok (.istore 4, 2) := by decide +kernel
theorem qd_87_59 : decode qm87.2.2.1 59 = .ok (.aload_n 0, 1) := by decide +kernel
theorem qd_87_60 : decode qm87.2.2.1 60 = .ok (.getfield 9, 3) := by decide +kernel
theorem qd_87_63 : decode qm87.2.2.1 63 = .ok (.aload_n 0, 1) := by decide +kernel
theorem qd_87_64 : decode qm87.2.2.1 64 = .ok (.iload_n 2, 1) := by decide +kernel
theorem qd_87_65 : decode qm87.2.2.1 65 = .ok (.iload 4, 2) := by decide +kernel
theorem qd_87_67 : decode qm87.2.2.1 67 = .ok (.invokevirtual 141, 3) := by decide +kernel
theorem qd_87_70 : decode qm87.2.2.1 70 = .ok (.aload_n 0, 1) := by decide +kernel
theorem qd_87_71 : decode qm87.2.2.1 71 = .ok (.getfield 9, 3) := by decide +kernel
theorem qd_87_74 : decode qm87.2.2.1 74 = .ok (.invokevirtual 57, 3) := by decide +kernel
theorem qd_87_77 : decode qm87.2.2.1 77 = .ok (.iconst 2, 1) := by decide +kernel
theorem qd_87_78 : decode qm87.2.2.1 78 = .ok (.isub, 1) := by decide +kernel
theorem qd_87_79 : decode qm87.2.2.1 79 = .ok (.invokevirtual 45, 3) := by decide +kernel
theorem qd_87_82 : decode qm87.2.2.1 82 = .ok (.aload_n 0, 1) := by decide +kernel
theorem qd_87_83 : decode qm87.2.2.1 83 = .ok (.getfield 35, 3) := by decide +kernel
theorem qd_87_86 : decode qm87.2.2.1 86 = .ok (.iload_n 1, 1) := by decide +kernel
theorem qd_87_87 : decode qm87.2.2.1 87 = .ok (.iload_n 2, 1) := by decide +kernel
theorem qd_87_88 : decode qm87.2.2.1 88 = .ok (.iload 4, 2) := by decide +kernel
theorem qd_87_90 : decode qm87.2.2.1 90 = .ok (.invokestatic 117, 3) := by decide +kernel
theorem qd_87_93 : decode qm87.2.2.1 93 = .ok (.istore 5, 2) := by decide +kernel
theorem qd_87_95 : decode qm87.2.2.1 95 = .ok (.aload_n 0, 1) := by decide +kernel
theorem qd_87_96 : decode qm87.2.2.1 96 = .ok (.getfield 15, 3) := by decide +kernel
theorem qd_87_99 : decode qm87.2.2.1 99 = .ok (.iload 4, 2) := by decide +kernel
theorem qd_87_101 : decode qm87.2.2.1 101 = .ok (.invokevirtual 145, 3) := by decide +kernel
theorem qd_87_104 : decode qm87.2.2.1 104 = .ok (.istore 6, 2) := by decide +kernel
theorem qd_87_106 : decode qm87.2.2.1 106 = .ok (.aload_n 0, 1) := by decide +kernel
theorem qd_87_107 : decode qm87.2.2.1 107 = .ok (.getfield 35, 3) := by decide +kernel
theorem qd_87_110 : decode qm87.2.2.1 110 = .ok (.iload 5, 2) := by decide +kernel
theorem qd_87_112 : decode qm87.2.2.1 112 = .ok (.iconst 4, 1) := by decide +kernel
theorem qd_87_113 : decode qm87.2.2.1 113 = .ok (.aload_n 0, 1) := by decide +kernel
theorem qd_87_114 : decode qm87.2.2.1 114 = .ok (.getfield 15, 3) := by decide +kernel
theorem qd_87_117 : decode qm87.2.2.1 117 = .ok (.getfield 148, 3) := by decide +kernel
theorem qd_87_120 : decode qm87.2.2.1 120 = .ok (.iload 6, 2) := by decide +kernel
theorem qd_87_122 : decode qm87.2.2.1 122 = .ok (.aload_n 0, 1) := by decide +kernel
theorem qd_87_123 : decode qm87.2.2.1 123 = .ok (.getfield 15, 3) := by decide +kernel
theorem qd_87_126 : decode qm87.2.2.1 126 = .ok (.iload 4, 2) := by decide +kernel
theorem qd_87_128 : decode qm87.2.2.1 128 = .ok (.invokevirtual 152, 3) := by decide +kernel
theorem qd_87_131 : decode qm87.2.2.1 131 = .ok (.invokestatic 155, 3) := by decide +kernel
theorem qd_87_134 : decode qm87.2.2.1 134 = .ok (.invokevirtual 127, 3) := by decide +kernel
theorem qd_87_137 : decode qm87.2.2.1 137 = .ok (.aload_n 0, 1) := by decide +kernel
theorem qd_87_138 : decode qm87.2.2.1 138 = .ok (.getfield 9, 3) := by decide +kernel
theorem qd_87_141 : decode qm87.2.2.1 141 = .ok (.aload_n 0, 1) := by decide +kernel
theorem qd_87_142 : decode qm87.2.2.1 142 = .ok (.aload_n 0, 1) := by decide +kernel
theorem qd_87_143 : decode qm87.2.2.1 143 = .ok (.getfield 35, 3) := by decide +kernel
theorem qd_87_146 : decode qm87.2.2.1 146 = .ok (.iload 5, 2) := by decide +kernel
theorem qd_87_148 : decode qm87.2.2.1 148 = .ok (.invokevirtual 131, 3) := by decide +kernel
theorem qd_87_151 : decode qm87.2.2.1 151 = .ok (.ifCond .ne 7, 3) := by decide +kernel
theorem qd_87_154 : decode qm87.2.2.1 154 = .ok (.iconst 1, 1) := by decide +kernel
theorem qd_87_155 : decode qm87.2.2.1 155 = .ok (.goto 4, 3) := by decide +kernel
theorem qd_87_158 : decode qm87.2.2.1 158 = .ok (.iconst 0, 1) := by decide +kernel
theorem qd_87_159 : decode qm87.2.2.1 159 = .ok (.iload_n 3, 1) := by decide +kernel
theorem qd_87_160 : decode qm87.2.2.1 160 = .ok (.invokevirtual 45, 3) := by decide +kernel
theorem qd_87_163 : decode qm87.2.2.1 163 = .ok (.iload 5, 2) := by decide +kernel
theorem qd_87_165 : decode qm87.2.2.1 165 = .ok (.ireturn, 1) := by decide +kernel
