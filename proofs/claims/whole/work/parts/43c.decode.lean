/-! the code, instruction by instruction: printed by a program of mine (wip/whole/gen_blocks.py, emit.py) -/
theorem qd_88_0 : decode qm88.2.2.1 0 = .ok (.iload_n 0, 1) := by decide +kernel
theorem qd_88_1 : decode qm88.2.2.1 1 = .ok (.sipush 1024, 3) := by decide +kernel
theorem qd_88_4 : decode qm88.2.2.1 4 = .ok (.iand, 1) := by decide +kernel
theorem qd_88_5 : decode qm88.2.2.1 5 = .ok (.ifCond .eq 7, 3) := by decide +kernel
theorem qd_88_8 : decode qm88.2.2.1 8 = .ok (.iconst 1, 1) := by decide +kernel
theorem qd_88_9 : decode qm88.2.2.1 9 = .ok (.goto 4, 3) := by decide +kernel
theorem qd_88_12 : decode qm88.2.2.1 12 = .ok (.iconst 0, 1) := by decide +kernel
theorem qd_88_13 : decode qm88.2.2.1 13 = .ok (.istore_n 1, 1) := by decide +kernel
theorem qd_88_14 : decode qm88.2.2.1 14 = .ok (.iload_n 0, 1) := by decide +kernel
theorem qd_88_15 : decode qm88.2.2.1 15 = .ok (.sipush 314, 3) := by decide +kernel
theorem qd_88_18 : decode qm88.2.2.1 18 = .ok (.iand, 1) := by decide +kernel
theorem qd_88_19 : decode qm88.2.2.1 19 = .ok (.ifCond .eq 7, 3) := by decide +kernel
theorem qd_88_22 : decode qm88.2.2.1 22 = .ok (.iconst 1, 1) := by decide +kernel
theorem qd_88_23 : decode qm88.2.2.1 23 = .ok (.goto 4, 3) := by decide +kernel
theorem qd_88_26 : decode qm88.2.2.1 26 = .ok (.iconst 0, 1) := by decide +kernel
theorem qd_88_27 : decode qm88.2.2.1 27 = .ok (.istore_n 2, 1) := by decide +kernel
theorem qd_88_28 : decode qm88.2.2.1 28 = .ok (.iload_n 0, 1) := by decide +kernel
theorem qd_88_29 : decode qm88.2.2.1 29 = .ok (.bipush 7, 2) := by decide +kernel
theorem qd_88_31 : decode qm88.2.2.1 31 = .ok (.iand, 1) := by decide +kernel
theorem qd_88_32 : decode qm88.2.2.1 32 = .ok (.invokestatic 159, 3) := by decide +kernel
theorem qd_88_35 : decode qm88.2.2.1 35 = .ok (.iconst 1, 1) := by decide +kernel
theorem qd_88_36 : decode qm88.2.2.1 36 = .ok (.if_icmp .gt 15, 3) := by decide +kernel
theorem qd_88_39 : decode qm88.2.2.1 39 = .ok (.iload_n 1, 1) := by decide +kernel
theorem qd_88_40 : decode qm88.2.2.1 40 = .ok (.ifCond .eq 7, 3) := by decide +kernel
theorem qd_88_43 : decode qm88.2.2.1 43 = .ok (.iload_n 2, 1) := by decide +kernel
theorem qd_88_44 : decode qm88.2.2.1 44 = .ok (.ifCond .ne 7, 3) := by decide +kernel
theorem qd_88_47 : decode qm88.2.2.1 47 = .ok (.iconst 1, 1) := by decide +kernel
theorem qd_88_48 : decode qm88.2.2.1 48 = .ok (.goto 4, 3) := by decide +kernel
theorem qd_88_51 : decode qm88.2.2.1 51 = .ok (.iconst 0, 1) := by decide +kernel
theorem qd_88_52 : decode qm88.2.2.1 52 = .ok (.ireturn, 1) := by decide +kernel
theorem qd_89_0 : decode qm89.2.2.1 0 = .ok (.aload_n 0, 1) := by decide +kernel
theorem qd_89_1 : decode qm89.2.2.1 1 = .ok (.getfield 15, 3) := by decide +kernel
theorem qd_89_4 : decode qm89.2.2.1 4 = .ok (.iload_n 1, 1) := by decide +kernel
theorem qd_89_5 : decode qm89.2.2.1 5 = .ok (.sipush 128, 3) := by decide +kernel
theorem qd_89_8 : decode qm89.2.2.1 8 = .ok (.invokevirtual 164, 3) := by decide +kernel
theorem qd_89_11 : decode qm89.2.2.1 11 = .ok (.ifCond .eq 14, 3) := by decide +kernel
theorem qd_89_14 : decode qm89.2.2.1 14 = .ok (.aload_n 0, 1) := by decide +kernel
theorem qd_89_15 : decode qm89.2.2.1 15 = .ok (.getfield 15, 3) := by decide +kernel
theorem qd_89_18 : decode qm89.2.2.1 18 = .ok (.iload_n 2, 1) := by decide +kernel
theorem qd_89_19 : decode qm89.2.2.1 19 = .ok (.ldc 167, 2) := by decide +kernel
theorem qd_89_21 : decode qm89.2.2.1 21 = .ok (.invokevirtual 168, 3) := by decide +kernel
theorem qd_89_24 : decode qm89.2.2.1 24 = .ok (.ireturn, 1) := by decide +kernel
theorem qd_89_25 : decode qm89.2.2.1 25 = .ok (.aload_n 0, 1) := by decide +kernel
theorem qd_89_26 : decode qm89.2.2.1 26 = .ok (.getfield 15, 3) := by decide +kernel
theorem qd_89_29 : decode qm89.2.2.1 29 = .ok (.iload_n 2, 1) := by decide +kernel
theorem qd_89_30 : decode qm89.2.2.1 30 = .ok (.aload_n 0, 1) := by decide +kernel
theorem qd_89_31 : decode qm89.2.2.1 31 = .ok (.getfield 15, 3) := by decide +kernel
theorem qd_89_34 : decode qm89.2.2.1 34 = .ok (.iload_n 2, 1) := by decide +kernel
theorem qd_89_35 : decode qm89.2.2.1 35 = .ok (.invokevirtual 172, 3) := by decide +kernel
theorem qd_89_38 : decode qm89.2.2.1 38 = .ok (.iconst 1, 1) := by decide +kernel
theorem qd_89_39 : decode qm89.2.2.1 39 = .ok (.isub, 1) := by decide +kernel
theorem qd_89_40 : decode qm89.2.2.1 40 = .ok (.invokevirtual 121, 3) := by decide +kernel
theorem qd_89_43 : decode qm89.2.2.1 43 = .ok (.istore_n 3, 1) := by decide +kernel
theorem qd_89_44 : decode qm89.2.2.1 44 = .ok (.aload_n 0, 1) := by decide +kernel
theorem qd_89_45 : decode qm89.2.2.1 45 = .ok (.getfield 15, 3) := by decide +kernel
theorem qd_89_48 : decode qm89.2.2.1 48 = .ok (.iload_n 1, 1) := by decide +kernel
theorem qd_89_49 : decode qm89.2.2.1 49 = .ok (.bipush 64, 2) := by decide +kernel
theorem qd_89_51 : decode qm89.2.2.1 51 = .ok (.invokevirtual 164, 3) := by decide +kernel
theorem qd_89_54 : decode qm89.2.2.1 54 = .ok (.ifCond .eq 9, 3) := by decide +kernel
theorem qd_89_57 : decode qm89.2.2.1 57 = .ok (.iload_n 3, 1) := by decide +kernel
theorem qd_89_58 : decode qm89.2.2.1 58 = .ok (.bipush 86, 2) := by decide +kernel
theorem qd_89_60 : decode qm89.2.2.1 60 = .ok (.if_icmp .ne 7, 3) := by decide +kernel
theorem qd_89_63 : decode qm89.2.2.1 63 = .ok (.iconst 1, 1) := by decide +kernel
theorem qd_89_64 : decode qm89.2.2.1 64 = .ok (.goto 4, 3) := by decide +kernel
theorem qd_89_67 : decode qm89.2.2.1 67 = .ok (.iconst 0, 1) := by decide +kernel
theorem qd_89_68 : decode qm89.2.2.1 68 = .ok (.ireturn, 1) := by decide +kernel
theorem qd_90_0 : decode qm90.2.2.1 0 = .ok (.iconst 0, 1) := by decide +kernel
theorem qd_90_1 : decode qm90.2.2.1 1 = .ok (.istore_n 3, 1) := by decide +kernel
theorem qd_90_2 : decode qm90.2.2.1 2 = .ok (.iload_n 1, 1) := by decide +kernel
theorem qd_90_3 : decode qm90.2.2.1 3 = .ok (.iconst 1, 1) := by decide +kernel
theorem qd_90_4 : decode qm90.2.2.1 4 = .ok (.iadd, 1) := by decide +kernel
theorem qd_90_5 : decode qm90.2.2.1 5 = .ok (.istore 4, 2) := by decide +kernel
theorem qd_90_7 : decode qm90.2.2.1 7 = .ok (.iconst 0, 1) := by decide +kernel
theorem qd_90_8 : decode qm90.2.2.1 8 = .ok (.istore 5, 2) := by decide +kernel
theorem qd_90_10 : decode qm90.2.2.1 10 = .ok (.iload 5, 2) := by decide +kernel
theorem qd_90_12 : decode qm90.2.2.1 12 = .ok (.sipush 500, 3) := by decide +kernel
theorem qd_90_15 : decode qm90.2.2.1 15 = .ok (.if_icmp .ge 56, 3) := by decide +kernel
theorem qd_90_18 : decode qm90.2.2.1 18 = .ok (.iload 4, 2) := by decide +kernel
theorem qd_90_20 : decode qm90.2.2.1 20 = .ok (.ifCond .lt 51, 3) := by decide +kernel
theorem qd_90_23 : decode qm90.2.2.1 23 = .ok (.iload 4, 2) := by decide +kernel
theorem qd_90_25 : decode qm90.2.2.1 25 = .ok (.iload_n 2, 1) := by decide +kernel
theorem qd_90_26 : decode qm90.2.2.1 26 = .ok (.if_icmp .ge 45, 3) := by decide +kernel
theorem qd_90_29 : decode qm90.2.2.1 29 = .ok (.aload_n 0, 1) := by decide +kernel
theorem qd_90_30 : decode qm90.2.2.1 30 = .ok (.iload 4, 2) := by decide +kernel
theorem qd_90_32 : decode qm90.2.2.1 32 = .ok (.iaload, 1) := by decide +kernel
theorem qd_90_33 : decode qm90.2.2.1 33 = .ok (.bipush 41, 2) := by decide +kernel
theorem qd_90_35 : decode qm90.2.2.1 35 = .ok (.if_icmp .eq 36, 3) := by decide +kernel
theorem qd_90_38 : decode qm90.2.2.1 38 = .ok (.iload_n 3, 1) := by decide +kernel
theorem qd_90_39 : decode qm90.2.2.1 39 = .ok (.aload_n 0, 1) := by decide +kernel
theorem qd_90_40 : decode qm90.2.2.1 40 = .ok (.iload 4, 2) := by decide +kernel
theorem qd_90_42 : decode qm90.2.2.1 42 = .ok (.iaload, 1) := by decide +kernel
theorem qd_90_43 : decode qm90.2.2.1 43 = .ok (.invokestatic 41, 3) := by decide +kernel
theorem qd_90_46 : decode qm90.2.2.1 46 = .ok (.ifCond .eq 7, 3) := by decide +kernel
theorem qd_90_49 : decode qm90.2.2.1 49 = .ok (.iconst 2, 1) := by decide +kernel
theorem qd_90_50 : decode qm90.2.2.1 50 = .ok (.goto 4, 3) := by decide +kernel
theorem qd_90_53 : decode qm90.2.2.1 53 = .ok (.iconst 1, 1) := by decide +kernel
theorem qd_90_54 : decode qm90.2.2.1 54 = .ok (.iadd, 1) := by decide +kernel
theorem qd_90_55 : decode qm90.2.2.1 55 = .ok (.istore_n 3, 1) := by decide +kernel
theorem qd_90_56 : decode qm90.2.2.1 56 = .ok (.aload_n 0, 1) := by decide +kernel
theorem qd_90_57 : decode qm90.2.2.1 57 = .ok (.iload 4, 2) := by decide +kernel
theorem qd_90_59 : decode qm90.2.2.1 59 = .ok (.iload_n 2, 1) := by decide +kernel
theorem qd_90_60 : decode qm90.2.2.1 60 = .ok (.invokestatic 19, 3) := by decide +kernel
theorem qd_90_63 : decode qm90.2.2.1 63 = .ok (.istore 4, 2) := by decide +kernel
theorem qd_90_65 : decode qm90.2.2.1 65 = .ok (.iinc 5 1, 3) := by decide +kernel
theorem qd_90_68 : decode qm90.2.2.1 68 = .ok (.goto (-58), 3) := by decide +kernel
theorem qd_90_71 : decode qm90.2.2.1 71 = .ok (.iload_n 3, 1) := by decide +kernel
theorem qd_90_72 : decode qm90.2.2.1 72 = .ok (.ireturn, 1) := by decide +kernel
theorem qd_91_0 : decode qm91.2.2.1 0 = .ok (.aload_n 0, 1) := by decide +kernel
theorem qd_91_1 : decode qm91.2.2.1 1 = .ok (.bipush (-2), 2) := by decide +kernel
theorem qd_91_3 : decode qm91.2.2.1 3 = .ok (.putfield 37, 3) := by decide +kernel
theorem qd_91_6 : decode qm91.2.2.1 6 = .ok (.aload_n 0, 1) := by decide +kernel
theorem qd_91_7 : decode qm91.2.2.1 7 = .ok (.bipush (-2), 2) := by decide +kernel
theorem qd_91_9 : decode qm91.2.2.1 9 = .ok (.putfield 41, 3) := by decide +kernel
theorem qd_91_12 : decode qm91.2.2.1 12 = .ok (.aload_n 0, 1) := by decide +kernel
theorem qd_91_13 : decode qm91.2.2.1 13 = .ok (.bipush (-2), 2) := by decide +kernel
theorem qd_91_15 : decode qm91.2.2.1 15 = .ok (.putfield 44, 3) := by decide +kernel
theorem qd_91_18 : decode qm91.2.2.1 18 = .ok (.aload_n 0, 1) := by decide +kernel
theorem qd_91_19 : decode qm91.2.2.1 19 = .ok (.getfield 24, 3) := by decide +kernel
theorem qd_91_22 : decode qm91.2.2.1 22 = .ok (.invokevirtual 47, 3) := by decide +kernel
theorem qd_91_25 : decode qm91.2.2.1 25 = .ok (.aload_n 0, 1) := by decide +kernel
theorem qd_91_26 : decode qm91.2.2.1 26 = .ok (.getfield 28, 3) := by decide +kernel
theorem qd_91_29 : decode qm91.2.2.1 29 = .ok (.invokevirtual 47, 3) := by decide +kernel
theorem qd_91_32 : decode qm91.2.2.1 32 = .ok (.aload_n 0, 1) := by decide +kernel
theorem qd_91_33 : decode qm91.2.2.1 33 = .ok (.getfield 31, 3) := by decide +kernel
theorem qd_91_36 : decode qm91.2.2.1 36 = .ok (.invokevirtual 47, 3) := by decide +kernel
theorem qd_91_39 : decode qm91.2.2.1 39 = .ok (.aload_n 0, 1) := by decide +kernel
theorem qd_91_40 : decode qm91.2.2.1 40 = .ok (.getfield 34, 3) := by decide +kernel
theorem qd_91_43 : decode qm91.2.2.1 43 = .ok (.invokevirtual 47, 3) := by decide +kernel
theorem qd_91_46 : decode qm91.2.2.1 46 = .ok (.aload_n 0, 1) := by decide +kernel
theorem qd_91_47 : decode qm91.2.2.1 47 = .ok (.iconst 3, 1) := by decide +kernel
theorem qd_91_48 : decode qm91.2.2.1 48 = .ok (.bipush (-2), 2) := by decide +kernel
theorem qd_91_50 : decode qm91.2.2.1 50 = .ok (.invokevirtual 52, 3) := by decide +kernel
theorem qd_91_53 : decode qm91.2.2.1 53 = .ok (.pop, 1) := by decide +kernel
theorem qd_91_54 : decode qm91.2.2.1 54 = .ok (.return_, 1) := by decide +kernel
theorem qd_92_0 : decode qm92.2.2.1 0 = .ok (.aload_n 0, 1) := by decide +kernel
theorem qd_92_1 : decode qm92.2.2.1 1 = .ok (.aload_n 0, 1) := by decide +kernel
theorem qd_92_2 : decode qm92.2.2.1 2 = .ok (.getfield 19, 3) := by decide +kernel
theorem qd_92_5 : decode qm92.2.2.1 5 = .ok (.aload_n 0, 1) := by decide +kernel
theorem qd_92_6 : decode qm92.2.2.1 6 = .ok (.getfield 15, 3) := by decide +kernel
theorem qd_92_9 : decode qm92.2.2.1 9 = .ok (.if_icmp .ne 7, 3) := by decide +kernel
theorem qd_92_12 : decode qm92.2.2.1 12 = .ok (.iconst 1, 1) := by decide +kernel
theorem qd_92_13 : decode qm92.2.2.1 13 = .ok (.goto 4, 3) := by decide +kernel
theorem qd_92_16 : decode qm92.2.2.1 16 = .ok (.iconst 0, 1) := by decide +kernel
theorem qd_92_17 : decode qm92.2.2.1 17 = .ok (.aload_n 0, 1) := by decide +kernel
theorem qd_92_18 : decode qm92.2.2.1 18 = .ok (.getfield 19, 3) := by decide +kernel
theorem qd_92_21 : decode qm92.2.2.1 21 = .ok (.invokevirtual 31, 3) := by decide +kernel
theorem qd_92_24 : decode qm92.2.2.1 24 = .ok (.return_, 1) := by decide +kernel
theorem qd_93_0 : decode qm93.2.2.1 0 = .ok (.iconst 1, 1) := by decide +kernel
theorem qd_93_1 : decode qm93.2.2.1 1 = .ok (.istore_n 2, 1) := by decide +kernel
theorem qd_93_2 : decode qm93.2.2.1 2 = .ok (.iload_n 2, 1) := by decide +kernel
theorem qd_93_3 : decode qm93.2.2.1 3 = .ok (.aload_n 0, 1) := by decide +kernel
theorem qd_93_4 : decode qm93.2.2.1 4 = .ok (.getfield 15, 3) := by decide +kernel
theorem qd_93_7 : decode qm93.2.2.1 7 = .ok (.getfield 19, 3) := by decide +kernel
theorem qd_93_10 : decode qm93.2.2.1 10 = .ok (.invokevirtual 25, 3) := by decide +kernel
theorem qd_93_13 : decode qm93.2.2.1 13 = .ok (.if_icmp .ge 81, 3) := by decide +kernel
theorem qd_93_16 : decode qm93.2.2.1 16 = .ok (.aload_n 0, 1) := by decide +kernel
theorem qd_93_17 : decode qm93.2.2.1 17 = .ok (.getfield 15, 3) := by decide +kernel
theorem qd_93_20 : decode qm93.2.2.1 20 = .ok (.iload_n 2, 1) := by decide +kernel
theorem qd_93_21 : decode qm93.2.2.1 21 = .ok (.invokevirtual 45, 3) := by decide +kernel
theorem qd_93_24 : decode qm93.2.2.1 24 = .ok (.bipush 17, 2) := by decide +kernel
theorem qd_93_26 : decode qm93.2.2.1 26 = .ok (.if_icmp .eq 16, 3) := by decide +kernel
theorem qd_93_29 : decode qm93.2.2.1 29 = .ok (.aload_n 0, 1) := by decide +kernel
theorem qd_93_30 : decode qm93.2.2.1 30 = .ok (.getfield 15, 3) := by decide +kernel
theorem qd_93_33 : decode qm93.2.2.1 33 = .ok (.iload_n 2, 1) := by decide +kernel
theorem qd_93_34 : decode qm93.2.2.1 34 = .ok (.invokevirtual 45, 3) := by decide +kernel
theorem qd_93_37 : decode qm93.2.2.1 37 = .ok (.bipush 18, 2) := by decide +kernel
theorem qd_93_39 : decode qm93.2.2.1 39 = .ok (.if_icmp .ne 7, 3) := by decide +kernel
theorem qd_93_42 : decode qm93.2.2.1 42 = .ok (.iconst 1, 1) := by decide +kernel
theorem qd_93_43 : decode qm93.2.2.1 43 = .ok (.goto 4, 3) := by decide +kernel
theorem qd_93_46 : decode qm93.2.2.1 46 = .ok (.iconst 0, 1) := by decide +kernel
theorem qd_93_47 : decode qm93.2.2.1 47 = .ok (.istore_n 3, 1) := by decide +kernel
theorem qd_93_48 : decode qm93.2.2.1 48 = .ok (.aload_n 0, 1) := by decide +kernel
theorem qd_93_49 : decode qm93.2.2.1 49 = .ok (.getfield 9, 3) := by decide +kernel
theorem qd_93_52 : decode qm93.2.2.1 52 = .ok (.iload_n 3, 1) := by decide +kernel
theorem qd_93_53 : decode qm93.2.2.1 53 = .ok (.ifCond .eq 15, 3) := by decide +kernel
theorem qd_93_56 : decode qm93.2.2.1 56 = .ok (.aload_n 0, 1) := by decide +kernel
theorem qd_93_57 : decode qm93.2.2.1 57 = .ok (.getfield 15, 3) := by decide +kernel
theorem qd_93_60 : decode qm93.2.2.1 60 = .ok (.iload_n 2, 1) := by decide +kernel
theorem qd_93_61 : decode qm93.2.2.1 61 = .ok (.invokevirtual 49, 3) := by decide +kernel
theorem qd_93_64 : decode qm93.2.2.1 64 = .ok (.iload_n 1, 1) := by decide +kernel
theorem qd_93_65 : decode qm93.2.2.1 65 = .ok (.if_icmp .ge 7, 3) := by decide +kernel
theorem qd_93_68 : decode qm93.2.2.1 68 = .ok (.iconst 1, 1) := by decide +kernel
theorem qd_93_69 : decode qm93.2.2.1 69 = .ok (.goto 4, 3) := by decide +kernel
theorem qd_93_72 : decode qm93.2.2.1 72 = .ok (.iconst 0, 1) := by decide +kernel
theorem qd_93_73 : decode qm93.2.2.1 73 = .ok (.aload_n 0, 1) := by decide +kernel
theorem qd_93_74 : decode qm93.2.2.1 74 = .ok (.getfield 15, 3) := by decide +kernel
theorem qd_93_77 : decode qm93.2.2.1 77 = .ok (.getfield 19, 3) := by decide +kernel
theorem qd_93_80 : decode qm93.2.2.1 80 = .ok (.iload_n 2, 1) := by decide +kernel
theorem qd_93_81 : decode qm93.2.2.1 81 = .ok (.iconst 3, 1) := by decide +kernel
theorem qd_93_82 : decode qm93.2.2.1 82 = .ok (.invokevirtual 35, 3) := by decide +kernel
theorem qd_93_85 : decode qm93.2.2.1 85 = .ok (.invokevirtual 39, 3) := by decide +kernel
theorem qd_93_88 : decode qm93.2.2.1 88 = .ok (.iinc 2 1, 3) := by decide +kernel
theorem qd_93_91 : decode qm93.2.2.1 91 = .ok (.goto (-89), 3) := by decide +kernel
theorem qd_93_94 : decode qm93.2.2.1 94 = .ok (.return_, 1) := by decide +kernel
theorem qd_94_0 : decode qm94.2.2.1 0 = .ok (.aload_n 0, 1) := by decide +kernel
theorem qd_94_1 : decode qm94.2.2.1 1 = .ok (.invokevirtual 125, 3) := by decide +kernel
theorem qd_94_4 : decode qm94.2.2.1 4 = .ok (.iload_n 2, 1) := by decide +kernel
theorem qd_94_5 : decode qm94.2.2.1 5 = .ok (.ifCond .lt 8, 3) := by decide +kernel
theorem qd_94_8 : decode qm94.2.2.1 8 = .ok (.iload_n 2, 1) := by decide +kernel
theorem qd_94_9 : decode qm94.2.2.1 9 = .ok (.iconst 3, 1) := by decide +kernel
theorem qd_94_10 : decode qm94.2.2.1 10 = .ok (.if_icmp .le 5, 3) := by decide +kernel
theorem qd_94_13 : decode qm94.2.2.1 13 = .ok (.iconst (-1), 1) := by decide +kernel
theorem qd_94_14 : decode qm94.2.2.1 14 = .ok (.ireturn, 1) := by decide +kernel
theorem qd_94_15 : decode qm94.2.2.1 15 = .ok (.aload_n 0, 1) := by decide +kernel
theorem qd_94_16 : decode qm94.2.2.1 16 = .ok (.getfield 21, 3) := by decide +kernel
theorem qd_94_19 : decode qm94.2.2.1 19 = .ok (.iload_n 1, 1) := by decide +kernel
theorem qd_94_20 : decode qm94.2.2.1 20 = .ok (.invokevirtual 128, 3) := by decide +kernel
theorem qd_94_23 : decode qm94.2.2.1 23 = .ok (.ifCond .eq 18, 3) := by decide +kernel
theorem qd_94_26 : decode qm94.2.2.1 26 = .ok (.aload_n 0, 1) := by decide +kernel
theorem qd_94_27 : decode qm94.2.2.1 27 = .ok (.getfield 21, 3) := by decide +kernel
theorem qd_94_30 : decode qm94.2.2.1 30 = .ok (.getfield 119, 3) := by decide +kernel
theorem qd_94_33 : decode qm94.2.2.1 33 = .ok (.iload_n 1, 1) := by decide +kernel
theorem qd_94_34 : decode qm94.2.2.1 34 = .ok (.iload_n 2, 1) := by decide +kernel
theorem qd_94_35 : decode qm94.2.2.1 35 = .ok (.invokevirtual 132, 3) := by decide +kernel
theorem qd_94_38 : decode qm94.2.2.1 38 = .ok (.goto 5, 3) := by decide +kernel
theorem qd_94_41 : decode qm94.2.2.1 41 = .ok (.bipush (-2), 2) := by decide +kernel
theorem qd_94_43 : decode qm94.2.2.1 43 = .ok (.ireturn, 1) := by decide +kernel
theorem qd_95_0 : decode qm95.2.2.1 0 = .ok (.aload_n 0, 1) := by decide +kernel
theorem qd_95_1 : decode qm95.2.2.1 1 = .ok (.getfield 59, 3) := by decide +kernel
theorem qd_95_4 : decode qm95.2.2.1 4 = .ok (.ifCond .ne 11, 3) := by decide +kernel
theorem qd_95_7 : decode qm95.2.2.1 7 = .ok (.new 217, 3) := by decide +kernel
theorem qd_95_15 : decode qm95.2.2.1 15 = .ok (.return_, 1) := by decide +kernel
theorem qd_96_0 : decode qm96.2.2.1 0 = .ok (.aload_n 0, 1) := by decide +kernel
theorem qd_96_1 : decode qm96.2.2.1 1 = .ok (.getfield 20, 3) := by decide +kernel
theorem qd_96_4 : decode qm96.2.2.1 4 = .ok (.iload_n 1, 1) := by decide +kernel
theorem qd_96_5 : decode qm96.2.2.1 5 = .ok (.iconst 0, 1) := by decide +kernel
theorem qd_96_6 : decode qm96.2.2.1 6 = .ok (.invokevirtual 93, 3) := by decide +kernel
theorem qd_96_9 : decode qm96.2.2.1 9 = .ok (.ifCond .le 7, 3) := by decide +kernel
theorem qd_96_12 : decode qm96.2.2.1 12 = .ok (.iconst 1, 1) := by decide +kernel
theorem qd_96_13 : decode qm96.2.2.1 13 = .ok (.goto 4, 3) := by decide +kernel
theorem qd_96_16 : decode qm96.2.2.1 16 = .ok (.iconst 0, 1) := by decide +kernel
theorem qd_96_17 : decode qm96.2.2.1 17 = .ok (.ireturn, 1) := by decide +kernel
theorem qd_97_0 : decode qm97.2.2.1 0 = .ok (.aload_n 0, 1) := by decide +kernel
theorem qd_97_1 : decode qm97.2.2.1 1 = .ok (.invokevirtual 125, 3) := by decide +kernel
theorem qd_97_4 : decode qm97.2.2.1 4 = .ok (.aload_n 0, 1) := by decide +kernel
theorem qd_97_5 : decode qm97.2.2.1 5 = .ok (.getfield 21, 3) := by decide +kernel
theorem qd_97_8 : decode qm97.2.2.1 8 = .ok (.iload_n 1, 1) := by decide +kernel
theorem qd_97_9 : decode qm97.2.2.1 9 = .ok (.invokevirtual 136, 3) := by decide +kernel
theorem qd_97_12 : decode qm97.2.2.1 12 = .ok (.tableswitch 76 3 6 #[32, 52, 42, 64], 32) := by decide +kernel
theorem qd_97_44 : decode qm97.2.2.1 44 = .ok (.aload_n 0, 1) := by decide +kernel
theorem qd_97_45 : decode qm97.2.2.1 45 = .ok (.getfield 21, 3) := by decide +kernel
theorem qd_97_48 : decode qm97.2.2.1 48 = .ok (.iload_n 1, 1) := by decide +kernel
theorem qd_97_49 : decode qm97.2.2.1 49 = .ok (.invokevirtual 139, 3) := by decide +kernel
theorem qd_97_52 : decode qm97.2.2.1 52 = .ok (.i2d, 1) := by decide +kernel
theorem qd_97_53 : decode qm97.2.2.1 53 = .ok (.dreturn, 1) := by decide +kernel
theorem qd_97_54 : decode qm97.2.2.1 54 = .ok (.aload_n 0, 1) := by decide +kernel
theorem qd_97_55 : decode qm97.2.2.1 55 = .ok (.getfield 21, 3) := by decide +kernel
theorem qd_97_58 : decode qm97.2.2.1 58 = .ok (.iload_n 1, 1) := by decide +kernel
theorem qd_97_59 : decode qm97.2.2.1 59 = .ok (.invokevirtual 142, 3) := by decide +kernel
theorem qd_97_62 : decode qm97.2.2.1 62 = .ok (.l2d, 1) := by decide +kernel
theorem qd_97_63 : decode qm97.2.2.1 63 = .ok (.dreturn, 1) := by decide +kernel
theorem qd_97_64 : decode qm97.2.2.1 64 = .ok (.aload_n 0, 1) := by decide +kernel
theorem qd_97_65 : decode qm97.2.2.1 65 = .ok (.getfield 21, 3) := by decide +kernel
theorem qd_97_68 : decode qm97.2.2.1 68 = .ok (.iload_n 1, 1) := by decide +kernel
theorem qd_97_69 : decode qm97.2.2.1 69 = .ok (.invokevirtual 139, 3) := by decide +kernel
theorem qd_97_72 : decode qm97.2.2.1 72 = .ok (.invokestatic 146, 3) := by decide +kernel
theorem qd_97_75 : decode qm97.2.2.1 75 = .ok (.dreturn, 1) := by decide +kernel
theorem qd_97_76 : decode qm97.2.2.1 76 = .ok (.aload_n 0, 1) := by decide +kernel
theorem qd_97_77 : decode qm97.2.2.1 77 = .ok (.getfield 21, 3) := by decide +kernel
theorem qd_97_80 : decode qm97.2.2.1 80 = .ok (.iload_n 1, 1) := by decide +kernel
theorem qd_97_81 : decode qm97.2.2.1 81 = .ok (.invokevirtual 142, 3) := by decide +kernel
theorem qd_97_84 : decode qm97.2.2.1 84 = .ok (.invokestatic 152, 3) := by decide +kernel
theorem qd_97_87 : decode qm97.2.2.1 87 = .ok (.dreturn, 1) := by decide +kernel
theorem qd_97_88 : decode qm97.2.2.1 88 = .ok (.ldc2_w 156, 3) := by decide +kernel
theorem qd_97_91 : decode qm97.2.2.1 91 = .ok (.dreturn, 1) := by decide +kernel
theorem qd_98_0 : decode qm98.2.2.1 0 = .ok (.aload_n 0, 1) := by decide +kernel
theorem qd_98_1 : decode qm98.2.2.1 1 = .ok (.iload_n 1, 1) := by decide +kernel
theorem qd_98_2 : decode qm98.2.2.1 2 = .ok (.invokevirtual 101, 3) := by decide +kernel
theorem qd_98_5 : decode qm98.2.2.1 5 = .ok (.i2l, 1) := by decide +kernel
theorem qd_98_6 : decode qm98.2.2.1 6 = .ok (.bipush 32, 2) := by decide +kernel
theorem qd_98_8 : decode qm98.2.2.1 8 = .ok (.lshl, 1) := by decide +kernel
theorem qd_98_9 : decode qm98.2.2.1 9 = .ok (.aload_n 0, 1) := by decide +kernel
theorem qd_98_10 : decode qm98.2.2.1 10 = .ok (.iload_n 1, 1) := by decide +kernel
theorem qd_98_11 : decode qm98.2.2.1 11 = .ok (.invokevirtual 104, 3) := by decide +kernel
theorem qd_98_14 : decode qm98.2.2.1 14 = .ok (.i2l, 1) := by decide +kernel
theorem qd_98_15 : decode qm98.2.2.1 15 = .ok (.ldc2_w 107, 3) := by decide +kernel
theorem qd_98_18 : decode qm98.2.2.1 18 = .ok (.land, 1) := by decide +kernel
theorem qd_98_19 : decode qm98.2.2.1 19 = .ok (.lor, 1) := by decide +kernel
theorem qd_98_20 : decode qm98.2.2.1 20 = .ok (.lreturn, 1) := by decide +kernel
theorem qd_99_0 : decode qm99.2.2.1 0 = .ok (.iload_n 0, 1) := by decide +kernel
theorem qd_99_1 : decode qm99.2.2.1 1 = .ok (.bipush 23, 2) := by decide +kernel
theorem qd_99_3 : decode qm99.2.2.1 3 = .ok (.iushr, 1) := by decide +kernel
theorem qd_99_4 : decode qm99.2.2.1 4 = .ok (.sipush 255, 3) := by decide +kernel
theorem qd_99_7 : decode qm99.2.2.1 7 = .ok (.iand, 1) := by decide +kernel
theorem qd_99_8 : decode qm99.2.2.1 8 = .ok (.istore_n 1, 1) := by decide +kernel
theorem qd_99_9 : decode qm99.2.2.1 9 = .ok (.iload_n 1, 1) := by decide +kernel
theorem qd_99_10 : decode qm99.2.2.1 10 = .ok (.sipush 255, 3) := by decide +kernel
theorem qd_99_13 : decode qm99.2.2.1 13 = .ok (.if_icmp .ge 7, 3) := by decide +kernel
theorem qd_99_16 : decode qm99.2.2.1 16 = .ok (.iconst 1, 1) := by decide +kernel
theorem qd_99_17 : decode qm99.2.2.1 17 = .ok (.goto 4, 3) := by decide +kernel
theorem qd_99_20 : decode qm99.2.2.1 20 = .ok (.iconst 0, 1) := by decide +kernel
theorem qd_99_21 : decode qm99.2.2.1 21 = .ok (.invokestatic 7, 3) := by decide +kernel
theorem qd_99_24 : decode qm99.2.2.1 24 = .ok (.iload_n 0, 1) := by decide +kernel
theorem qd_99_25 : decode qm99.2.2.1 25 = .ok (.ldc 13, 2) := by decide +kernel
theorem qd_99_27 : decode qm99.2.2.1 27 = .ok (.iand, 1) := by decide +kernel
theorem qd_99_28 : decode qm99.2.2.1 28 = .ok (.i2l, 1) := by decide +kernel
theorem qd_99_29 : decode qm99.2.2.1 29 = .ok (.lstore_n 2, 1) := by decide +kernel
theorem qd_99_30 : decode qm99.2.2.1 30 = .ok (.iload_n 1, 1) := by decide +kernel
theorem qd_99_31 : decode qm99.2.2.1 31 = .ok (.ifCond .ne 13, 3) := by decide +kernel
theorem qd_99_34 : decode qm99.2.2.1 34 = .ok (.lload_n 2, 1) := by decide +kernel
theorem qd_99_35 : decode qm99.2.2.1 35 = .ok (.sipush (-149), 3) := by decide +kernel
theorem qd_99_38 : decode qm99.2.2.1 38 = .ok (.invokestatic 14, 3) := by decide +kernel
theorem qd_99_41 : decode qm99.2.2.1 41 = .ok (.goto 16, 3) := by decide +kernel
theorem qd_99_44 : decode qm99.2.2.1 44 = .ok (.lload_n 2, 1) := by decide +kernel
theorem qd_99_45 : decode qm99.2.2.1 45 = .ok (.ldc2_w 18, 3) := by decide +kernel
theorem qd_99_48 : decode qm99.2.2.1 48 = .ok (.lor, 1) := by decide +kernel
theorem qd_99_49 : decode qm99.2.2.1 49 = .ok (.iload_n 1, 1) := by decide +kernel
theorem qd_99_50 : decode qm99.2.2.1 50 = .ok (.sipush 150, 3) := by decide +kernel
theorem qd_99_53 : decode qm99.2.2.1 53 = .ok (.isub, 1) := by decide +kernel
theorem qd_99_54 : decode qm99.2.2.1 54 = .ok (.invokestatic 14, 3) := by decide +kernel
theorem qd_99_57 : decode qm99.2.2.1 57 = .ok (.dstore 4, 2) := by decide +kernel
theorem qd_99_59 : decode qm99.2.2.1 59 = .ok (.iload_n 0, 1) := by decide +kernel
theorem qd_99_60 : decode qm99.2.2.1 60 = .ok (.ifCond .ge 9, 3) := by decide +kernel
theorem qd_99_63 : decode qm99.2.2.1 63 = .ok (.dload 4, 2) := by decide +kernel
theorem qd_99_65 : decode qm99.2.2.1 65 = .ok (.dneg, 1) := by decide +kernel
theorem qd_99_66 : decode qm99.2.2.1 66 = .ok (.goto 5, 3) := by decide +kernel
theorem qd_99_69 : decode qm99.2.2.1 69 = .ok (.dload 4, 2) := by decide +kernel
theorem qd_99_71 : decode qm99.2.2.1 71 = .ok (.dreturn, 1) := by decide +kernel
theorem qd_100_0 : decode qm100.2.2.1 0 = .ok (.iload_n 0, 1) := by decide +kernel
theorem qd_100_1 : decode qm100.2.2.1 1 = .ok (.ifCond .ne 11, 3) := by decide +kernel
theorem qd_100_4 : decode qm100.2.2.1 4 = .ok (.new 24, 3) := by decide +kernel
theorem qd_100_12 : decode qm100.2.2.1 12 = .ok (.return_, 1) := by decide +kernel
theorem qd_101_0 : decode qm101.2.2.1 0 = .ok (.lload_n 0, 1) := by decide +kernel
theorem qd_101_1 : decode qm101.2.2.1 1 = .ok (.l2d, 1) := by decide +kernel
theorem qd_101_2 : decode qm101.2.2.1 2 = .ok (.dstore_n 3, 1) := by decide +kernel
theorem qd_101_3 : decode qm101.2.2.1 3 = .ok (.iload_n 2, 1) := by decide +kernel
theorem qd_101_4 : decode qm101.2.2.1 4 = .ok (.ifCond .ge 8, 3) := by decide +kernel
theorem qd_101_7 : decode qm101.2.2.1 7 = .ok (.iload_n 2, 1) := by decide +kernel
theorem qd_101_8 : decode qm101.2.2.1 8 = .ok (.ineg, 1) := by decide +kernel
theorem qd_101_9 : decode qm101.2.2.1 9 = .ok (.goto 4, 3) := by decide +kernel
theorem qd_101_12 : decode qm101.2.2.1 12 = .ok (.iload_n 2, 1) := by decide +kernel
theorem qd_101_13 : decode qm101.2.2.1 13 = .ok (.istore 5, 2) := by decide +kernel
theorem qd_101_15 : decode qm101.2.2.1 15 = .ok (.iload 5, 2) := by decide +kernel
theorem qd_101_17 : decode qm101.2.2.1 17 = .ok (.ifCond .le 44, 3) := by decide +kernel
theorem qd_101_20 : decode qm101.2.2.1 20 = .ok (.lconst 1, 1) := by decide +kernel
theorem qd_101_21 : decode qm101.2.2.1 21 = .ok (.iload 5, 2) := by decide +kernel
theorem qd_101_23 : decode qm101.2.2.1 23 = .ok (.bipush 30, 2) := by decide +kernel
theorem qd_101_25 : decode qm101.2.2.1 25 = .ok (.if_icmp .ge 8, 3) := by decide +kernel
theorem qd_101_28 : decode qm101.2.2.1 28 = .ok (.iload 5, 2) := by decide +kernel
theorem qd_101_30 : decode qm101.2.2.1 30 = .ok (.goto 5, 3) := by decide +kernel
theorem qd_101_33 : decode qm101.2.2.1 33 = .ok (.bipush 30, 2) := by decide +kernel
theorem qd_101_35 : decode qm101.2.2.1 35 = .ok (.lshl, 1) := by decide +kernel
theorem qd_101_36 : decode qm101.2.2.1 36 = .ok (.l2d, 1) := by decide +kernel
theorem qd_101_37 : decode qm101.2.2.1 37 = .ok (.dstore 6, 2) := by decide +kernel
theorem qd_101_39 : decode qm101.2.2.1 39 = .ok (.iload_n 2, 1) := by decide +kernel
theorem qd_101_40 : decode qm101.2.2.1 40 = .ok (.ifCond .ge 10, 3) := by decide +kernel
theorem qd_101_43 : decode qm101.2.2.1 43 = .ok (.dload_n 3, 1) := by decide +kernel
theorem qd_101_44 : decode qm101.2.2.1 44 = .ok (.dload 6, 2) := by decide +kernel
theorem qd_101_46 : decode qm101.2.2.1 46 = .ok (.ddiv, 1) := by decide +kernel
theorem qd_101_47 : decode qm101.2.2.1 47 = .ok (.goto 7, 3) := by decide +kernel
theorem qd_101_50 : decode qm101.2.2.1 50 = .ok (.dload_n 3, 1) := by decide +kernel
theorem qd_101_51 : decode qm101.2.2.1 51 = .ok (.dload 6, 2) := by decide +kernel
theorem qd_101_53 : decode qm101.2.2.1 53 = .ok (.dmul, 1) := by decide +kernel
theorem qd_101_54 : decode qm101.2.2.1 54 = .ok (.dstore_n 3, 1) := by decide +kernel
theorem qd_101_55 : decode qm101.2.2.1 55 = .ok (.iinc 5 (-30), 3) := by decide +kernel
theorem qd_101_58 : decode qm101.2.2.1 58 = .ok (.goto (-43), 3) := by decide +kernel
theorem qd_101_61 : decode qm101.2.2.1 61 = .ok (.dload_n 3, 1) := by decide +kernel
theorem qd_101_62 : decode qm101.2.2.1 62 = .ok (.dreturn, 1) := by decide +kernel
theorem qd_102_0 : decode qm102.2.2.1 0 = .ok (.lload_n 0, 1) := by decide +kernel
theorem qd_102_1 : decode qm102.2.2.1 1 = .ok (.bipush 52, 2) := by decide +kernel
theorem qd_102_3 : decode qm102.2.2.1 3 = .ok (.lushr, 1) := by decide +kernel
theorem qd_102_4 : decode qm102.2.2.1 4 = .ok (.l2i, 1) := by decide +kernel
theorem qd_102_5 : decode qm102.2.2.1 5 = .ok (.sipush 2047, 3) := by decide +kernel
theorem qd_102_8 : decode qm102.2.2.1 8 = .ok (.iand, 1) := by decide +kernel
theorem qd_102_9 : decode qm102.2.2.1 9 = .ok (.istore_n 2, 1) := by decide +kernel
theorem qd_102_10 : decode qm102.2.2.1 10 = .ok (.iload_n 2, 1) := by decide +kernel
theorem qd_102_11 : decode qm102.2.2.1 11 = .ok (.sipush 2047, 3) := by decide +kernel
theorem qd_102_14 : decode qm102.2.2.1 14 = .ok (.if_icmp .ge 7, 3) := by decide +kernel
theorem qd_102_17 : decode qm102.2.2.1 17 = .ok (.iconst 1, 1) := by decide +kernel
theorem qd_102_18 : decode qm102.2.2.1 18 = .ok (.goto 4, 3) := by decide +kernel
theorem qd_102_21 : decode qm102.2.2.1 21 = .ok (.iconst 0, 1) := by decide +kernel
theorem qd_102_22 : decode qm102.2.2.1 22 = .ok (.invokestatic 7, 3) := by decide +kernel
theorem qd_102_25 : decode qm102.2.2.1 25 = .ok (.lload_n 0, 1) := by decide +kernel
theorem qd_102_26 : decode qm102.2.2.1 26 = .ok (.ldc2_w 20, 3) := by decide +kernel
theorem qd_102_29 : decode qm102.2.2.1 29 = .ok (.land, 1) := by decide +kernel
theorem qd_102_30 : decode qm102.2.2.1 30 = .ok (.lstore_n 3, 1) := by decide +kernel
theorem qd_102_31 : decode qm102.2.2.1 31 = .ok (.iload_n 2, 1) := by decide +kernel
theorem qd_102_32 : decode qm102.2.2.1 32 = .ok (.ifCond .ne 13, 3) := by decide +kernel
theorem qd_102_35 : decode qm102.2.2.1 35 = .ok (.lload_n 3, 1) := by decide +kernel
theorem qd_102_36 : decode qm102.2.2.1 36 = .ok (.sipush (-1074), 3) := by decide +kernel
theorem qd_102_39 : decode qm102.2.2.1 39 = .ok (.invokestatic 14, 3) := by decide +kernel
theorem qd_102_42 : decode qm102.2.2.1 42 = .ok (.goto 16, 3) := by decide +kernel
theorem qd_102_45 : decode qm102.2.2.1 45 = .ok (.lload_n 3, 1) := by decide +kernel
theorem qd_102_46 : decode qm102.2.2.1 46 = .ok (.ldc2_w 22, 3) := by decide +kernel
theorem qd_102_49 : decode qm102.2.2.1 49 = .ok (.lor, 1) := by decide +kernel
theorem qd_102_50 : decode qm102.2.2.1 50 = .ok (.iload_n 2, 1) := by decide +kernel
theorem qd_102_51 : decode qm102.2.2.1 51 = .ok (.sipush 1075, 3) := by decide +kernel
theorem qd_102_54 : decode qm102.2.2.1 54 = .ok (.isub, 1) := by decide +kernel
theorem qd_102_55 : decode qm102.2.2.1 55 = .ok (.invokestatic 14, 3) := by decide +kernel
theorem qd_102_58 : decode qm102.2.2.1 58 = .ok (.dstore 5, 2) := by decide +kernel
theorem qd_102_60 : decode qm102.2.2.1 60 = .ok (.lload_n 0, 1) := by decide +kernel
theorem qd_102_61 : decode qm102.2.2.1 61 = .ok (.lconst 0, 1) := by decide +kernel
theorem qd_102_62 : decode qm102.2.2.1 62 = .ok (.lcmp, 1) := by decide +kernel
theorem qd_102_63 : decode qm102.2.2.1 63 = .ok (.ifCond .ge 9, 3) := by decide +kernel
theorem qd_102_66 : decode qm102.2.2.1 66 = .ok (.dload 5, 2) := by decide +kernel
theorem qd_102_68 : decode qm102.2.2.1 68 = .ok (.dneg, 1) := by decide +kernel
theorem qd_102_69 : decode qm102.2.2.1 69 = .ok (.goto 5, 3) := by decide +kernel
theorem qd_102_72 : decode qm102.2.2.1 72 = .ok (.dload 5, 2) := by decide +kernel
theorem qd_102_74 : decode qm102.2.2.1 74 = .ok (.dreturn, 1) := by decide +kernel
theorem qd_103_0 : decode qm103.2.2.1 0 = .ok (.aload_n 0, 1) := by decide +kernel
theorem qd_103_1 : decode qm103.2.2.1 1 = .ok (.invokevirtual 125, 3) := by decide +kernel
theorem qd_103_4 : decode qm103.2.2.1 4 = .ok (.aload_n 0, 1) := by decide +kernel
theorem qd_103_5 : decode qm103.2.2.1 5 = .ok (.getfield 21, 3) := by decide +kernel
theorem qd_103_8 : decode qm103.2.2.1 8 = .ok (.aload_n 0, 1) := by decide +kernel
theorem qd_103_9 : decode qm103.2.2.1 9 = .ok (.getfield 21, 3) := by decide +kernel
theorem qd_103_12 : decode qm103.2.2.1 12 = .ok (.iload_n 1, 1) := by decide +kernel
theorem qd_103_13 : decode qm103.2.2.1 13 = .ok (.invokevirtual 158, 3) := by decide +kernel
theorem qd_103_16 : decode qm103.2.2.1 16 = .ok (.iload_n 2, 1) := by decide +kernel
theorem qd_103_17 : decode qm103.2.2.1 17 = .ok (.invokevirtual 161, 3) := by decide +kernel
theorem qd_103_20 : decode qm103.2.2.1 20 = .ok (.ireturn, 1) := by decide +kernel
theorem qd_104_0 : decode qm104.2.2.1 0 = .ok (.aload_n 0, 1) := by decide +kernel
theorem qd_104_1 : decode qm104.2.2.1 1 = .ok (.iload_n 1, 1) := by decide +kernel
theorem qd_104_2 : decode qm104.2.2.1 2 = .ok (.invokevirtual 78, 3) := by decide +kernel
theorem qd_104_5 : decode qm104.2.2.1 5 = .ok (.lookupswitch 51 #[(1, 43), (7, 45), (8, 45), (16, 45)], 43) := by decide +kernel
theorem qd_104_48 : decode qm104.2.2.1 48 = .ok (.iload_n 1, 1) := by decide +kernel
theorem qd_104_49 : decode qm104.2.2.1 49 = .ok (.ireturn, 1) := by decide +kernel
theorem qd_104_50 : decode qm104.2.2.1 50 = .ok (.aload_n 0, 1) := by decide +kernel
theorem qd_104_51 : decode qm104.2.2.1 51 = .ok (.iload_n 1, 1) := by decide +kernel
theorem qd_104_52 : decode qm104.2.2.1 52 = .ok (.invokevirtual 101, 3) := by decide +kernel
theorem qd_104_55 : decode qm104.2.2.1 55 = .ok (.ireturn, 1) := by decide +kernel
theorem qd_104_56 : decode qm104.2.2.1 56 = .ok (.bipush (-2), 2) := by decide +kernel
theorem qd_104_58 : decode qm104.2.2.1 58 = .ok (.ireturn, 1) := by decide +kernel
theorem qd_105_0 : decode qm105.2.2.1 0 = .ok (.aload_n 0, 1) := by decide +kernel
theorem qd_105_1 : decode qm105.2.2.1 1 = .ok (.invokevirtual 125, 3) := by decide +kernel
theorem qd_105_4 : decode qm105.2.2.1 4 = .ok (.aload_n 0, 1) := by decide +kernel
theorem qd_105_5 : decode qm105.2.2.1 5 = .ok (.getfield 21, 3) := by decide +kernel
theorem qd_105_8 : decode qm105.2.2.1 8 = .ok (.iload_n 1, 1) := by decide +kernel
theorem qd_105_9 : decode qm105.2.2.1 9 = .ok (.invokevirtual 128, 3) := by decide +kernel
theorem qd_105_12 : decode qm105.2.2.1 12 = .ok (.ifCond .eq 15, 3) := by decide +kernel
theorem qd_105_15 : decode qm105.2.2.1 15 = .ok (.aload_n 0, 1) := by decide +kernel
theorem qd_105_16 : decode qm105.2.2.1 16 = .ok (.getfield 55, 3) := by decide +kernel
theorem qd_105_19 : decode qm105.2.2.1 19 = .ok (.iload_n 1, 1) := by decide +kernel
theorem qd_105_20 : decode qm105.2.2.1 20 = .ok (.iload_n 2, 1) := by decide +kernel
theorem qd_105_21 : decode qm105.2.2.1 21 = .ok (.invokevirtual 164, 3) := by decide +kernel
theorem qd_105_24 : decode qm105.2.2.1 24 = .ok (.goto 5, 3) := by decide +kernel
theorem qd_105_27 : decode qm105.2.2.1 27 = .ok (.bipush (-2), 2) := by decide +kernel
theorem qd_105_29 : decode qm105.2.2.1 29 = .ok (.ireturn, 1) := by decide +kernel
theorem qd_106_0 : decode qm106.2.2.1 0 = .ok (.aload_n 0, 1) := by decide +kernel
theorem qd_106_1 : decode qm106.2.2.1 1 = .ok (.iload_n 2, 1) := by decide +kernel
theorem qd_106_2 : decode qm106.2.2.1 2 = .ok (.putfield 15, 3) := by decide +kernel
theorem qd_106_5 : decode qm106.2.2.1 5 = .ok (.aload_n 0, 1) := by decide +kernel
theorem qd_106_6 : decode qm106.2.2.1 6 = .ok (.iconst 0, 1) := by decide +kernel
theorem qd_106_7 : decode qm106.2.2.1 7 = .ok (.putfield 19, 3) := by decide +kernel
theorem qd_106_10 : decode qm106.2.2.1 10 = .ok (.aload_n 0, 1) := by decide +kernel
theorem qd_106_11 : decode qm106.2.2.1 11 = .ok (.bipush (-2), 2) := by decide +kernel
theorem qd_106_13 : decode qm106.2.2.1 13 = .ok (.putfield 22, 3) := by decide +kernel
theorem qd_106_16 : decode qm106.2.2.1 16 = .ok (.aload_n 0, 1) := by decide +kernel
theorem qd_106_17 : decode qm106.2.2.1 17 = .ok (.getfield 9, 3) := by decide +kernel
theorem qd_106_20 : decode qm106.2.2.1 20 = .ok (.iload_n 1, 1) := by decide +kernel
theorem qd_106_21 : decode qm106.2.2.1 21 = .ok (.invokevirtual 25, 3) := by decide +kernel
theorem qd_106_24 : decode qm106.2.2.1 24 = .ok (.tableswitch 123 7 16 #[56, 123, 100, 100, 100, 91, 123, 123, 123, 64], 56) := by decide +kernel
theorem qd_106_80 : decode qm106.2.2.1 80 = .ok (.aload_n 0, 1) := by decide +kernel
theorem qd_106_81 : decode qm106.2.2.1 81 = .ok (.iload_n 1, 1) := by decide +kernel
theorem qd_106_82 : decode qm106.2.2.1 82 = .ok (.invokevirtual 31, 3) := by decide +kernel
theorem qd_106_85 : decode qm106.2.2.1 85 = .ok (.goto 62, 3) := by decide +kernel
theorem qd_106_88 : decode qm106.2.2.1 88 = .ok (.aload_n 0, 1) := by decide +kernel
theorem qd_106_89 : decode qm106.2.2.1 89 = .ok (.aload_n 0, 1) := by decide +kernel
theorem qd_106_90 : decode qm106.2.2.1 90 = .ok (.getfield 9, 3) := by decide +kernel
theorem qd_106_93 : decode qm106.2.2.1 93 = .ok (.iload_n 1, 1) := by decide +kernel
theorem qd_106_94 : decode qm106.2.2.1 94 = .ok (.invokevirtual 35, 3) := by decide +kernel
theorem qd_106_97 : decode qm106.2.2.1 97 = .ok (.invokevirtual 38, 3) := by decide +kernel
theorem qd_106_100 : decode qm106.2.2.1 100 = .ok (.aload_n 0, 1) := by decide +kernel
theorem qd_106_101 : decode qm106.2.2.1 101 = .ok (.aload_n 0, 1) := by decide +kernel
theorem qd_106_102 : decode qm106.2.2.1 102 = .ok (.getfield 9, 3) := by decide +kernel
theorem qd_106_105 : decode qm106.2.2.1 105 = .ok (.iload_n 1, 1) := by decide +kernel
theorem qd_106_106 : decode qm106.2.2.1 106 = .ok (.invokevirtual 35, 3) := by decide +kernel
theorem qd_106_109 : decode qm106.2.2.1 109 = .ok (.invokevirtual 41, 3) := by decide +kernel
theorem qd_106_112 : decode qm106.2.2.1 112 = .ok (.goto 35, 3) := by decide +kernel
theorem qd_106_115 : decode qm106.2.2.1 115 = .ok (.aload_n 0, 1) := by decide +kernel
theorem qd_106_116 : decode qm106.2.2.1 116 = .ok (.iload_n 1, 1) := by decide +kernel
theorem qd_106_117 : decode qm106.2.2.1 117 = .ok (.iconst 0, 1) := by decide +kernel
theorem qd_106_118 : decode qm106.2.2.1 118 = .ok (.invokevirtual 44, 3) := by decide +kernel
theorem qd_106_121 : decode qm106.2.2.1 121 = .ok (.goto 26, 3) := by decide +kernel
theorem qd_106_124 : decode qm106.2.2.1 124 = .ok (.aload_n 0, 1) := by decide +kernel
theorem qd_106_125 : decode qm106.2.2.1 125 = .ok (.aload_n 0, 1) := by decide +kernel
theorem qd_106_126 : decode qm106.2.2.1 126 = .ok (.getfield 9, 3) := by decide +kernel
theorem qd_106_129 : decode qm106.2.2.1 129 = .ok (.iload_n 1, 1) := by decide +kernel
theorem qd_106_130 : decode qm106.2.2.1 130 = .ok (.invokevirtual 48, 3) := by decide +kernel
theorem qd_106_133 : decode qm106.2.2.1 133 = .ok (.aload_n 0, 1) := by decide +kernel
theorem qd_106_134 : decode qm106.2.2.1 134 = .ok (.getfield 9, 3) := by decide +kernel
theorem qd_106_137 : decode qm106.2.2.1 137 = .ok (.iload_n 1, 1) := by decide +kernel
theorem qd_106_138 : decode qm106.2.2.1 138 = .ok (.invokevirtual 35, 3) := by decide +kernel
theorem qd_106_141 : decode qm106.2.2.1 141 = .ok (.invokevirtual 44, 3) := by decide +kernel
theorem qd_106_144 : decode qm106.2.2.1 144 = .ok (.goto 3, 3) := by decide +kernel
theorem qd_106_147 : decode qm106.2.2.1 147 = .ok (.iload_n 2, 1) := by decide +kernel
theorem qd_106_148 : decode qm106.2.2.1 148 = .ok (.iconst (-1), 1) := by decide +kernel
theorem qd_106_149 : decode qm106.2.2.1 149 = .ok (.if_icmp .ne 10, 3) := by decide +kernel
theorem qd_106_152 : decode qm106.2.2.1 152 = .ok (.aload_n 0, 1) := by decide +kernel
theorem qd_106_153 : decode qm106.2.2.1 153 = .ok (.getfield 19, 3) := by decide +kernel
theorem qd_106_156 : decode qm106.2.2.1 156 = .ok (.goto 7, 3) := by decide +kernel
theorem qd_106_159 : decode qm106.2.2.1 159 = .ok (.aload_n 0, 1) := by decide +kernel
theorem qd_106_160 : decode qm106.2.2.1 160 = .ok (.getfield 22, 3) := by decide +kernel
theorem qd_106_163 : decode qm106.2.2.1 163 = .ok (.ireturn, 1) := by decide +kernel
theorem qd_107_0 : decode qm107.2.2.1 0 = .ok (.aload_n 0, 1) := by decide +kernel
theorem qd_107_1 : decode qm107.2.2.1 1 = .ok (.getfield 9, 3) := by decide +kernel
theorem qd_107_4 : decode qm107.2.2.1 4 = .ok (.iload_n 1, 1) := by decide +kernel
theorem qd_107_5 : decode qm107.2.2.1 5 = .ok (.invokevirtual 35, 3) := by decide +kernel
theorem qd_107_8 : decode qm107.2.2.1 8 = .ok (.istore_n 2, 1) := by decide +kernel
theorem qd_107_9 : decode qm107.2.2.1 9 = .ok (.aload_n 0, 1) := by decide +kernel
theorem qd_107_10 : decode qm107.2.2.1 10 = .ok (.getfield 9, 3) := by decide +kernel
theorem qd_107_13 : decode qm107.2.2.1 13 = .ok (.iload_n 2, 1) := by decide +kernel
theorem qd_107_14 : decode qm107.2.2.1 14 = .ok (.iconst 4, 1) := by decide +kernel
theorem qd_107_15 : decode qm107.2.2.1 15 = .ok (.invokevirtual 53, 3) := by decide +kernel
theorem qd_107_18 : decode qm107.2.2.1 18 = .ok (.ifCond .eq 26, 3) := by decide +kernel
theorem qd_107_21 : decode qm107.2.2.1 21 = .ok (.aload_n 0, 1) := by decide +kernel
theorem qd_107_22 : decode qm107.2.2.1 22 = .ok (.aload_n 0, 1) := by decide +kernel
theorem qd_107_23 : decode qm107.2.2.1 23 = .ok (.getfield 9, 3) := by decide +kernel
theorem qd_107_26 : decode qm107.2.2.1 26 = .ok (.iload_n 2, 1) := by decide +kernel
theorem qd_107_27 : decode qm107.2.2.1 27 = .ok (.invokevirtual 57, 3) := by decide +kernel
theorem qd_107_30 : decode qm107.2.2.1 30 = .ok (.aload_n 0, 1) := by decide +kernel
theorem qd_107_31 : decode qm107.2.2.1 31 = .ok (.getfield 9, 3) := by decide +kernel
theorem qd_107_34 : decode qm107.2.2.1 34 = .ok (.iload_n 2, 1) := by decide +kernel
theorem qd_107_35 : decode qm107.2.2.1 35 = .ok (.invokevirtual 60, 3) := by decide +kernel
theorem qd_107_38 : decode qm107.2.2.1 38 = .ok (.invokevirtual 73, 3) := by decide +kernel
theorem qd_107_41 : decode qm107.2.2.1 41 = .ok (.goto 24, 3) := by decide +kernel
theorem qd_107_44 : decode qm107.2.2.1 44 = .ok (.aload_n 0, 1) := by decide +kernel
theorem qd_107_45 : decode qm107.2.2.1 45 = .ok (.aload_n 0, 1) := by decide +kernel
theorem qd_107_46 : decode qm107.2.2.1 46 = .ok (.getfield 9, 3) := by decide +kernel
theorem qd_107_49 : decode qm107.2.2.1 49 = .ok (.iload_n 2, 1) := by decide +kernel
theorem qd_107_50 : decode qm107.2.2.1 50 = .ok (.invokevirtual 57, 3) := by decide +kernel
theorem qd_107_53 : decode qm107.2.2.1 53 = .ok (.aload_n 0, 1) := by decide +kernel
theorem qd_107_54 : decode qm107.2.2.1 54 = .ok (.getfield 9, 3) := by decide +kernel
theorem qd_107_57 : decode qm107.2.2.1 57 = .ok (.iload_n 2, 1) := by decide +kernel
theorem qd_107_58 : decode qm107.2.2.1 58 = .ok (.invokevirtual 60, 3) := by decide +kernel
theorem qd_107_61 : decode qm107.2.2.1 61 = .ok (.invokevirtual 63, 3) := by decide +kernel
theorem qd_107_64 : decode qm107.2.2.1 64 = .ok (.pop, 1) := by decide +kernel
theorem qd_107_65 : decode qm107.2.2.1 65 = .ok (.return_, 1) := by decide +kernel
theorem qd_108_0 : decode qm108.2.2.1 0 = .ok (.iload_n 1, 1) := by decide +kernel
theorem qd_108_1 : decode qm108.2.2.1 1 = .ok (.istore_n 3, 1) := by decide +kernel
theorem qd_108_2 : decode qm108.2.2.1 2 = .ok (.iload_n 3, 1) := by decide +kernel
theorem qd_108_3 : decode qm108.2.2.1 3 = .ok (.iload_n 2, 1) := by decide +kernel
theorem qd_108_4 : decode qm108.2.2.1 4 = .ok (.if_icmp .ge 41, 3) := by decide +kernel
theorem qd_108_7 : decode qm108.2.2.1 7 = .ok (.aload_n 0, 1) := by decide +kernel
theorem qd_108_8 : decode qm108.2.2.1 8 = .ok (.aload_n 0, 1) := by decide +kernel
theorem qd_108_9 : decode qm108.2.2.1 9 = .ok (.getfield 9, 3) := by decide +kernel
theorem qd_108_12 : decode qm108.2.2.1 12 = .ok (.getfield 76, 3) := by decide +kernel
theorem qd_108_15 : decode qm108.2.2.1 15 = .ok (.iload_n 3, 1) := by decide +kernel
theorem qd_108_16 : decode qm108.2.2.1 16 = .ok (.iaload, 1) := by decide +kernel
theorem qd_108_17 : decode qm108.2.2.1 17 = .ok (.bipush 47, 2) := by decide +kernel
theorem qd_108_19 : decode qm108.2.2.1 19 = .ok (.if_icmp .ne 8, 3) := by decide +kernel
theorem qd_108_22 : decode qm108.2.2.1 22 = .ok (.bipush 46, 2) := by decide +kernel
theorem qd_108_24 : decode qm108.2.2.1 24 = .ok (.goto 12, 3) := by decide +kernel
theorem qd_108_27 : decode qm108.2.2.1 27 = .ok (.aload_n 0, 1) := by decide +kernel
theorem qd_108_28 : decode qm108.2.2.1 28 = .ok (.getfield 9, 3) := by decide +kernel
theorem qd_108_31 : decode qm108.2.2.1 31 = .ok (.getfield 76, 3) := by decide +kernel
theorem qd_108_34 : decode qm108.2.2.1 34 = .ok (.iload_n 3, 1) := by decide +kernel
theorem qd_108_35 : decode qm108.2.2.1 35 = .ok (.iaload, 1) := by decide +kernel
theorem qd_108_36 : decode qm108.2.2.1 36 = .ok (.invokevirtual 67, 3) := by decide +kernel
theorem qd_108_39 : decode qm108.2.2.1 39 = .ok (.iinc 3 1, 3) := by decide +kernel
theorem qd_108_42 : decode qm108.2.2.1 42 = .ok (.goto (-40), 3) := by decide +kernel
theorem qd_108_45 : decode qm108.2.2.1 45 = .ok (.return_, 1) := by decide +kernel
theorem qd_109_0 : decode qm109.2.2.1 0 = .ok (.aload_n 0, 1) := by decide +kernel
theorem qd_109_1 : decode qm109.2.2.1 1 = .ok (.getfield 19, 3) := by decide +kernel
theorem qd_109_4 : decode qm109.2.2.1 4 = .ok (.aload_n 0, 1) := by decide +kernel
theorem qd_109_5 : decode qm109.2.2.1 5 = .ok (.getfield 15, 3) := by decide +kernel
theorem qd_109_8 : decode qm109.2.2.1 8 = .ok (.if_icmp .ne 8, 3) := by decide +kernel
theorem qd_109_11 : decode qm109.2.2.1 11 = .ok (.aload_n 0, 1) := by decide +kernel
theorem qd_109_12 : decode qm109.2.2.1 12 = .ok (.iload_n 1, 1) := by decide +kernel
theorem qd_109_13 : decode qm109.2.2.1 13 = .ok (.putfield 22, 3) := by decide +kernel
theorem qd_109_16 : decode qm109.2.2.1 16 = .ok (.aload_n 0, 1) := by decide +kernel
theorem qd_109_17 : decode qm109.2.2.1 17 = .ok (.dup, 1) := by decide +kernel
theorem qd_109_18 : decode qm109.2.2.1 18 = .ok (.getfield 19, 3) := by decide +kernel
theorem qd_109_21 : decode qm109.2.2.1 21 = .ok (.iconst 1, 1) := by decide +kernel
theorem qd_109_22 : decode qm109.2.2.1 22 = .ok (.iadd, 1) := by decide +kernel
theorem qd_109_23 : decode qm109.2.2.1 23 = .ok (.putfield 19, 3) := by decide +kernel
theorem qd_109_26 : decode qm109.2.2.1 26 = .ok (.return_, 1) := by decide +kernel
theorem qd_110_0 : decode qm110.2.2.1 0 = .ok (.iload_n 1, 1) := by decide +kernel
theorem qd_110_1 : decode qm110.2.2.1 1 = .ok (.istore_n 3, 1) := by decide +kernel
theorem qd_110_2 : decode qm110.2.2.1 2 = .ok (.iload_n 3, 1) := by decide +kernel
theorem qd_110_3 : decode qm110.2.2.1 3 = .ok (.iload_n 2, 1) := by decide +kernel
theorem qd_110_4 : decode qm110.2.2.1 4 = .ok (.if_icmp .ge 23, 3) := by decide +kernel
theorem qd_110_7 : decode qm110.2.2.1 7 = .ok (.aload_n 0, 1) := by decide +kernel
theorem qd_110_8 : decode qm110.2.2.1 8 = .ok (.getfield 9, 3) := by decide +kernel
theorem qd_110_11 : decode qm110.2.2.1 11 = .ok (.getfield 76, 3) := by decide +kernel
theorem qd_110_14 : decode qm110.2.2.1 14 = .ok (.iload_n 3, 1) := by decide +kernel
theorem qd_110_15 : decode qm110.2.2.1 15 = .ok (.iaload, 1) := by decide +kernel
theorem qd_110_16 : decode qm110.2.2.1 16 = .ok (.bipush 91, 2) := by decide +kernel
theorem qd_110_18 : decode qm110.2.2.1 18 = .ok (.if_icmp .ne 9, 3) := by decide +kernel
theorem qd_110_21 : decode qm110.2.2.1 21 = .ok (.iinc 3 1, 3) := by decide +kernel
theorem qd_110_24 : decode qm110.2.2.1 24 = .ok (.goto (-22), 3) := by decide +kernel
theorem qd_110_27 : decode qm110.2.2.1 27 = .ok (.iload_n 3, 1) := by decide +kernel
theorem qd_110_28 : decode qm110.2.2.1 28 = .ok (.iload_n 1, 1) := by decide +kernel
theorem qd_110_29 : decode qm110.2.2.1 29 = .ok (.isub, 1) := by decide +kernel
theorem qd_110_30 : decode qm110.2.2.1 30 = .ok (.istore 4, 2) := by decide +kernel
theorem qd_110_32 : decode qm110.2.2.1 32 = .ok (.iload_n 3, 1) := by decide +kernel
theorem qd_110_33 : decode qm110.2.2.1 33 = .ok (.iconst 1, 1) := by decide +kernel
theorem qd_110_34 : decode qm110.2.2.1 34 = .ok (.iadd, 1) := by decide +kernel
theorem qd_110_35 : decode qm110.2.2.1 35 = .ok (.istore 5, 2) := by decide +kernel
theorem qd_110_37 : decode qm110.2.2.1 37 = .ok (.iload_n 3, 1) := by decide +kernel
theorem qd_110_38 : decode qm110.2.2.1 38 = .ok (.iload_n 2, 1) := by decide +kernel
theorem qd_110_39 : decode qm110.2.2.1 39 = .ok (.if_icmp .ge 45, 3) := by decide +kernel
theorem qd_110_42 : decode qm110.2.2.1 42 = .ok (.aload_n 0, 1) := by decide +kernel
theorem qd_110_43 : decode qm110.2.2.1 43 = .ok (.getfield 9, 3) := by decide +kernel
theorem qd_110_46 : decode qm110.2.2.1 46 = .ok (.getfield 76, 3) := by decide +kernel
theorem qd_110_49 : decode qm110.2.2.1 49 = .ok (.iload_n 3, 1) := by decide +kernel
theorem qd_110_50 : decode qm110.2.2.1 50 = .ok (.iaload, 1) := by decide +kernel
theorem qd_110_51 : decode qm110.2.2.1 51 = .ok (.bipush 76, 2) := by decide +kernel
theorem qd_110_53 : decode qm110.2.2.1 53 = .ok (.if_icmp .ne 31, 3) := by decide +kernel
theorem qd_110_56 : decode qm110.2.2.1 56 = .ok (.aload_n 0, 1) := by decide +kernel
theorem qd_110_57 : decode qm110.2.2.1 57 = .ok (.getfield 9, 3) := by decide +kernel
theorem qd_110_60 : decode qm110.2.2.1 60 = .ok (.getfield 76, 3) := by decide +kernel
theorem qd_110_63 : decode qm110.2.2.1 63 = .ok (.iload_n 3, 1) := by decide +kernel
theorem qd_110_64 : decode qm110.2.2.1 64 = .ok (.iload_n 2, 1) := by decide +kernel
theorem qd_110_65 : decode qm110.2.2.1 65 = .ok (.invokestatic 84, 3) := by decide +kernel
theorem qd_110_68 : decode qm110.2.2.1 68 = .ok (.istore 5, 2) := by decide +kernel
theorem qd_110_70 : decode qm110.2.2.1 70 = .ok (.aload_n 0, 1) := by decide +kernel
theorem qd_110_71 : decode qm110.2.2.1 71 = .ok (.iload_n 3, 1) := by decide +kernel
theorem qd_110_72 : decode qm110.2.2.1 72 = .ok (.iconst 1, 1) := by decide +kernel
theorem qd_110_73 : decode qm110.2.2.1 73 = .ok (.iadd, 1) := by decide +kernel
theorem qd_110_74 : decode qm110.2.2.1 74 = .ok (.iload 5, 2) := by decide +kernel
theorem qd_110_76 : decode qm110.2.2.1 76 = .ok (.iconst 1, 1) := by decide +kernel
theorem qd_110_77 : decode qm110.2.2.1 77 = .ok (.isub, 1) := by decide +kernel
theorem qd_110_78 : decode qm110.2.2.1 78 = .ok (.invokevirtual 73, 3) := by decide +kernel
theorem qd_110_81 : decode qm110.2.2.1 81 = .ok (.goto 24, 3) := by decide +kernel
theorem qd_110_84 : decode qm110.2.2.1 84 = .ok (.iload_n 3, 1) := by decide +kernel
theorem qd_110_85 : decode qm110.2.2.1 85 = .ok (.iload_n 2, 1) := by decide +kernel
theorem qd_110_86 : decode qm110.2.2.1 86 = .ok (.if_icmp .ge 19, 3) := by decide +kernel
theorem qd_110_89 : decode qm110.2.2.1 89 = .ok (.aload_n 0, 1) := by decide +kernel
theorem qd_110_90 : decode qm110.2.2.1 90 = .ok (.aload_n 0, 1) := by decide +kernel
theorem qd_110_91 : decode qm110.2.2.1 91 = .ok (.getfield 9, 3) := by decide +kernel
theorem qd_110_94 : decode qm110.2.2.1 94 = .ok (.getfield 76, 3) := by decide +kernel
theorem qd_110_97 : decode qm110.2.2.1 97 = .ok (.iload_n 3, 1) := by decide +kernel
theorem qd_110_98 : decode qm110.2.2.1 98 = .ok (.iaload, 1) := by decide +kernel
theorem qd_110_99 : decode qm110.2.2.1 99 = .ok (.invokestatic 87, 3) := by decide +kernel
theorem qd_110_102 : decode qm110.2.2.1 102 = .ok (.invokevirtual 91, 3) := by decide +kernel
theorem qd_110_105 : decode qm110.2.2.1 105 = .ok (.iconst 0, 1) := by decide +kernel
theorem qd_110_106 : decode qm110.2.2.1 106 = .ok (.istore 6, 2) := by decide +kernel
theorem qd_110_108 : decode qm110.2.2.1 108 = .ok (.iload 6, 2) := by decide +kernel
theorem qd_110_110 : decode qm110.2.2.1 110 = .ok (.iload 4, 2) := by decide +kernel
theorem qd_110_112 : decode qm110.2.2.1 112 = .ok (.if_icmp .ge 15, 3) := by decide +kernel
theorem qd_110_115 : decode qm110.2.2.1 115 = .ok (.aload_n 0, 1) := by decide +kernel
theorem qd_110_116 : decode qm110.2.2.1 116 = .ok (.ldc 95, 2) := by decide +kernel
theorem qd_110_118 : decode qm110.2.2.1 118 = .ok (.invokevirtual 91, 3) := by decide +kernel
theorem qd_110_121 : decode qm110.2.2.1 121 = .ok (.iinc 6 1, 3) := by decide +kernel
theorem qd_110_124 : decode qm110.2.2.1 124 = .ok (.goto (-16), 3) := by decide +kernel
theorem qd_110_127 : decode qm110.2.2.1 127 = .ok (.iload 5, 2) := by decide +kernel
theorem qd_110_129 : decode qm110.2.2.1 129 = .ok (.ireturn, 1) := by decide +kernel
theorem qd_111_0 : decode qm111.2.2.1 0 = .ok (.iload_n 0, 1) := by decide +kernel
theorem qd_111_1 : decode qm111.2.2.1 1 = .ok (.tableswitch 139 66 90 #[115, 118, 121, 139, 124, 139, 139, 127, 130, 139, 139, 139, 139, 139, 139, 139, 139, 133, 139, 139, 139, 139, 139, 139, 136], 115) := by decide +kernel
theorem qd_111_116 : decode qm111.2.2.1 116 = .ok (.ldc 97, 2) := by decide +kernel
theorem qd_111_118 : decode qm111.2.2.1 118 = .ok (.areturn, 1) := by decide +kernel
theorem qd_111_119 : decode qm111.2.2.1 119 = .ok (.ldc 99, 2) := by decide +kernel
theorem qd_111_121 : decode qm111.2.2.1 121 = .ok (.areturn, 1) := by decide +kernel
theorem qd_111_122 : decode qm111.2.2.1 122 = .ok (.ldc 101, 2) := by decide +kernel
theorem qd_111_124 : decode qm111.2.2.1 124 = .ok (.areturn, 1) := by decide +kernel
theorem qd_111_125 : decode qm111.2.2.1 125 = .ok (.ldc 103, 2) := by decide +kernel
theorem qd_111_127 : decode qm111.2.2.1 127 = .ok (.areturn, 1) := by decide +kernel
theorem qd_111_128 : decode qm111.2.2.1 128 = .ok (.ldc 105, 2) := by decide +kernel
theorem qd_111_130 : decode qm111.2.2.1 130 = .ok (.areturn, 1) := by decide +kernel
theorem qd_111_131 : decode qm111.2.2.1 131 = .ok (.ldc 107, 2) := by decide +kernel
theorem qd_111_133 : decode qm111.2.2.1 133 = .ok (.areturn, 1) := by decide +kernel
theorem qd_111_134 : decode qm111.2.2.1 134 = .ok (.ldc 109, 2) := by decide +kernel
theorem qd_111_136 : decode qm111.2.2.1 136 = .ok (.areturn, 1) := by decide +kernel
theorem qd_111_137 : decode qm111.2.2.1 137 = .ok (.ldc 111, 2) := by decide +kernel
theorem qd_111_139 : decode qm111.2.2.1 139 = .ok (.areturn, 1) := by decide +kernel
theorem qd_111_140 : decode qm111.2.2.1 140 = .ok (.ldc 113, 2) := by decide +kernel
theorem qd_111_142 : decode qm111.2.2.1 142 = .ok (.areturn, 1) := by decide +kernel
theorem qd_112_0 : decode qm112.2.2.1 0 = .ok (.iconst 0, 1) := by decide +kernel
theorem qd_112_1 : decode qm112.2.2.1 1 = .ok (.istore_n 2, 1) := by decide +kernel
theorem qd_112_2 : decode qm112.2.2.1 2 = .ok (.iload_n 2, 1) := by decide +kernel
theorem qd_112_3 : decode qm112.2.2.1 3 = .ok (.aload_n 1, 1) := by decide +kernel
theorem qd_112_4 : decode qm112.2.2.1 4 = .ok (.invokevirtual 115, 3) := by decide +kernel
theorem qd_112_7 : decode qm112.2.2.1 7 = .ok (.if_icmp .ge 18, 3) := by decide +kernel
theorem qd_112_10 : decode qm112.2.2.1 10 = .ok (.aload_n 0, 1) := by decide +kernel
theorem qd_112_11 : decode qm112.2.2.1 11 = .ok (.aload_n 1, 1) := by decide +kernel
theorem qd_112_12 : decode qm112.2.2.1 12 = .ok (.iload_n 2, 1) := by decide +kernel
theorem qd_112_13 : decode qm112.2.2.1 13 = .ok (.invokevirtual 121, 3) := by decide +kernel
theorem qd_112_16 : decode qm112.2.2.1 16 = .ok (.invokevirtual 67, 3) := by decide +kernel
theorem qd_112_19 : decode qm112.2.2.1 19 = .ok (.iinc 2 1, 3) := by decide +kernel
theorem qd_112_22 : decode qm112.2.2.1 22 = .ok (.goto (-20), 3) := by decide +kernel
theorem qd_112_25 : decode qm112.2.2.1 25 = .ok (.return_, 1) := by decide +kernel
theorem qd_113_0 : decode qm113.2.2.1 0 = .ok (.aload_n 0, 1) := by decide +kernel
theorem qd_113_1 : decode qm113.2.2.1 1 = .ok (.getfield 9, 3) := by decide +kernel
theorem qd_113_4 : decode qm113.2.2.1 4 = .ok (.iload_n 1, 1) := by decide +kernel
theorem qd_113_5 : decode qm113.2.2.1 5 = .ok (.invokevirtual 60, 3) := by decide +kernel
theorem qd_113_8 : decode qm113.2.2.1 8 = .ok (.istore_n 2, 1) := by decide +kernel
theorem qd_113_9 : decode qm113.2.2.1 9 = .ok (.aload_n 0, 1) := by decide +kernel
theorem qd_113_10 : decode qm113.2.2.1 10 = .ok (.aload_n 0, 1) := by decide +kernel
theorem qd_113_11 : decode qm113.2.2.1 11 = .ok (.getfield 9, 3) := by decide +kernel
theorem qd_113_14 : decode qm113.2.2.1 14 = .ok (.getfield 76, 3) := by decide +kernel
theorem qd_113_17 : decode qm113.2.2.1 17 = .ok (.aload_n 0, 1) := by decide +kernel
theorem qd_113_18 : decode qm113.2.2.1 18 = .ok (.getfield 9, 3) := by decide +kernel
theorem qd_113_21 : decode qm113.2.2.1 21 = .ok (.iload_n 1, 1) := by decide +kernel
theorem qd_113_22 : decode qm113.2.2.1 22 = .ok (.invokevirtual 57, 3) := by decide +kernel
theorem qd_113_25 : decode qm113.2.2.1 25 = .ok (.iload_n 2, 1) := by decide +kernel
theorem qd_113_26 : decode qm113.2.2.1 26 = .ok (.invokestatic 80, 3) := by decide +kernel
theorem qd_113_29 : decode qm113.2.2.1 29 = .ok (.iconst 1, 1) := by decide +kernel
theorem qd_113_30 : decode qm113.2.2.1 30 = .ok (.iadd, 1) := by decide +kernel
theorem qd_113_31 : decode qm113.2.2.1 31 = .ok (.iload_n 2, 1) := by decide +kernel
theorem qd_113_32 : decode qm113.2.2.1 32 = .ok (.invokevirtual 63, 3) := by decide +kernel
theorem qd_113_35 : decode qm113.2.2.1 35 = .ok (.pop, 1) := by decide +kernel
theorem qd_113_36 : decode qm113.2.2.1 36 = .ok (.return_, 1) := by decide +kernel
theorem qd_114_0 : decode qm114.2.2.1 0 = .ok (.aload_n 0, 1) := by decide +kernel
theorem qd_114_1 : decode qm114.2.2.1 1 = .ok (.getfield 9, 3) := by decide +kernel
theorem qd_114_4 : decode qm114.2.2.1 4 = .ok (.iload_n 1, 1) := by decide +kernel
theorem qd_114_5 : decode qm114.2.2.1 5 = .ok (.invokevirtual 57, 3) := by decide +kernel
theorem qd_114_8 : decode qm114.2.2.1 8 = .ok (.iconst 1, 1) := by decide +kernel
theorem qd_114_9 : decode qm114.2.2.1 9 = .ok (.iadd, 1) := by decide +kernel
theorem qd_114_10 : decode qm114.2.2.1 10 = .ok (.istore_n 2, 1) := by decide +kernel
theorem qd_114_11 : decode qm114.2.2.1 11 = .ok (.aload_n 0, 1) := by decide +kernel
theorem qd_114_12 : decode qm114.2.2.1 12 = .ok (.getfield 9, 3) := by decide +kernel
theorem qd_114_15 : decode qm114.2.2.1 15 = .ok (.getfield 76, 3) := by decide +kernel
theorem qd_114_18 : decode qm114.2.2.1 18 = .ok (.iload_n 2, 1) := by decide +kernel
theorem qd_114_19 : decode qm114.2.2.1 19 = .ok (.iconst 1, 1) := by decide +kernel
theorem qd_114_20 : decode qm114.2.2.1 20 = .ok (.isub, 1) := by decide +kernel
theorem qd_114_21 : decode qm114.2.2.1 21 = .ok (.aload_n 0, 1) := by decide +kernel
theorem qd_114_22 : decode qm114.2.2.1 22 = .ok (.getfield 9, 3) := by decide +kernel
theorem qd_114_25 : decode qm114.2.2.1 25 = .ok (.iload_n 1, 1) := by decide +kernel
theorem qd_114_26 : decode qm114.2.2.1 26 = .ok (.invokevirtual 60, 3) := by decide +kernel
theorem qd_114_29 : decode qm114.2.2.1 29 = .ok (.invokestatic 80, 3) := by decide +kernel
theorem qd_114_32 : decode qm114.2.2.1 32 = .ok (.istore_n 3, 1) := by decide +kernel
theorem qd_114_33 : decode qm114.2.2.1 33 = .ok (.aload_n 0, 1) := by decide +kernel
theorem qd_114_34 : decode qm114.2.2.1 34 = .ok (.bipush 40, 2) := by decide +kernel
theorem qd_114_36 : decode qm114.2.2.1 36 = .ok (.invokevirtual 67, 3) := by decide +kernel
theorem qd_114_39 : decode qm114.2.2.1 39 = .ok (.iconst 0, 1) := by decide +kernel
theorem qd_114_40 : decode qm114.2.2.1 40 = .ok (.istore 4, 2) := by decide +kernel
theorem qd_114_42 : decode qm114.2.2.1 42 = .ok (.iload 4, 2) := by decide +kernel
theorem qd_114_44 : decode qm114.2.2.1 44 = .ok (.sipush 500, 3) := by decide +kernel
theorem qd_114_47 : decode qm114.2.2.1 47 = .ok (.if_icmp .ge 42, 3) := by decide +kernel
theorem qd_114_50 : decode qm114.2.2.1 50 = .ok (.iload_n 2, 1) := by decide +kernel
theorem qd_114_51 : decode qm114.2.2.1 51 = .ok (.ifCond .lt 38, 3) := by decide +kernel
theorem qd_114_54 : decode qm114.2.2.1 54 = .ok (.iload_n 2, 1) := by decide +kernel
theorem qd_114_55 : decode qm114.2.2.1 55 = .ok (.iload_n 3, 1) := by decide +kernel
theorem qd_114_56 : decode qm114.2.2.1 56 = .ok (.if_icmp .ge 33, 3) := by decide +kernel
theorem qd_114_59 : decode qm114.2.2.1 59 = .ok (.iload 4, 2) := by decide +kernel
theorem qd_114_61 : decode qm114.2.2.1 61 = .ok (.ifCond .le 15, 3) := by decide +kernel
theorem qd_114_64 : decode qm114.2.2.1 64 = .ok (.aload_n 0, 1) := by decide +kernel
theorem qd_114_65 : decode qm114.2.2.1 65 = .ok (.bipush 44, 2) := by decide +kernel
theorem qd_114_67 : decode qm114.2.2.1 67 = .ok (.invokevirtual 67, 3) := by decide +kernel
theorem qd_114_70 : decode qm114.2.2.1 70 = .ok (.aload_n 0, 1) := by decide +kernel
theorem qd_114_71 : decode qm114.2.2.1 71 = .ok (.bipush 32, 2) := by decide +kernel
theorem qd_114_73 : decode qm114.2.2.1 73 = .ok (.invokevirtual 67, 3) := by decide +kernel
theorem qd_114_76 : decode qm114.2.2.1 76 = .ok (.aload_n 0, 1) := by decide +kernel
theorem qd_114_77 : decode qm114.2.2.1 77 = .ok (.iload_n 2, 1) := by decide +kernel
theorem qd_114_78 : decode qm114.2.2.1 78 = .ok (.iload_n 3, 1) := by decide +kernel
theorem qd_114_79 : decode qm114.2.2.1 79 = .ok (.invokevirtual 63, 3) := by decide +kernel
theorem qd_114_82 : decode qm114.2.2.1 82 = .ok (.istore_n 2, 1) := by decide +kernel
theorem qd_114_83 : decode qm114.2.2.1 83 = .ok (.iinc 4 1, 3) := by decide +kernel
theorem qd_114_86 : decode qm114.2.2.1 86 = .ok (.goto (-44), 3) := by decide +kernel
theorem qd_114_89 : decode qm114.2.2.1 89 = .ok (.aload_n 0, 1) := by decide +kernel
theorem qd_114_90 : decode qm114.2.2.1 90 = .ok (.bipush 41, 2) := by decide +kernel
theorem qd_114_92 : decode qm114.2.2.1 92 = .ok (.invokevirtual 67, 3) := by decide +kernel
theorem qd_114_95 : decode qm114.2.2.1 95 = .ok (.return_, 1) := by decide +kernel
theorem qd_115_0 : decode qm115.2.2.1 0 = .ok (.aload_n 0, 1) := by decide +kernel
theorem qd_115_1 : decode qm115.2.2.1 1 = .ok (.getfield 9, 3) := by decide +kernel
theorem qd_115_4 : decode qm115.2.2.1 4 = .ok (.iload_n 1, 1) := by decide +kernel
theorem qd_115_5 : decode qm115.2.2.1 5 = .ok (.invokevirtual 35, 3) := by decide +kernel
theorem qd_115_8 : decode qm115.2.2.1 8 = .ok (.istore_n 3, 1) := by decide +kernel
theorem qd_115_9 : decode qm115.2.2.1 9 = .ok (.aload_n 0, 1) := by decide +kernel
theorem qd_115_10 : decode qm115.2.2.1 10 = .ok (.getfield 9, 3) := by decide +kernel
theorem qd_115_13 : decode qm115.2.2.1 13 = .ok (.iload_n 1, 1) := by decide +kernel
theorem qd_115_14 : decode qm115.2.2.1 14 = .ok (.invokevirtual 48, 3) := by decide +kernel
theorem qd_115_17 : decode qm115.2.2.1 17 = .ok (.istore 4, 2) := by decide +kernel
theorem qd_115_19 : decode qm115.2.2.1 19 = .ok (.aload_n 0, 1) := by decide +kernel
theorem qd_115_20 : decode qm115.2.2.1 20 = .ok (.getfield 9, 3) := by decide +kernel
theorem qd_115_23 : decode qm115.2.2.1 23 = .ok (.iload 4, 2) := by decide +kernel
theorem qd_115_25 : decode qm115.2.2.1 25 = .ok (.bipush 32, 2) := by decide +kernel
theorem qd_115_27 : decode qm115.2.2.1 27 = .ok (.invokevirtual 53, 3) := by decide +kernel
theorem qd_115_30 : decode qm115.2.2.1 30 = .ok (.istore 5, 2) := by decide +kernel
theorem qd_115_32 : decode qm115.2.2.1 32 = .ok (.iload 5, 2) := by decide +kernel
theorem qd_115_34 : decode qm115.2.2.1 34 = .ok (.ifCond .eq 12, 3) := by decide +kernel
theorem qd_115_37 : decode qm115.2.2.1 37 = .ok (.aload_n 0, 1) := by decide +kernel
theorem qd_115_38 : decode qm115.2.2.1 38 = .ok (.iload 4, 2) := by decide +kernel
theorem qd_115_40 : decode qm115.2.2.1 40 = .ok (.invokevirtual 38, 3) := by decide +kernel
theorem qd_115_43 : decode qm115.2.2.1 43 = .ok (.goto 26, 3) := by decide +kernel
theorem qd_115_46 : decode qm115.2.2.1 46 = .ok (.aload_n 0, 1) := by decide +kernel
theorem qd_115_47 : decode qm115.2.2.1 47 = .ok (.aload_n 0, 1) := by decide +kernel
theorem qd_115_48 : decode qm115.2.2.1 48 = .ok (.getfield 9, 3) := by decide +kernel
theorem qd_115_51 : decode qm115.2.2.1 51 = .ok (.iload 4, 2) := by decide +kernel
theorem qd_115_53 : decode qm115.2.2.1 53 = .ok (.invokevirtual 57, 3) := by decide +kernel
theorem qd_115_56 : decode qm115.2.2.1 56 = .ok (.aload_n 0, 1) := by decide +kernel
theorem qd_115_57 : decode qm115.2.2.1 57 = .ok (.getfield 9, 3) := by decide +kernel
theorem qd_115_60 : decode qm115.2.2.1 60 = .ok (.iload 4, 2) := by decide +kernel
theorem qd_115_62 : decode qm115.2.2.1 62 = .ok (.invokevirtual 60, 3) := by decide +kernel
theorem qd_115_65 : decode qm115.2.2.1 65 = .ok (.invokevirtual 63, 3) := by decide +kernel
theorem qd_115_68 : decode qm115.2.2.1 68 = .ok (.pop, 1) := by decide +kernel
theorem qd_115_69 : decode qm115.2.2.1 69 = .ok (.aload_n 0, 1) := by decide +kernel
theorem qd_115_70 : decode qm115.2.2.1 70 = .ok (.bipush 32, 2) := by decide +kernel
theorem qd_115_72 : decode qm115.2.2.1 72 = .ok (.invokevirtual 67, 3) := by decide +kernel
theorem qd_115_75 : decode qm115.2.2.1 75 = .ok (.iload_n 2, 1) := by decide +kernel
theorem qd_115_76 : decode qm115.2.2.1 76 = .ok (.ifCond .eq 14, 3) := by decide +kernel
theorem qd_115_79 : decode qm115.2.2.1 79 = .ok (.aload_n 0, 1) := by decide +kernel
theorem qd_115_80 : decode qm115.2.2.1 80 = .ok (.iload_n 2, 1) := by decide +kernel
theorem qd_115_81 : decode qm115.2.2.1 81 = .ok (.invokevirtual 31, 3) := by decide +kernel
theorem qd_115_84 : decode qm115.2.2.1 84 = .ok (.aload_n 0, 1) := by decide +kernel
theorem qd_115_85 : decode qm115.2.2.1 85 = .ok (.bipush 46, 2) := by decide +kernel
theorem qd_115_87 : decode qm115.2.2.1 87 = .ok (.invokevirtual 67, 3) := by decide +kernel
theorem qd_115_90 : decode qm115.2.2.1 90 = .ok (.aload_n 0, 1) := by decide +kernel
theorem qd_115_91 : decode qm115.2.2.1 91 = .ok (.aload_n 0, 1) := by decide +kernel
theorem qd_115_92 : decode qm115.2.2.1 92 = .ok (.getfield 9, 3) := by decide +kernel
theorem qd_115_95 : decode qm115.2.2.1 95 = .ok (.iload_n 3, 1) := by decide +kernel
theorem qd_115_96 : decode qm115.2.2.1 96 = .ok (.invokevirtual 57, 3) := by decide +kernel
theorem qd_115_99 : decode qm115.2.2.1 99 = .ok (.aload_n 0, 1) := by decide +kernel
theorem qd_115_100 : decode qm115.2.2.1 100 = .ok (.getfield 9, 3) := by decide +kernel
theorem qd_115_103 : decode qm115.2.2.1 103 = .ok (.iload_n 3, 1) := by decide +kernel
theorem qd_115_104 : decode qm115.2.2.1 104 = .ok (.invokevirtual 60, 3) := by decide +kernel
theorem qd_115_107 : decode qm115.2.2.1 107 = .ok (.invokevirtual 70, 3) := by decide +kernel
theorem qd_115_110 : decode qm115.2.2.1 110 = .ok (.iload 5, 2) := by decide +kernel
theorem qd_115_112 : decode qm115.2.2.1 112 = .ok (.ifCond .eq 9, 3) := by decide +kernel
theorem qd_115_115 : decode qm115.2.2.1 115 = .ok (.aload_n 0, 1) := by decide +kernel
theorem qd_115_116 : decode qm115.2.2.1 116 = .ok (.iload 4, 2) := by decide +kernel
theorem qd_115_118 : decode qm115.2.2.1 118 = .ok (.invokevirtual 41, 3) := by decide +kernel
theorem qd_115_121 : decode qm115.2.2.1 121 = .ok (.return_, 1) := by decide +kernel
theorem qd_116_0 : decode qm116.2.2.1 0 = .ok (.iload_n 1, 1) := by decide +kernel
theorem qd_116_1 : decode qm116.2.2.1 1 = .ok (.istore_n 3, 1) := by decide +kernel
theorem qd_116_2 : decode qm116.2.2.1 2 = .ok (.iload_n 3, 1) := by decide +kernel
theorem qd_116_3 : decode qm116.2.2.1 3 = .ok (.iload_n 2, 1) := by decide +kernel
theorem qd_116_4 : decode qm116.2.2.1 4 = .ok (.if_icmp .ge 22, 3) := by decide +kernel
theorem qd_116_7 : decode qm116.2.2.1 7 = .ok (.aload_n 0, 1) := by decide +kernel
theorem qd_116_8 : decode qm116.2.2.1 8 = .ok (.aload_n 0, 1) := by decide +kernel
theorem qd_116_9 : decode qm116.2.2.1 9 = .ok (.getfield 9, 3) := by decide +kernel
theorem qd_116_12 : decode qm116.2.2.1 12 = .ok (.getfield 76, 3) := by decide +kernel
theorem qd_116_15 : decode qm116.2.2.1 15 = .ok (.iload_n 3, 1) := by decide +kernel
theorem qd_116_16 : decode qm116.2.2.1 16 = .ok (.iaload, 1) := by decide +kernel
theorem qd_116_17 : decode qm116.2.2.1 17 = .ok (.invokevirtual 67, 3) := by decide +kernel
theorem qd_116_20 : decode qm116.2.2.1 20 = .ok (.iinc 3 1, 3) := by decide +kernel
theorem qd_116_23 : decode qm116.2.2.1 23 = .ok (.goto (-21), 3) := by decide +kernel
theorem qd_116_26 : decode qm116.2.2.1 26 = .ok (.return_, 1) := by decide +kernel
theorem qd_117_0 : decode qm117.2.2.1 0 = .ok (.aload_n 0, 1) := by decide +kernel
theorem qd_117_1 : decode qm117.2.2.1 1 = .ok (.invokevirtual 125, 3) := by decide +kernel
theorem qd_117_4 : decode qm117.2.2.1 4 = .ok (.iload_n 1, 1) := by decide +kernel
theorem qd_117_5 : decode qm117.2.2.1 5 = .ok (.tableswitch 132 0 8 #[51, 59, 67, 75, 86, 97, 108, 116, 124], 51) := by decide +kernel
theorem qd_117_56 : decode qm117.2.2.1 56 = .ok (.aload_n 0, 1) := by decide +kernel
theorem qd_117_57 : decode qm117.2.2.1 57 = .ok (.getfield 46, 3) := by decide +kernel
theorem qd_117_60 : decode qm117.2.2.1 60 = .ok (.getfield 167, 3) := by decide +kernel
theorem qd_117_63 : decode qm117.2.2.1 63 = .ok (.ireturn, 1) := by decide +kernel
theorem qd_117_64 : decode qm117.2.2.1 64 = .ok (.aload_n 0, 1) := by decide +kernel
theorem qd_117_65 : decode qm117.2.2.1 65 = .ok (.getfield 46, 3) := by decide +kernel
theorem qd_117_68 : decode qm117.2.2.1 68 = .ok (.getfield 171, 3) := by decide +kernel
theorem qd_117_71 : decode qm117.2.2.1 71 = .ok (.ireturn, 1) := by decide +kernel
theorem qd_117_72 : decode qm117.2.2.1 72 = .ok (.aload_n 0, 1) := by decide +kernel
theorem qd_117_73 : decode qm117.2.2.1 73 = .ok (.getfield 46, 3) := by decide +kernel
theorem qd_117_76 : decode qm117.2.2.1 76 = .ok (.getfield 174, 3) := by decide +kernel
theorem qd_117_79 : decode qm117.2.2.1 79 = .ok (.ireturn, 1) := by decide +kernel
theorem qd_117_80 : decode qm117.2.2.1 80 = .ok (.aload_n 0, 1) := by decide +kernel
theorem qd_117_81 : decode qm117.2.2.1 81 = .ok (.getfield 46, 3) := by decide +kernel
theorem qd_117_84 : decode qm117.2.2.1 84 = .ok (.getfield 177, 3) := by decide +kernel
theorem qd_117_87 : decode qm117.2.2.1 87 = .ok (.invokevirtual 109, 3) := by decide +kernel
theorem qd_117_90 : decode qm117.2.2.1 90 = .ok (.ireturn, 1) := by decide +kernel
theorem qd_117_91 : decode qm117.2.2.1 91 = .ok (.aload_n 0, 1) := by decide +kernel
theorem qd_117_92 : decode qm117.2.2.1 92 = .ok (.getfield 46, 3) := by decide +kernel
theorem qd_117_95 : decode qm117.2.2.1 95 = .ok (.getfield 180, 3) := by decide +kernel
theorem qd_117_98 : decode qm117.2.2.1 98 = .ok (.invokevirtual 109, 3) := by decide +kernel
theorem qd_117_101 : decode qm117.2.2.1 101 = .ok (.ireturn, 1) := by decide +kernel
theorem qd_117_102 : decode qm117.2.2.1 102 = .ok (.aload_n 0, 1) := by decide +kernel
theorem qd_117_103 : decode qm117.2.2.1 103 = .ok (.getfield 46, 3) := by decide +kernel
theorem qd_117_106 : decode qm117.2.2.1 106 = .ok (.getfield 183, 3) := by decide +kernel
theorem qd_117_109 : decode qm117.2.2.1 109 = .ok (.invokevirtual 109, 3) := by decide +kernel
theorem qd_117_112 : decode qm117.2.2.1 112 = .ok (.ireturn, 1) := by decide +kernel
theorem qd_117_113 : decode qm117.2.2.1 113 = .ok (.aload_n 0, 1) := by decide +kernel
theorem qd_117_114 : decode qm117.2.2.1 114 = .ok (.getfield 46, 3) := by decide +kernel
theorem qd_117_117 : decode qm117.2.2.1 117 = .ok (.getfield 186, 3) := by decide +kernel
theorem qd_117_120 : decode qm117.2.2.1 120 = .ok (.ireturn, 1) := by decide +kernel
theorem qd_117_121 : decode qm117.2.2.1 121 = .ok (.aload_n 0, 1) := by decide +kernel
theorem qd_117_122 : decode qm117.2.2.1 122 = .ok (.getfield 46, 3) := by decide +kernel
theorem qd_117_125 : decode qm117.2.2.1 125 = .ok (.getfield 189, 3) := by decide +kernel
theorem qd_117_128 : decode qm117.2.2.1 128 = .ok (.ireturn, 1) := by decide +kernel
theorem qd_117_129 : decode qm117.2.2.1 129 = .ok (.aload_n 0, 1) := by decide +kernel
theorem qd_117_130 : decode qm117.2.2.1 130 = .ok (.getfield 21, 3) := by decide +kernel
theorem qd_117_133 : decode qm117.2.2.1 133 = .ok (.invokevirtual 192, 3) := by decide +kernel
theorem qd_117_136 : decode qm117.2.2.1 136 = .ok (.ireturn, 1) := by decide +kernel
theorem qd_117_137 : decode qm117.2.2.1 137 = .ok (.iload_n 1, 1) := by decide +kernel
theorem qd_117_138 : decode qm117.2.2.1 138 = .ok (.bipush 20, 2) := by decide +kernel
theorem qd_117_140 : decode qm117.2.2.1 140 = .ok (.if_icmp .lt 27, 3) := by decide +kernel
theorem qd_117_143 : decode qm117.2.2.1 143 = .ok (.iload_n 1, 1) := by decide +kernel
theorem qd_117_144 : decode qm117.2.2.1 144 = .ok (.bipush 119, 2) := by decide +kernel
theorem qd_117_146 : decode qm117.2.2.1 146 = .ok (.if_icmp .gt 21, 3) := by decide +kernel
theorem qd_117_149 : decode qm117.2.2.1 149 = .ok (.aload_n 0, 1) := by decide +kernel
theorem qd_117_150 : decode qm117.2.2.1 150 = .ok (.getfield 46, 3) := by decide +kernel
theorem qd_117_153 : decode qm117.2.2.1 153 = .ok (.getfield 177, 3) := by decide +kernel
theorem qd_117_156 : decode qm117.2.2.1 156 = .ok (.iload_n 1, 1) := by decide +kernel
theorem qd_117_157 : decode qm117.2.2.1 157 = .ok (.bipush 20, 2) := by decide +kernel
theorem qd_117_159 : decode qm117.2.2.1 159 = .ok (.isub, 1) := by decide +kernel
theorem qd_117_160 : decode qm117.2.2.1 160 = .ok (.iconst 0, 1) := by decide +kernel
theorem qd_117_161 : decode qm117.2.2.1 161 = .ok (.invokevirtual 132, 3) := by decide +kernel
theorem qd_117_164 : decode qm117.2.2.1 164 = .ok (.goto 4, 3) := by decide +kernel
theorem qd_117_167 : decode qm117.2.2.1 167 = .ok (.iconst (-1), 1) := by decide +kernel
theorem qd_117_168 : decode qm117.2.2.1 168 = .ok (.ireturn, 1) := by decide +kernel
theorem qd_118_0 : decode qm118.2.2.1 0 = .ok (.iconst 0, 1) := by decide +kernel
theorem qd_118_1 : decode qm118.2.2.1 1 = .ok (.istore_n 1, 1) := by decide +kernel
theorem qd_118_2 : decode qm118.2.2.1 2 = .ok (.iconst 1, 1) := by decide +kernel
theorem qd_118_3 : decode qm118.2.2.1 3 = .ok (.istore_n 2, 1) := by decide +kernel
theorem qd_118_4 : decode qm118.2.2.1 4 = .ok (.iload_n 2, 1) := by decide +kernel
theorem qd_118_5 : decode qm118.2.2.1 5 = .ok (.aload_n 0, 1) := by decide +kernel
theorem qd_118_6 : decode qm118.2.2.1 6 = .ok (.getfield 20, 3) := by decide +kernel
theorem qd_118_9 : decode qm118.2.2.1 9 = .ok (.invokevirtual 75, 3) := by decide +kernel
theorem qd_118_12 : decode qm118.2.2.1 12 = .ok (.if_icmp .ge 20, 3) := by decide +kernel
theorem qd_118_15 : decode qm118.2.2.1 15 = .ok (.aload_n 0, 1) := by decide +kernel
theorem qd_118_16 : decode qm118.2.2.1 16 = .ok (.iload_n 2, 1) := by decide +kernel
theorem qd_118_17 : decode qm118.2.2.1 17 = .ok (.invokevirtual 109, 3) := by decide +kernel
theorem qd_118_20 : decode qm118.2.2.1 20 = .ok (.ifCond .eq 6, 3) := by decide +kernel
theorem qd_118_23 : decode qm118.2.2.1 23 = .ok (.iinc 1 1, 3) := by decide +kernel
theorem qd_118_26 : decode qm118.2.2.1 26 = .ok (.iinc 2 1, 3) := by decide +kernel
theorem qd_118_29 : decode qm118.2.2.1 29 = .ok (.goto (-25), 3) := by decide +kernel
theorem qd_118_32 : decode qm118.2.2.1 32 = .ok (.iload_n 1, 1) := by decide +kernel
theorem qd_118_33 : decode qm118.2.2.1 33 = .ok (.ireturn, 1) := by decide +kernel
theorem qd_119_0 : decode qm119.2.2.1 0 = .ok (.aload_n 0, 1) := by decide +kernel
theorem qd_119_1 : decode qm119.2.2.1 1 = .ok (.invokevirtual 125, 3) := by decide +kernel
theorem qd_119_4 : decode qm119.2.2.1 4 = .ok (.iload_n 3, 1) := by decide +kernel
theorem qd_119_5 : decode qm119.2.2.1 5 = .ok (.ifCond .lt 9, 3) := by decide +kernel
theorem qd_119_8 : decode qm119.2.2.1 8 = .ok (.iload_n 3, 1) := by decide +kernel
theorem qd_119_9 : decode qm119.2.2.1 9 = .ok (.bipush 8, 2) := by decide +kernel
theorem qd_119_11 : decode qm119.2.2.1 11 = .ok (.if_icmp .lt 5, 3) := by decide +kernel
theorem qd_119_14 : decode qm119.2.2.1 14 = .ok (.iconst (-1), 1) := by decide +kernel
theorem qd_119_15 : decode qm119.2.2.1 15 = .ok (.ireturn, 1) := by decide +kernel
theorem qd_119_16 : decode qm119.2.2.1 16 = .ok (.iload_n 1, 1) := by decide +kernel
theorem qd_119_17 : decode qm119.2.2.1 17 = .ok (.ifCond .eq 18, 3) := by decide +kernel
theorem qd_119_20 : decode qm119.2.2.1 20 = .ok (.aload_n 0, 1) := by decide +kernel
theorem qd_119_21 : decode qm119.2.2.1 21 = .ok (.getfield 46, 3) := by decide +kernel
theorem qd_119_24 : decode qm119.2.2.1 24 = .ok (.getfield 183, 3) := by decide +kernel
theorem qd_119_27 : decode qm119.2.2.1 27 = .ok (.iload_n 2, 1) := by decide +kernel
theorem qd_119_28 : decode qm119.2.2.1 28 = .ok (.iload_n 3, 1) := by decide +kernel
theorem qd_119_29 : decode qm119.2.2.1 29 = .ok (.invokevirtual 132, 3) := by decide +kernel
theorem qd_119_32 : decode qm119.2.2.1 32 = .ok (.goto 15, 3) := by decide +kernel
theorem qd_119_35 : decode qm119.2.2.1 35 = .ok (.aload_n 0, 1) := by decide +kernel
theorem qd_119_36 : decode qm119.2.2.1 36 = .ok (.getfield 46, 3) := by decide +kernel
theorem qd_119_39 : decode qm119.2.2.1 39 = .ok (.getfield 180, 3) := by decide +kernel
theorem qd_119_42 : decode qm119.2.2.1 42 = .ok (.iload_n 2, 1) := by decide +kernel
theorem qd_119_43 : decode qm119.2.2.1 43 = .ok (.iload_n 3, 1) := by decide +kernel
theorem qd_119_44 : decode qm119.2.2.1 44 = .ok (.invokevirtual 132, 3) := by decide +kernel
theorem qd_119_47 : decode qm119.2.2.1 47 = .ok (.ireturn, 1) := by decide +kernel
theorem qd_120_0 : decode qm120.2.2.1 0 = .ok (.aload_n 0, 1) := by decide +kernel
theorem qd_120_1 : decode qm120.2.2.1 1 = .ok (.invokevirtual 125, 3) := by decide +kernel
theorem qd_120_4 : decode qm120.2.2.1 4 = .ok (.iload_n 1, 1) := by decide +kernel
theorem qd_120_5 : decode qm120.2.2.1 5 = .ok (.tableswitch 140 0 10 #[59, 67, 75, 83, 96, 109, 109, 109, 109, 124, 124], 59) := by decide +kernel
theorem qd_120_64 : decode qm120.2.2.1 64 = .ok (.aload_n 0, 1) := by decide +kernel
theorem qd_120_65 : decode qm120.2.2.1 65 = .ok (.getfield 37, 3) := by decide +kernel
theorem qd_120_68 : decode qm120.2.2.1 68 = .ok (.getfield 195, 3) := by decide +kernel
theorem qd_120_71 : decode qm120.2.2.1 71 = .ok (.ireturn, 1) := by decide +kernel
theorem qd_120_72 : decode qm120.2.2.1 72 = .ok (.aload_n 0, 1) := by decide +kernel
theorem qd_120_73 : decode qm120.2.2.1 73 = .ok (.getfield 37, 3) := by decide +kernel
theorem qd_120_76 : decode qm120.2.2.1 76 = .ok (.getfield 198, 3) := by decide +kernel
theorem qd_120_79 : decode qm120.2.2.1 79 = .ok (.ireturn, 1) := by decide +kernel
theorem qd_120_80 : decode qm120.2.2.1 80 = .ok (.aload_n 0, 1) := by decide +kernel
theorem qd_120_81 : decode qm120.2.2.1 81 = .ok (.getfield 37, 3) := by decide +kernel
theorem qd_120_84 : decode qm120.2.2.1 84 = .ok (.getfield 201, 3) := by decide +kernel
theorem qd_120_87 : decode qm120.2.2.1 87 = .ok (.ireturn, 1) := by decide +kernel
theorem qd_120_88 : decode qm120.2.2.1 88 = .ok (.aload_n 0, 1) := by decide +kernel
theorem qd_120_89 : decode qm120.2.2.1 89 = .ok (.getfield 37, 3) := by decide +kernel
theorem qd_120_92 : decode qm120.2.2.1 92 = .ok (.getfield 204, 3) := by decide +kernel
theorem qd_120_95 : decode qm120.2.2.1 95 = .ok (.iload_n 2, 1) := by decide +kernel
theorem qd_120_96 : decode qm120.2.2.1 96 = .ok (.iconst 0, 1) := by decide +kernel
theorem qd_120_97 : decode qm120.2.2.1 97 = .ok (.invokestatic 207, 3) := by decide +kernel
theorem qd_120_100 : decode qm120.2.2.1 100 = .ok (.ireturn, 1) := by decide +kernel
theorem qd_120_101 : decode qm120.2.2.1 101 = .ok (.aload_n 0, 1) := by decide +kernel
theorem qd_120_102 : decode qm120.2.2.1 102 = .ok (.getfield 37, 3) := by decide +kernel
theorem qd_120_105 : decode qm120.2.2.1 105 = .ok (.getfield 211, 3) := by decide +kernel
theorem qd_120_108 : decode qm120.2.2.1 108 = .ok (.iload_n 2, 1) := by decide +kernel
theorem qd_120_109 : decode qm120.2.2.1 109 = .ok (.iconst 0, 1) := by decide +kernel
theorem qd_120_110 : decode qm120.2.2.1 110 = .ok (.invokestatic 207, 3) := by decide +kernel
theorem qd_120_113 : decode qm120.2.2.1 113 = .ok (.ireturn, 1) := by decide +kernel
theorem qd_120_114 : decode qm120.2.2.1 114 = .ok (.aload_n 0, 1) := by decide +kernel
theorem qd_120_115 : decode qm120.2.2.1 115 = .ok (.getfield 37, 3) := by decide +kernel
theorem qd_120_118 : decode qm120.2.2.1 118 = .ok (.getfield 214, 3) := by decide +kernel
theorem qd_120_121 : decode qm120.2.2.1 121 = .ok (.iload_n 2, 1) := by decide +kernel
theorem qd_120_122 : decode qm120.2.2.1 122 = .ok (.iload_n 1, 1) := by decide +kernel
theorem qd_120_123 : decode qm120.2.2.1 123 = .ok (.iconst 5, 1) := by decide +kernel
theorem qd_120_124 : decode qm120.2.2.1 124 = .ok (.isub, 1) := by decide +kernel
theorem qd_120_125 : decode qm120.2.2.1 125 = .ok (.invokestatic 207, 3) := by decide +kernel
theorem qd_120_128 : decode qm120.2.2.1 128 = .ok (.ireturn, 1) := by decide +kernel
theorem qd_120_129 : decode qm120.2.2.1 129 = .ok (.aload_n 0, 1) := by decide +kernel
theorem qd_120_130 : decode qm120.2.2.1 130 = .ok (.getfield 37, 3) := by decide +kernel
theorem qd_120_133 : decode qm120.2.2.1 133 = .ok (.getfield 105, 3) := by decide +kernel
theorem qd_120_136 : decode qm120.2.2.1 136 = .ok (.iload_n 2, 1) := by decide +kernel
theorem qd_120_137 : decode qm120.2.2.1 137 = .ok (.iload_n 1, 1) := by decide +kernel
theorem qd_120_138 : decode qm120.2.2.1 138 = .ok (.bipush 9, 2) := by decide +kernel
theorem qd_120_140 : decode qm120.2.2.1 140 = .ok (.isub, 1) := by decide +kernel
theorem qd_120_141 : decode qm120.2.2.1 141 = .ok (.invokestatic 207, 3) := by decide +kernel
theorem qd_120_144 : decode qm120.2.2.1 144 = .ok (.ireturn, 1) := by decide +kernel
theorem qd_120_145 : decode qm120.2.2.1 145 = .ok (.iconst (-1), 1) := by decide +kernel
theorem qd_120_146 : decode qm120.2.2.1 146 = .ok (.ireturn, 1) := by decide +kernel
theorem qd_121_0 : decode qm121.2.2.1 0 = .ok (.iload_n 1, 1) := by decide +kernel
theorem qd_121_1 : decode qm121.2.2.1 1 = .ok (.iconst (-1), 1) := by decide +kernel
theorem qd_121_2 : decode qm121.2.2.1 2 = .ok (.if_icmp .ne 10, 3) := by decide +kernel
theorem qd_121_5 : decode qm121.2.2.1 5 = .ok (.aload_n 0, 1) := by decide +kernel
theorem qd_121_6 : decode qm121.2.2.1 6 = .ok (.invokevirtual 109, 3) := by decide +kernel
theorem qd_121_9 : decode qm121.2.2.1 9 = .ok (.goto 9, 3) := by decide +kernel
theorem qd_121_12 : decode qm121.2.2.1 12 = .ok (.aload_n 0, 1) := by decide +kernel
theorem qd_121_13 : decode qm121.2.2.1 13 = .ok (.iload_n 1, 1) := by decide +kernel
theorem qd_121_14 : decode qm121.2.2.1 14 = .ok (.iload_n 2, 1) := by decide +kernel
theorem qd_121_15 : decode qm121.2.2.1 15 = .ok (.invokevirtual 132, 3) := by decide +kernel
theorem qd_121_18 : decode qm121.2.2.1 18 = .ok (.ireturn, 1) := by decide +kernel
theorem qd_123_0 : decode qm123.2.2.1 0 = .ok (.aload_n 0, 1) := by decide +kernel
theorem qd_123_1 : decode qm123.2.2.1 1 = .ok (.getfield 60, 3) := by decide +kernel
theorem qd_123_4 : decode qm123.2.2.1 4 = .ok (.ireturn, 1) := by decide +kernel
theorem qd_124_0 : decode qm124.2.2.1 0 = .ok (.aload_n 0, 1) := by decide +kernel
theorem qd_124_1 : decode qm124.2.2.1 1 = .ok (.iconst 0, 1) := by decide +kernel
theorem qd_124_2 : decode qm124.2.2.1 2 = .ok (.putfield 60, 3) := by decide +kernel
theorem qd_124_5 : decode qm124.2.2.1 5 = .ok (.iload_n 3, 1) := by decide +kernel
theorem qd_124_6 : decode qm124.2.2.1 6 = .ok (.iconst 1, 1) := by decide +kernel
theorem qd_124_7 : decode qm124.2.2.1 7 = .ok (.bipush 8, 2) := by decide +kernel
theorem qd_124_9 : decode qm124.2.2.1 9 = .ok (.invokestatic 63, 3) := by decide +kernel
theorem qd_124_12 : decode qm124.2.2.1 12 = .ok (.ifCond .ne 5, 3) := by decide +kernel
theorem qd_124_15 : decode qm124.2.2.1 15 = .ok (.iconst (-1), 1) := by decide +kernel
theorem qd_124_16 : decode qm124.2.2.1 16 = .ok (.ireturn, 1) := by decide +kernel
theorem qd_124_17 : decode qm124.2.2.1 17 = .ok (.aload_n 0, 1) := by decide +kernel
theorem qd_124_18 : decode qm124.2.2.1 18 = .ok (.getfield 67, 3) := by decide +kernel
theorem qd_124_21 : decode qm124.2.2.1 21 = .ok (.iload_n 3, 1) := by decide +kernel
theorem qd_124_22 : decode qm124.2.2.1 22 = .ok (.iadd, 1) := by decide +kernel
theorem qd_124_23 : decode qm124.2.2.1 23 = .ok (.sipush 500, 3) := by decide +kernel
theorem qd_124_26 : decode qm124.2.2.1 26 = .ok (.if_icmp .le 6, 3) := by decide +kernel
theorem qd_124_29 : decode qm124.2.2.1 29 = .ok (.bipush (-3), 2) := by decide +kernel
theorem qd_124_31 : decode qm124.2.2.1 31 = .ok (.ireturn, 1) := by decide +kernel
theorem qd_124_32 : decode qm124.2.2.1 32 = .ok (.iload_n 3, 1) := by decide +kernel
theorem qd_124_33 : decode qm124.2.2.1 33 = .ok (.iconst 1, 1) := by decide +kernel
theorem qd_124_34 : decode qm124.2.2.1 34 = .ok (.isub, 1) := by decide +kernel
theorem qd_124_35 : decode qm124.2.2.1 35 = .ok (.istore 4, 2) := by decide +kernel
theorem qd_124_37 : decode qm124.2.2.1 37 = .ok (.iload 4, 2) := by decide +kernel
theorem qd_124_39 : decode qm124.2.2.1 39 = .ok (.ifCond .lt 40, 3) := by decide +kernel
theorem qd_124_42 : decode qm124.2.2.1 42 = .ok (.aload_n 0, 1) := by decide +kernel
theorem qd_124_43 : decode qm124.2.2.1 43 = .ok (.getfield 13, 3) := by decide +kernel
theorem qd_124_46 : decode qm124.2.2.1 46 = .ok (.aload_n 0, 1) := by decide +kernel
theorem qd_124_47 : decode qm124.2.2.1 47 = .ok (.getfield 67, 3) := by decide +kernel
theorem qd_124_50 : decode qm124.2.2.1 50 = .ok (.lload_n 1, 1) := by decide +kernel
theorem qd_124_51 : decode qm124.2.2.1 51 = .ok (.bipush 8, 2) := by decide +kernel
theorem qd_124_53 : decode qm124.2.2.1 53 = .ok (.iload 4, 2) := by decide +kernel
theorem qd_124_55 : decode qm124.2.2.1 55 = .ok (.imul, 1) := by decide +kernel
theorem qd_124_56 : decode qm124.2.2.1 56 = .ok (.lushr, 1) := by decide +kernel
theorem qd_124_57 : decode qm124.2.2.1 57 = .ok (.l2i, 1) := by decide +kernel
theorem qd_124_58 : decode qm124.2.2.1 58 = .ok (.sipush 255, 3) := by decide +kernel
theorem qd_124_61 : decode qm124.2.2.1 61 = .ok (.iand, 1) := by decide +kernel
theorem qd_124_62 : decode qm124.2.2.1 62 = .ok (.iastore, 1) := by decide +kernel
theorem qd_124_63 : decode qm124.2.2.1 63 = .ok (.aload_n 0, 1) := by decide +kernel
theorem qd_124_64 : decode qm124.2.2.1 64 = .ok (.dup, 1) := by decide +kernel
theorem qd_124_65 : decode qm124.2.2.1 65 = .ok (.getfield 67, 3) := by decide +kernel
theorem qd_124_68 : decode qm124.2.2.1 68 = .ok (.iconst 1, 1) := by decide +kernel
theorem qd_124_69 : decode qm124.2.2.1 69 = .ok (.iadd, 1) := by decide +kernel
theorem qd_124_70 : decode qm124.2.2.1 70 = .ok (.putfield 67, 3) := by decide +kernel
theorem qd_124_73 : decode qm124.2.2.1 73 = .ok (.iinc 4 (-1), 3) := by decide +kernel
theorem qd_124_76 : decode qm124.2.2.1 76 = .ok (.goto (-39), 3) := by decide +kernel
theorem qd_124_79 : decode qm124.2.2.1 79 = .ok (.aload_n 0, 1) := by decide +kernel
theorem qd_124_80 : decode qm124.2.2.1 80 = .ok (.getfield 67, 3) := by decide +kernel
theorem qd_124_83 : decode qm124.2.2.1 83 = .ok (.ireturn, 1) := by decide +kernel
theorem qd_125_0 : decode qm125.2.2.1 0 = .ok (.iload_n 0, 1) := by decide +kernel
theorem qd_125_1 : decode qm125.2.2.1 1 = .ok (.iload_n 1, 1) := by decide +kernel
theorem qd_125_2 : decode qm125.2.2.1 2 = .ok (.if_icmp .lt 12, 3) := by decide +kernel
theorem qd_125_5 : decode qm125.2.2.1 5 = .ok (.iload_n 0, 1) := by decide +kernel
theorem qd_125_6 : decode qm125.2.2.1 6 = .ok (.iload_n 2, 1) := by decide +kernel
theorem qd_125_7 : decode qm125.2.2.1 7 = .ok (.if_icmp .gt 7, 3) := by decide +kernel
theorem qd_125_10 : decode qm125.2.2.1 10 = .ok (.iconst 1, 1) := by decide +kernel
theorem qd_125_11 : decode qm125.2.2.1 11 = .ok (.goto 4, 3) := by decide +kernel
theorem qd_125_14 : decode qm125.2.2.1 14 = .ok (.iconst 0, 1) := by decide +kernel
theorem qd_125_15 : decode qm125.2.2.1 15 = .ok (.ireturn, 1) := by decide +kernel
theorem qd_126_0 : decode qm126.2.2.1 0 = .ok (.aload_n 0, 1) := by decide +kernel
theorem qd_126_1 : decode qm126.2.2.1 1 = .ok (.iconst 0, 1) := by decide +kernel
theorem qd_126_2 : decode qm126.2.2.1 2 = .ok (.putfield 60, 3) := by decide +kernel
theorem qd_126_5 : decode qm126.2.2.1 5 = .ok (.iload_n 1, 1) := by decide +kernel
theorem qd_126_6 : decode qm126.2.2.1 6 = .ok (.iconst 0, 1) := by decide +kernel
theorem qd_126_7 : decode qm126.2.2.1 7 = .ok (.aload_n 0, 1) := by decide +kernel
theorem qd_126_8 : decode qm126.2.2.1 8 = .ok (.getfield 67, 3) := by decide +kernel
theorem qd_126_11 : decode qm126.2.2.1 11 = .ok (.iconst 1, 1) := by decide +kernel
theorem qd_126_12 : decode qm126.2.2.1 12 = .ok (.isub, 1) := by decide +kernel
theorem qd_126_13 : decode qm126.2.2.1 13 = .ok (.invokestatic 63, 3) := by decide +kernel
theorem qd_126_16 : decode qm126.2.2.1 16 = .ok (.ifCond .eq 14, 3) := by decide +kernel
theorem qd_126_19 : decode qm126.2.2.1 19 = .ok (.iload_n 2, 1) := by decide +kernel
theorem qd_126_20 : decode qm126.2.2.1 20 = .ok (.iconst 0, 1) := by decide +kernel
theorem qd_126_21 : decode qm126.2.2.1 21 = .ok (.sipush 255, 3) := by decide +kernel
theorem qd_126_24 : decode qm126.2.2.1 24 = .ok (.invokestatic 63, 3) := by decide +kernel
theorem qd_126_27 : decode qm126.2.2.1 27 = .ok (.ifCond .ne 5, 3) := by decide +kernel
theorem qd_126_30 : decode qm126.2.2.1 30 = .ok (.iconst 0, 1) := by decide +kernel
theorem qd_126_31 : decode qm126.2.2.1 31 = .ok (.ireturn, 1) := by decide +kernel
theorem qd_126_32 : decode qm126.2.2.1 32 = .ok (.aload_n 0, 1) := by decide +kernel
theorem qd_126_33 : decode qm126.2.2.1 33 = .ok (.getfield 13, 3) := by decide +kernel
theorem qd_126_36 : decode qm126.2.2.1 36 = .ok (.iload_n 1, 1) := by decide +kernel
theorem qd_126_37 : decode qm126.2.2.1 37 = .ok (.iload_n 2, 1) := by decide +kernel
theorem qd_126_38 : decode qm126.2.2.1 38 = .ok (.iastore, 1) := by decide +kernel
theorem qd_126_39 : decode qm126.2.2.1 39 = .ok (.iconst 1, 1) := by decide +kernel
theorem qd_126_40 : decode qm126.2.2.1 40 = .ok (.ireturn, 1) := by decide +kernel
theorem qd_127_0 : decode qm127.2.2.1 0 = .ok (.aload_n 0, 1) := by decide +kernel
theorem qd_127_1 : decode qm127.2.2.1 1 = .ok (.iconst 0, 1) := by decide +kernel
theorem qd_127_2 : decode qm127.2.2.1 2 = .ok (.putfield 60, 3) := by decide +kernel
theorem qd_127_5 : decode qm127.2.2.1 5 = .ok (.iload_n 1, 1) := by decide +kernel
theorem qd_127_6 : decode qm127.2.2.1 6 = .ok (.iconst 0, 1) := by decide +kernel
theorem qd_127_7 : decode qm127.2.2.1 7 = .ok (.aload_n 0, 1) := by decide +kernel
theorem qd_127_8 : decode qm127.2.2.1 8 = .ok (.getfield 67, 3) := by decide +kernel
theorem qd_127_11 : decode qm127.2.2.1 11 = .ok (.invokestatic 63, 3) := by decide +kernel
theorem qd_127_14 : decode qm127.2.2.1 14 = .ok (.ifCond .ne 5, 3) := by decide +kernel
theorem qd_127_17 : decode qm127.2.2.1 17 = .ok (.iconst (-1), 1) := by decide +kernel
theorem qd_127_18 : decode qm127.2.2.1 18 = .ok (.ireturn, 1) := by decide +kernel
theorem qd_127_19 : decode qm127.2.2.1 19 = .ok (.aload_n 0, 1) := by decide +kernel
theorem qd_127_20 : decode qm127.2.2.1 20 = .ok (.getfield 67, 3) := by decide +kernel
theorem qd_127_23 : decode qm127.2.2.1 23 = .ok (.iload_n 1, 1) := by decide +kernel
theorem qd_127_24 : decode qm127.2.2.1 24 = .ok (.isub, 1) := by decide +kernel
theorem qd_127_25 : decode qm127.2.2.1 25 = .ok (.istore_n 2, 1) := by decide +kernel
theorem qd_127_26 : decode qm127.2.2.1 26 = .ok (.aload_n 0, 1) := by decide +kernel
theorem qd_127_27 : decode qm127.2.2.1 27 = .ok (.iload_n 1, 1) := by decide +kernel
theorem qd_127_28 : decode qm127.2.2.1 28 = .ok (.putfield 67, 3) := by decide +kernel
theorem qd_127_31 : decode qm127.2.2.1 31 = .ok (.iload_n 2, 1) := by decide +kernel
theorem qd_127_32 : decode qm127.2.2.1 32 = .ok (.ireturn, 1) := by decide +kernel
theorem qd_128_0 : decode qm128.2.2.1 0 = .ok (.iconst 0, 1) := by decide +kernel
theorem qd_128_1 : decode qm128.2.2.1 1 = .ok (.istore_n 1, 1) := by decide +kernel
theorem qd_128_2 : decode qm128.2.2.1 2 = .ok (.iload_n 1, 1) := by decide +kernel
theorem qd_128_3 : decode qm128.2.2.1 3 = .ok (.aload_n 0, 1) := by decide +kernel
theorem qd_128_4 : decode qm128.2.2.1 4 = .ok (.getfield 67, 3) := by decide +kernel
theorem qd_128_7 : decode qm128.2.2.1 7 = .ok (.if_icmp .ge 21, 3) := by decide +kernel
theorem qd_128_10 : decode qm128.2.2.1 10 = .ok (.aload_n 0, 1) := by decide +kernel
theorem qd_128_11 : decode qm128.2.2.1 11 = .ok (.getfield 16, 3) := by decide +kernel
theorem qd_128_14 : decode qm128.2.2.1 14 = .ok (.iload_n 1, 1) := by decide +kernel
theorem qd_128_15 : decode qm128.2.2.1 15 = .ok (.aload_n 0, 1) := by decide +kernel
theorem qd_128_16 : decode qm128.2.2.1 16 = .ok (.getfield 13, 3) := by decide +kernel
theorem qd_128_19 : decode qm128.2.2.1 19 = .ok (.iload_n 1, 1) := by decide +kernel
theorem qd_128_20 : decode qm128.2.2.1 20 = .ok (.iaload, 1) := by decide +kernel
theorem qd_128_21 : decode qm128.2.2.1 21 = .ok (.iastore, 1) := by decide +kernel
theorem qd_128_22 : decode qm128.2.2.1 22 = .ok (.iinc 1 1, 3) := by decide +kernel
theorem qd_128_25 : decode qm128.2.2.1 25 = .ok (.goto (-23), 3) := by decide +kernel
theorem qd_128_28 : decode qm128.2.2.1 28 = .ok (.aload_n 0, 1) := by decide +kernel
theorem qd_128_29 : decode qm128.2.2.1 29 = .ok (.aload_n 0, 1) := by decide +kernel
theorem qd_128_30 : decode qm128.2.2.1 30 = .ok (.getfield 67, 3) := by decide +kernel
theorem qd_128_33 : decode qm128.2.2.1 33 = .ok (.putfield 73, 3) := by decide +kernel
theorem qd_128_36 : decode qm128.2.2.1 36 = .ok (.aload_n 0, 1) := by decide +kernel
theorem qd_128_37 : decode qm128.2.2.1 37 = .ok (.iconst 0, 1) := by decide +kernel
theorem qd_128_38 : decode qm128.2.2.1 38 = .ok (.putfield 70, 3) := by decide +kernel
theorem qd_128_41 : decode qm128.2.2.1 41 = .ok (.aload_n 0, 1) := by decide +kernel
theorem qd_128_42 : decode qm128.2.2.1 42 = .ok (.bipush (-2), 2) := by decide +kernel
theorem qd_128_44 : decode qm128.2.2.1 44 = .ok (.putfield 19, 3) := by decide +kernel
theorem qd_128_47 : decode qm128.2.2.1 47 = .ok (.aload_n 0, 1) := by decide +kernel
theorem qd_128_48 : decode qm128.2.2.1 48 = .ok (.iconst 0, 1) := by decide +kernel
theorem qd_128_49 : decode qm128.2.2.1 49 = .ok (.putfield 239, 3) := by decide +kernel
theorem qd_128_52 : decode qm128.2.2.1 52 = .ok (.aload_n 0, 1) := by decide +kernel
theorem qd_128_53 : decode qm128.2.2.1 53 = .ok (.iconst 1, 1) := by decide +kernel
theorem qd_128_54 : decode qm128.2.2.1 54 = .ok (.putfield 95, 3) := by decide +kernel
theorem qd_128_57 : decode qm128.2.2.1 57 = .ok (.iconst 0, 1) := by decide +kernel
theorem qd_128_58 : decode qm128.2.2.1 58 = .ok (.istore_n 1, 1) := by decide +kernel
theorem qd_128_59 : decode qm128.2.2.1 59 = .ok (.iload_n 1, 1) := by decide +kernel
theorem qd_128_60 : decode qm128.2.2.1 60 = .ok (.bipush 9, 2) := by decide +kernel
theorem qd_128_62 : decode qm128.2.2.1 62 = .ok (.if_icmp .ge 16, 3) := by decide +kernel
theorem qd_128_65 : decode qm128.2.2.1 65 = .ok (.aload_n 0, 1) := by decide +kernel
theorem qd_128_66 : decode qm128.2.2.1 66 = .ok (.getfield 47, 3) := by decide +kernel
theorem qd_128_69 : decode qm128.2.2.1 69 = .ok (.iload_n 1, 1) := by decide +kernel
theorem qd_128_70 : decode qm128.2.2.1 70 = .ok (.iconst (-1), 1) := by decide +kernel
theorem qd_128_71 : decode qm128.2.2.1 71 = .ok (.iastore, 1) := by decide +kernel
theorem qd_128_72 : decode qm128.2.2.1 72 = .ok (.iinc 1 1, 3) := by decide +kernel
theorem qd_128_75 : decode qm128.2.2.1 75 = .ok (.goto (-16), 3) := by decide +kernel
theorem qd_128_78 : decode qm128.2.2.1 78 = .ok (.aload_n 0, 1) := by decide +kernel
theorem qd_128_79 : decode qm128.2.2.1 79 = .ok (.invokevirtual 256, 3) := by decide +kernel
theorem qd_128_82 : decode qm128.2.2.1 82 = .ok (.aload_n 0, 1) := by decide +kernel
theorem qd_128_83 : decode qm128.2.2.1 83 = .ok (.aload_n 0, 1) := by decide +kernel
theorem qd_128_84 : decode qm128.2.2.1 84 = .ok (.getfield 19, 3) := by decide +kernel
theorem qd_128_87 : decode qm128.2.2.1 87 = .ok (.ifCond .ge 7, 3) := by decide +kernel
theorem qd_128_90 : decode qm128.2.2.1 90 = .ok (.iconst 1, 1) := by decide +kernel
theorem qd_128_91 : decode qm128.2.2.1 91 = .ok (.goto 4, 3) := by decide +kernel
theorem qd_128_94 : decode qm128.2.2.1 94 = .ok (.iconst 0, 1) := by decide +kernel
theorem qd_128_95 : decode qm128.2.2.1 95 = .ok (.putfield 259, 3) := by decide +kernel
theorem qd_128_98 : decode qm128.2.2.1 98 = .ok (.aload_n 0, 1) := by decide +kernel
theorem qd_128_99 : decode qm128.2.2.1 99 = .ok (.aload_n 0, 1) := by decide +kernel
theorem qd_128_100 : decode qm128.2.2.1 100 = .ok (.getfield 259, 3) := by decide +kernel
theorem qd_128_103 : decode qm128.2.2.1 103 = .ok (.ifCond .eq 7, 3) := by decide +kernel
theorem qd_128_106 : decode qm128.2.2.1 106 = .ok (.iconst 0, 1) := by decide +kernel
theorem qd_128_107 : decode qm128.2.2.1 107 = .ok (.goto 15, 3) := by decide +kernel
theorem qd_128_110 : decode qm128.2.2.1 110 = .ok (.aload_n 0, 1) := by decide +kernel
theorem qd_128_111 : decode qm128.2.2.1 111 = .ok (.getfield 239, 3) := by decide +kernel
theorem qd_128_114 : decode qm128.2.2.1 114 = .ok (.ifCond .eq 7, 3) := by decide +kernel
theorem qd_128_117 : decode qm128.2.2.1 117 = .ok (.iconst 2, 1) := by decide +kernel
theorem qd_128_118 : decode qm128.2.2.1 118 = .ok (.goto 4, 3) := by decide +kernel
theorem qd_128_121 : decode qm128.2.2.1 121 = .ok (.iconst 1, 1) := by decide +kernel
theorem qd_128_122 : decode qm128.2.2.1 122 = .ok (.putfield 60, 3) := by decide +kernel
theorem qd_128_125 : decode qm128.2.2.1 125 = .ok (.aload_n 0, 1) := by decide +kernel
theorem qd_128_126 : decode qm128.2.2.1 126 = .ok (.getfield 259, 3) := by decide +kernel
theorem qd_128_129 : decode qm128.2.2.1 129 = .ok (.ifCond .eq 12, 3) := by decide +kernel
theorem qd_128_132 : decode qm128.2.2.1 132 = .ok (.aload_n 0, 1) := by decide +kernel
theorem qd_128_133 : decode qm128.2.2.1 133 = .ok (.bipush 8, 2) := by decide +kernel
theorem qd_128_135 : decode qm128.2.2.1 135 = .ok (.invokevirtual 91, 3) := by decide +kernel
theorem qd_128_138 : decode qm128.2.2.1 138 = .ok (.goto 4, 3) := by decide +kernel
theorem qd_128_141 : decode qm128.2.2.1 141 = .ok (.iconst 0, 1) := by decide +kernel
theorem qd_128_142 : decode qm128.2.2.1 142 = .ok (.ireturn, 1) := by decide +kernel
theorem qd_129_0 : decode qm129.2.2.1 0 = .ok (.aload_n 0, 1) := by decide +kernel
theorem qd_129_1 : decode qm129.2.2.1 1 = .ok (.invokevirtual 155, 3) := by decide +kernel
theorem qd_129_4 : decode qm129.2.2.1 4 = .ok (.ldc 238, 2) := by decide +kernel
theorem qd_129_6 : decode qm129.2.2.1 6 = .ok (.if_icmp .eq 16, 3) := by decide +kernel
theorem qd_129_9 : decode qm129.2.2.1 9 = .ok (.aload_n 0, 1) := by decide +kernel
theorem qd_129_10 : decode qm129.2.2.1 10 = .ok (.invokevirtual 80, 3) := by decide +kernel
theorem qd_129_13 : decode qm129.2.2.1 13 = .ok (.ifCond .eq 9, 3) := by decide +kernel
theorem qd_129_16 : decode qm129.2.2.1 16 = .ok (.aload_n 0, 1) := by decide +kernel
theorem qd_129_17 : decode qm129.2.2.1 17 = .ok (.iconst 0, 1) := by decide +kernel
theorem qd_129_18 : decode qm129.2.2.1 18 = .ok (.invokevirtual 76, 3) := by decide +kernel
theorem qd_129_21 : decode qm129.2.2.1 21 = .ok (.pop, 1) := by decide +kernel
theorem qd_129_22 : decode qm129.2.2.1 22 = .ok (.aload_n 0, 1) := by decide +kernel
theorem qd_129_23 : decode qm129.2.2.1 23 = .ok (.invokevirtual 88, 3) := by decide +kernel
theorem qd_129_26 : decode qm129.2.2.1 26 = .ok (.istore_n 1, 1) := by decide +kernel
theorem qd_129_27 : decode qm129.2.2.1 27 = .ok (.aload_n 0, 1) := by decide +kernel
theorem qd_129_28 : decode qm129.2.2.1 28 = .ok (.invokevirtual 88, 3) := by decide +kernel
theorem qd_129_31 : decode qm129.2.2.1 31 = .ok (.istore_n 2, 1) := by decide +kernel
theorem qd_129_32 : decode qm129.2.2.1 32 = .ok (.aload_n 0, 1) := by decide +kernel
theorem qd_129_33 : decode qm129.2.2.1 33 = .ok (.invokevirtual 80, 3) := by decide +kernel
theorem qd_129_36 : decode qm129.2.2.1 36 = .ok (.ifCond .eq 41, 3) := by decide +kernel
theorem qd_129_39 : decode qm129.2.2.1 39 = .ok (.iload_n 2, 1) := by decide +kernel
theorem qd_129_40 : decode qm129.2.2.1 40 = .ok (.bipush 45, 2) := by decide +kernel
theorem qd_129_42 : decode qm129.2.2.1 42 = .ok (.bipush 69, 2) := by decide +kernel
theorem qd_129_44 : decode qm129.2.2.1 44 = .ok (.invokestatic 63, 3) := by decide +kernel
theorem qd_129_47 : decode qm129.2.2.1 47 = .ok (.ifCond .eq 19, 3) := by decide +kernel
theorem qd_129_50 : decode qm129.2.2.1 50 = .ok (.iload_n 2, 1) := by decide +kernel
theorem qd_129_51 : decode qm129.2.2.1 51 = .ok (.bipush 55, 2) := by decide +kernel
theorem qd_129_53 : decode qm129.2.2.1 53 = .ok (.if_icmp .le 24, 3) := by decide +kernel
theorem qd_129_56 : decode qm129.2.2.1 56 = .ok (.iload_n 1, 1) := by decide +kernel
theorem qd_129_57 : decode qm129.2.2.1 57 = .ok (.ifCond .eq 20, 3) := by decide +kernel
theorem qd_129_60 : decode qm129.2.2.1 60 = .ok (.iload_n 1, 1) := by decide +kernel
theorem qd_129_61 : decode qm129.2.2.1 61 = .ok (.ldc 231, 2) := by decide +kernel
theorem qd_129_63 : decode qm129.2.2.1 63 = .ok (.if_icmp .eq 14, 3) := by decide +kernel
theorem qd_129_66 : decode qm129.2.2.1 66 = .ok (.aload_n 0, 1) := by decide +kernel
theorem qd_129_67 : decode qm129.2.2.1 67 = .ok (.iconst 1, 1) := by decide +kernel
theorem qd_129_68 : decode qm129.2.2.1 68 = .ok (.putfield 239, 3) := by decide +kernel
theorem qd_129_71 : decode qm129.2.2.1 71 = .ok (.aload_n 0, 1) := by decide +kernel
theorem qd_129_72 : decode qm129.2.2.1 72 = .ok (.iconst 4, 1) := by decide +kernel
theorem qd_129_73 : decode qm129.2.2.1 73 = .ok (.invokevirtual 76, 3) := by decide +kernel
theorem qd_129_76 : decode qm129.2.2.1 76 = .ok (.pop, 1) := by decide +kernel
theorem qd_129_77 : decode qm129.2.2.1 77 = .ok (.aload_n 0, 1) := by decide +kernel
theorem qd_129_78 : decode qm129.2.2.1 78 = .ok (.invokevirtual 80, 3) := by decide +kernel
theorem qd_129_81 : decode qm129.2.2.1 81 = .ok (.ifCond .eq 7, 3) := by decide +kernel
theorem qd_129_84 : decode qm129.2.2.1 84 = .ok (.aload_n 0, 1) := by decide +kernel
theorem qd_129_85 : decode qm129.2.2.1 85 = .ok (.invokevirtual 243, 3) := by decide +kernel
theorem qd_129_88 : decode qm129.2.2.1 88 = .ok (.aload_n 0, 1) := by decide +kernel
theorem qd_129_89 : decode qm129.2.2.1 89 = .ok (.invokevirtual 80, 3) := by decide +kernel
theorem qd_129_92 : decode qm129.2.2.1 92 = .ok (.ifCond .eq 7, 3) := by decide +kernel
theorem qd_129_95 : decode qm129.2.2.1 95 = .ok (.aload_n 0, 1) := by decide +kernel
theorem qd_129_96 : decode qm129.2.2.1 96 = .ok (.invokevirtual 246, 3) := by decide +kernel
theorem qd_129_99 : decode qm129.2.2.1 99 = .ok (.aload_n 0, 1) := by decide +kernel
theorem qd_129_100 : decode qm129.2.2.1 100 = .ok (.invokevirtual 80, 3) := by decide +kernel
theorem qd_129_103 : decode qm129.2.2.1 103 = .ok (.ifCond .eq 7, 3) := by decide +kernel
theorem qd_129_106 : decode qm129.2.2.1 106 = .ok (.aload_n 0, 1) := by decide +kernel
theorem qd_129_107 : decode qm129.2.2.1 107 = .ok (.invokevirtual 249, 3) := by decide +kernel
theorem qd_129_110 : decode qm129.2.2.1 110 = .ok (.aload_n 0, 1) := by decide +kernel
theorem qd_129_111 : decode qm129.2.2.1 111 = .ok (.invokevirtual 80, 3) := by decide +kernel
theorem qd_129_114 : decode qm129.2.2.1 114 = .ok (.ifCond .eq 8, 3) := by decide +kernel
theorem qd_129_117 : decode qm129.2.2.1 117 = .ok (.aload_n 0, 1) := by decide +kernel
theorem qd_129_118 : decode qm129.2.2.1 118 = .ok (.iconst 0, 1) := by decide +kernel
theorem qd_129_119 : decode qm129.2.2.1 119 = .ok (.invokevirtual 252, 3) := by decide +kernel
theorem qd_129_122 : decode qm129.2.2.1 122 = .ok (.aload_n 0, 1) := by decide +kernel
theorem qd_129_123 : decode qm129.2.2.1 123 = .ok (.invokevirtual 80, 3) := by decide +kernel
theorem qd_129_126 : decode qm129.2.2.1 126 = .ok (.ifCond .eq 8, 3) := by decide +kernel
theorem qd_129_129 : decode qm129.2.2.1 129 = .ok (.aload_n 0, 1) := by decide +kernel
theorem qd_129_130 : decode qm129.2.2.1 130 = .ok (.iconst 1, 1) := by decide +kernel
theorem qd_129_131 : decode qm129.2.2.1 131 = .ok (.invokevirtual 252, 3) := by decide +kernel
theorem qd_129_134 : decode qm129.2.2.1 134 = .ok (.aload_n 0, 1) := by decide +kernel
theorem qd_129_135 : decode qm129.2.2.1 135 = .ok (.invokevirtual 80, 3) := by decide +kernel
theorem qd_129_138 : decode qm129.2.2.1 138 = .ok (.ifCond .eq 10, 3) := by decide +kernel
theorem qd_129_141 : decode qm129.2.2.1 141 = .ok (.aload_n 0, 1) := by decide +kernel
theorem qd_129_142 : decode qm129.2.2.1 142 = .ok (.iconst 2, 1) := by decide +kernel
theorem qd_129_143 : decode qm129.2.2.1 143 = .ok (.iconst 0, 1) := by decide +kernel
theorem qd_129_144 : decode qm129.2.2.1 144 = .ok (.invokevirtual 207, 3) := by decide +kernel
theorem qd_129_147 : decode qm129.2.2.1 147 = .ok (.pop, 1) := by decide +kernel
theorem qd_129_148 : decode qm129.2.2.1 148 = .ok (.aload_n 0, 1) := by decide +kernel
theorem qd_129_149 : decode qm129.2.2.1 149 = .ok (.invokevirtual 80, 3) := by decide +kernel
theorem qd_129_152 : decode qm129.2.2.1 152 = .ok (.ifCond .eq 23, 3) := by decide +kernel
theorem qd_129_155 : decode qm129.2.2.1 155 = .ok (.aload_n 0, 1) := by decide +kernel
theorem qd_129_156 : decode qm129.2.2.1 156 = .ok (.getfield 70, 3) := by decide +kernel
theorem qd_129_159 : decode qm129.2.2.1 159 = .ok (.aload_n 0, 1) := by decide +kernel
theorem qd_129_160 : decode qm129.2.2.1 160 = .ok (.getfield 73, 3) := by decide +kernel
theorem qd_129_163 : decode qm129.2.2.1 163 = .ok (.if_icmp .ge 12, 3) := by decide +kernel
theorem qd_129_166 : decode qm129.2.2.1 166 = .ok (.aload_n 0, 1) := by decide +kernel
theorem qd_129_167 : decode qm129.2.2.1 167 = .ok (.aload_n 0, 1) := by decide +kernel
theorem qd_129_168 : decode qm129.2.2.1 168 = .ok (.getfield 70, 3) := by decide +kernel
theorem qd_129_171 : decode qm129.2.2.1 171 = .ok (.invokevirtual 76, 3) := by decide +kernel
theorem qd_129_174 : decode qm129.2.2.1 174 = .ok (.pop, 1) := by decide +kernel
theorem qd_129_175 : decode qm129.2.2.1 175 = .ok (.aload_n 0, 1) := by decide +kernel
theorem qd_129_176 : decode qm129.2.2.1 176 = .ok (.getfield 47, 3) := by decide +kernel
theorem qd_129_179 : decode qm129.2.2.1 179 = .ok (.bipush 8, 2) := by decide +kernel
theorem qd_129_181 : decode qm129.2.2.1 181 = .ok (.iaload, 1) := by decide +kernel
theorem qd_129_182 : decode qm129.2.2.1 182 = .ok (.ifCond .ge 7, 3) := by decide +kernel
theorem qd_129_185 : decode qm129.2.2.1 185 = .ok (.iconst 0, 1) := by decide +kernel
theorem qd_129_186 : decode qm129.2.2.1 186 = .ok (.goto 10, 3) := by decide +kernel
theorem qd_129_189 : decode qm129.2.2.1 189 = .ok (.aload_n 0, 1) := by decide +kernel
theorem qd_129_190 : decode qm129.2.2.1 190 = .ok (.getfield 47, 3) := by decide +kernel
theorem qd_129_193 : decode qm129.2.2.1 193 = .ok (.bipush 8, 2) := by decide +kernel
theorem qd_129_195 : decode qm129.2.2.1 195 = .ok (.iaload, 1) := by decide +kernel
theorem qd_129_196 : decode qm129.2.2.1 196 = .ok (.istore_n 3, 1) := by decide +kernel
theorem qd_129_197 : decode qm129.2.2.1 197 = .ok (.iconst 1, 1) := by decide +kernel
theorem qd_129_198 : decode qm129.2.2.1 198 = .ok (.istore 4, 2) := by decide +kernel
theorem qd_129_200 : decode qm129.2.2.1 200 = .ok (.iload 4, 2) := by decide +kernel
theorem qd_129_202 : decode qm129.2.2.1 202 = .ok (.aload_n 0, 1) := by decide +kernel
theorem qd_129_203 : decode qm129.2.2.1 203 = .ok (.getfield 95, 3) := by decide +kernel
theorem qd_129_206 : decode qm129.2.2.1 206 = .ok (.if_icmp .ge 60, 3) := by decide +kernel
theorem qd_129_209 : decode qm129.2.2.1 209 = .ok (.aload_n 0, 1) := by decide +kernel
theorem qd_129_210 : decode qm129.2.2.1 210 = .ok (.invokevirtual 80, 3) := by decide +kernel
theorem qd_129_213 : decode qm129.2.2.1 213 = .ok (.ifCond .eq 53, 3) := by decide +kernel
theorem qd_129_216 : decode qm129.2.2.1 216 = .ok (.aload_n 0, 1) := by decide +kernel
theorem qd_129_217 : decode qm129.2.2.1 217 = .ok (.iload 4, 2) := by decide +kernel
theorem qd_129_219 : decode qm129.2.2.1 219 = .ok (.invokevirtual 137, 3) := by decide +kernel
theorem qd_129_222 : decode qm129.2.2.1 222 = .ok (.bipush 17, 2) := by decide +kernel
theorem qd_129_224 : decode qm129.2.2.1 224 = .ok (.if_icmp .eq 14, 3) := by decide +kernel
theorem qd_129_227 : decode qm129.2.2.1 227 = .ok (.aload_n 0, 1) := by decide +kernel
theorem qd_129_228 : decode qm129.2.2.1 228 = .ok (.iload 4, 2) := by decide +kernel
theorem qd_129_230 : decode qm129.2.2.1 230 = .ok (.invokevirtual 137, 3) := by decide +kernel
theorem qd_129_233 : decode qm129.2.2.1 233 = .ok (.bipush 18, 2) := by decide +kernel
theorem qd_129_235 : decode qm129.2.2.1 235 = .ok (.if_icmp .ne 25, 3) := by decide +kernel
theorem qd_129_238 : decode qm129.2.2.1 238 = .ok (.aload_n 0, 1) := by decide +kernel
theorem qd_129_239 : decode qm129.2.2.1 239 = .ok (.iload 4, 2) := by decide +kernel
theorem qd_129_241 : decode qm129.2.2.1 241 = .ok (.invokevirtual 149, 3) := by decide +kernel
theorem qd_129_244 : decode qm129.2.2.1 244 = .ok (.iload_n 3, 1) := by decide +kernel
theorem qd_129_245 : decode qm129.2.2.1 245 = .ok (.if_icmp .lt 15, 3) := by decide +kernel
theorem qd_129_248 : decode qm129.2.2.1 248 = .ok (.aload_n 0, 1) := by decide +kernel
theorem qd_129_249 : decode qm129.2.2.1 249 = .ok (.aload_n 0, 1) := by decide +kernel
theorem qd_129_250 : decode qm129.2.2.1 250 = .ok (.getfield 23, 3) := by decide +kernel
theorem qd_129_253 : decode qm129.2.2.1 253 = .ok (.iload 4, 2) := by decide +kernel
theorem qd_129_255 : decode qm129.2.2.1 255 = .ok (.iaload, 1) := by decide +kernel
theorem qd_129_256 : decode qm129.2.2.1 256 = .ok (.invokevirtual 76, 3) := by decide +kernel
theorem qd_129_259 : decode qm129.2.2.1 259 = .ok (.pop, 1) := by decide +kernel
theorem qd_129_260 : decode qm129.2.2.1 260 = .ok (.iinc 4 1, 3) := by decide +kernel
theorem qd_129_263 : decode qm129.2.2.1 263 = .ok (.goto (-63), 3) := by decide +kernel
theorem qd_129_266 : decode qm129.2.2.1 266 = .ok (.return_, 1) := by decide +kernel
