/-! the constructors' code (printed by a program of mine: wip/whole/gen_ctor.py) -/
theorem qd_0_0 : decode qm0.2.2.1 0 = .ok (.aload_n 0, 1) := by decide +kernel
theorem qd_0_1 : decode qm0.2.2.1 1 = .ok (.invokespecial 1, 3) := by decide +kernel
theorem qd_0_4 : decode qm0.2.2.1 4 = .ok (.aload_n 0, 1) := by decide +kernel
theorem qd_0_5 : decode qm0.2.2.1 5 = .ok (.new 7, 3) := by decide +kernel
theorem qd_0_8 : decode qm0.2.2.1 8 = .ok (.dup, 1) := by decide +kernel
theorem qd_0_9 : decode qm0.2.2.1 9 = .ok (.invokespecial 9, 3) := by decide +kernel
theorem qd_0_12 : decode qm0.2.2.1 12 = .ok (.putfield 10, 3) := by decide +kernel
theorem qd_0_15 : decode qm0.2.2.1 15 = .ok (.aload_n 0, 1) := by decide +kernel
theorem qd_0_16 : decode qm0.2.2.1 16 = .ok (.new 16, 3) := by decide +kernel
theorem qd_0_19 : decode qm0.2.2.1 19 = .ok (.dup, 1) := by decide +kernel
theorem qd_0_20 : decode qm0.2.2.1 20 = .ok (.aload_n 0, 1) := by decide +kernel
theorem qd_0_21 : decode qm0.2.2.1 21 = .ok (.getfield 10, 3) := by decide +kernel
theorem qd_0_24 : decode qm0.2.2.1 24 = .ok (.invokespecial 18, 3) := by decide +kernel
theorem qd_0_27 : decode qm0.2.2.1 27 = .ok (.putfield 21, 3) := by decide +kernel
theorem qd_0_30 : decode qm0.2.2.1 30 = .ok (.aload_n 0, 1) := by decide +kernel
theorem qd_0_31 : decode qm0.2.2.1 31 = .ok (.new 25, 3) := by decide +kernel
theorem qd_0_34 : decode qm0.2.2.1 34 = .ok (.dup, 1) := by decide +kernel
theorem qd_0_35 : decode qm0.2.2.1 35 = .ok (.aload_n 0, 1) := by decide +kernel
theorem qd_0_36 : decode qm0.2.2.1 36 = .ok (.getfield 10, 3) := by decide +kernel
theorem qd_0_39 : decode qm0.2.2.1 39 = .ok (.aload_n 0, 1) := by decide +kernel
theorem qd_0_40 : decode qm0.2.2.1 40 = .ok (.getfield 21, 3) := by decide +kernel
theorem qd_0_43 : decode qm0.2.2.1 43 = .ok (.invokespecial 27, 3) := by decide +kernel
theorem qd_0_46 : decode qm0.2.2.1 46 = .ok (.putfield 30, 3) := by decide +kernel
theorem qd_0_49 : decode qm0.2.2.1 49 = .ok (.aload_n 0, 1) := by decide +kernel
theorem qd_0_50 : decode qm0.2.2.1 50 = .ok (.new 34, 3) := by decide +kernel
theorem qd_0_53 : decode qm0.2.2.1 53 = .ok (.dup, 1) := by decide +kernel
theorem qd_0_54 : decode qm0.2.2.1 54 = .ok (.aload_n 0, 1) := by decide +kernel
theorem qd_0_55 : decode qm0.2.2.1 55 = .ok (.getfield 10, 3) := by decide +kernel
theorem qd_0_58 : decode qm0.2.2.1 58 = .ok (.aload_n 0, 1) := by decide +kernel
theorem qd_0_59 : decode qm0.2.2.1 59 = .ok (.getfield 21, 3) := by decide +kernel
theorem qd_0_62 : decode qm0.2.2.1 62 = .ok (.invokespecial 36, 3) := by decide +kernel
theorem qd_0_65 : decode qm0.2.2.1 65 = .ok (.putfield 37, 3) := by decide +kernel
theorem qd_0_68 : decode qm0.2.2.1 68 = .ok (.aload_n 0, 1) := by decide +kernel
theorem qd_0_69 : decode qm0.2.2.1 69 = .ok (.new 41, 3) := by decide +kernel
theorem qd_0_72 : decode qm0.2.2.1 72 = .ok (.dup, 1) := by decide +kernel
theorem qd_0_73 : decode qm0.2.2.1 73 = .ok (.aload_n 0, 1) := by decide +kernel
theorem qd_0_74 : decode qm0.2.2.1 74 = .ok (.getfield 10, 3) := by decide +kernel
theorem qd_0_77 : decode qm0.2.2.1 77 = .ok (.aload_n 0, 1) := by decide +kernel
theorem qd_0_78 : decode qm0.2.2.1 78 = .ok (.getfield 21, 3) := by decide +kernel
theorem qd_0_81 : decode qm0.2.2.1 81 = .ok (.aload_n 0, 1) := by decide +kernel
theorem qd_0_82 : decode qm0.2.2.1 82 = .ok (.getfield 37, 3) := by decide +kernel
theorem qd_0_85 : decode qm0.2.2.1 85 = .ok (.invokespecial 43, 3) := by decide +kernel
theorem qd_0_88 : decode qm0.2.2.1 88 = .ok (.putfield 46, 3) := by decide +kernel
theorem qd_0_91 : decode qm0.2.2.1 91 = .ok (.aload_n 0, 1) := by decide +kernel
theorem qd_0_92 : decode qm0.2.2.1 92 = .ok (.new 50, 3) := by decide +kernel
theorem qd_0_95 : decode qm0.2.2.1 95 = .ok (.dup, 1) := by decide +kernel
theorem qd_0_96 : decode qm0.2.2.1 96 = .ok (.aload_n 0, 1) := by decide +kernel
theorem qd_0_97 : decode qm0.2.2.1 97 = .ok (.getfield 21, 3) := by decide +kernel
theorem qd_0_100 : decode qm0.2.2.1 100 = .ok (.invokespecial 52, 3) := by decide +kernel
theorem qd_0_103 : decode qm0.2.2.1 103 = .ok (.putfield 55, 3) := by decide +kernel
theorem qd_0_106 : decode qm0.2.2.1 106 = .ok (.aload_n 0, 1) := by decide +kernel
theorem qd_0_107 : decode qm0.2.2.1 107 = .ok (.iconst 0, 1) := by decide +kernel
theorem qd_0_108 : decode qm0.2.2.1 108 = .ok (.putfield 59, 3) := by decide +kernel
theorem qd_0_111 : decode qm0.2.2.1 111 = .ok (.return_, 1) := by decide +kernel
theorem qd_1_0 : decode qm1.2.2.1 0 = .ok (.aload_n 0, 1) := by decide +kernel
theorem qd_1_1 : decode qm1.2.2.1 1 = .ok (.invokespecial 3, 3) := by decide +kernel
theorem qd_1_4 : decode qm1.2.2.1 4 = .ok (.aload_n 0, 1) := by decide +kernel
theorem qd_1_5 : decode qm1.2.2.1 5 = .ok (.sipush 500, 3) := by decide +kernel
theorem qd_1_8 : decode qm1.2.2.1 8 = .ok (.newarray .int, 2) := by decide +kernel
theorem qd_1_10 : decode qm1.2.2.1 10 = .ok (.putfield 9, 3) := by decide +kernel
theorem qd_1_13 : decode qm1.2.2.1 13 = .ok (.aload_n 0, 1) := by decide +kernel
theorem qd_1_14 : decode qm1.2.2.1 14 = .ok (.iconst 0, 1) := by decide +kernel
theorem qd_1_15 : decode qm1.2.2.1 15 = .ok (.putfield 15, 3) := by decide +kernel
theorem qd_1_18 : decode qm1.2.2.1 18 = .ok (.aload_n 0, 1) := by decide +kernel
theorem qd_1_19 : decode qm1.2.2.1 19 = .ok (.iconst 0, 1) := by decide +kernel
theorem qd_1_20 : decode qm1.2.2.1 20 = .ok (.putfield 19, 3) := by decide +kernel
theorem qd_1_23 : decode qm1.2.2.1 23 = .ok (.aload_n 0, 1) := by decide +kernel
theorem qd_1_24 : decode qm1.2.2.1 24 = .ok (.bipush (-2), 2) := by decide +kernel
theorem qd_1_26 : decode qm1.2.2.1 26 = .ok (.putfield 22, 3) := by decide +kernel
theorem qd_1_29 : decode qm1.2.2.1 29 = .ok (.return_, 1) := by decide +kernel
theorem qd_2_0 : decode qm2.2.2.1 0 = .ok (.aload_n 0, 1) := by decide +kernel
theorem qd_2_1 : decode qm2.2.2.1 1 = .ok (.invokespecial 3, 3) := by decide +kernel
theorem qd_2_4 : decode qm2.2.2.1 4 = .ok (.aload_n 0, 1) := by decide +kernel
theorem qd_2_5 : decode qm2.2.2.1 5 = .ok (.aload_n 1, 1) := by decide +kernel
theorem qd_2_6 : decode qm2.2.2.1 6 = .ok (.putfield 9, 3) := by decide +kernel
theorem qd_2_9 : decode qm2.2.2.1 9 = .ok (.aload_n 0, 1) := by decide +kernel
theorem qd_2_10 : decode qm2.2.2.1 10 = .ok (.new 15, 3) := by decide +kernel
theorem qd_2_13 : decode qm2.2.2.1 13 = .ok (.dup, 1) := by decide +kernel
theorem qd_2_14 : decode qm2.2.2.1 14 = .ok (.bipush 6, 2) := by decide +kernel
theorem qd_2_16 : decode qm2.2.2.1 16 = .ok (.sipush 250, 3) := by decide +kernel
theorem qd_2_19 : decode qm2.2.2.1 19 = .ok (.invokespecial 17, 3) := by decide +kernel
theorem qd_2_22 : decode qm2.2.2.1 22 = .ok (.putfield 20, 3) := by decide +kernel
theorem qd_2_25 : decode qm2.2.2.1 25 = .ok (.aload_n 0, 1) := by decide +kernel
theorem qd_2_26 : decode qm2.2.2.1 26 = .ok (.sipush 500, 3) := by decide +kernel
theorem qd_2_29 : decode qm2.2.2.1 29 = .ok (.newarray .int, 2) := by decide +kernel
theorem qd_2_31 : decode qm2.2.2.1 31 = .ok (.putfield 24, 3) := by decide +kernel
theorem qd_2_34 : decode qm2.2.2.1 34 = .ok (.aload_n 0, 1) := by decide +kernel
theorem qd_2_35 : decode qm2.2.2.1 35 = .ok (.iconst 0, 1) := by decide +kernel
theorem qd_2_36 : decode qm2.2.2.1 36 = .ok (.putfield 28, 3) := by decide +kernel
theorem qd_2_39 : decode qm2.2.2.1 39 = .ok (.return_, 1) := by decide +kernel
theorem qd_3_0 : decode qm3.2.2.1 0 = .ok (.aload_n 0, 1) := by decide +kernel
theorem qd_3_1 : decode qm3.2.2.1 1 = .ok (.invokespecial 3, 3) := by decide +kernel
theorem qd_3_4 : decode qm3.2.2.1 4 = .ok (.aload_n 0, 1) := by decide +kernel
theorem qd_3_5 : decode qm3.2.2.1 5 = .ok (.iload_n 1, 1) := by decide +kernel
theorem qd_3_6 : decode qm3.2.2.1 6 = .ok (.putfield 9, 3) := by decide +kernel
theorem qd_3_9 : decode qm3.2.2.1 9 = .ok (.aload_n 0, 1) := by decide +kernel
theorem qd_3_10 : decode qm3.2.2.1 10 = .ok (.iload_n 1, 1) := by decide +kernel
theorem qd_3_11 : decode qm3.2.2.1 11 = .ok (.iload_n 2, 1) := by decide +kernel
theorem qd_3_12 : decode qm3.2.2.1 12 = .ok (.imul, 1) := by decide +kernel
theorem qd_3_13 : decode qm3.2.2.1 13 = .ok (.newarray .int, 2) := by decide +kernel
theorem qd_3_15 : decode qm3.2.2.1 15 = .ok (.putfield 15, 3) := by decide +kernel
theorem qd_3_18 : decode qm3.2.2.1 18 = .ok (.aload_n 0, 1) := by decide +kernel
theorem qd_3_19 : decode qm3.2.2.1 19 = .ok (.iconst 0, 1) := by decide +kernel
theorem qd_3_20 : decode qm3.2.2.1 20 = .ok (.putfield 19, 3) := by decide +kernel
theorem qd_3_23 : decode qm3.2.2.1 23 = .ok (.return_, 1) := by decide +kernel
theorem qd_4_0 : decode qm4.2.2.1 0 = .ok (.aload_n 0, 1) := by decide +kernel
theorem qd_4_1 : decode qm4.2.2.1 1 = .ok (.invokespecial 3, 3) := by decide +kernel
theorem qd_4_4 : decode qm4.2.2.1 4 = .ok (.aload_n 0, 1) := by decide +kernel
theorem qd_4_5 : decode qm4.2.2.1 5 = .ok (.aload_n 1, 1) := by decide +kernel
theorem qd_4_6 : decode qm4.2.2.1 6 = .ok (.putfield 9, 3) := by decide +kernel
theorem qd_4_9 : decode qm4.2.2.1 9 = .ok (.aload_n 0, 1) := by decide +kernel
theorem qd_4_10 : decode qm4.2.2.1 10 = .ok (.aload_n 2, 1) := by decide +kernel
theorem qd_4_11 : decode qm4.2.2.1 11 = .ok (.putfield 15, 3) := by decide +kernel
theorem qd_4_14 : decode qm4.2.2.1 14 = .ok (.return_, 1) := by decide +kernel
theorem qd_5_0 : decode qm5.2.2.1 0 = .ok (.aload_n 0, 1) := by decide +kernel
theorem qd_5_1 : decode qm5.2.2.1 1 = .ok (.invokespecial 3, 3) := by decide +kernel
theorem qd_5_4 : decode qm5.2.2.1 4 = .ok (.aload_n 0, 1) := by decide +kernel
theorem qd_5_5 : decode qm5.2.2.1 5 = .ok (.aload_n 1, 1) := by decide +kernel
theorem qd_5_6 : decode qm5.2.2.1 6 = .ok (.putfield 9, 3) := by decide +kernel
theorem qd_5_9 : decode qm5.2.2.1 9 = .ok (.aload_n 0, 1) := by decide +kernel
theorem qd_5_10 : decode qm5.2.2.1 10 = .ok (.aload_n 2, 1) := by decide +kernel
theorem qd_5_11 : decode qm5.2.2.1 11 = .ok (.putfield 15, 3) := by decide +kernel
theorem qd_5_14 : decode qm5.2.2.1 14 = .ok (.aload_n 0, 1) := by decide +kernel
theorem qd_5_15 : decode qm5.2.2.1 15 = .ok (.new 19, 3) := by decide +kernel
theorem qd_5_18 : decode qm5.2.2.1 18 = .ok (.dup, 1) := by decide +kernel
theorem qd_5_19 : decode qm5.2.2.1 19 = .ok (.iconst 1, 1) := by decide +kernel
theorem qd_5_20 : decode qm5.2.2.1 20 = .ok (.sipush 250, 3) := by decide +kernel
theorem qd_5_23 : decode qm5.2.2.1 23 = .ok (.invokespecial 21, 3) := by decide +kernel
theorem qd_5_26 : decode qm5.2.2.1 26 = .ok (.putfield 24, 3) := by decide +kernel
theorem qd_5_29 : decode qm5.2.2.1 29 = .ok (.aload_n 0, 1) := by decide +kernel
theorem qd_5_30 : decode qm5.2.2.1 30 = .ok (.new 19, 3) := by decide +kernel
theorem qd_5_33 : decode qm5.2.2.1 33 = .ok (.dup, 1) := by decide +kernel
theorem qd_5_34 : decode qm5.2.2.1 34 = .ok (.iconst 1, 1) := by decide +kernel
theorem qd_5_35 : decode qm5.2.2.1 35 = .ok (.sipush 250, 3) := by decide +kernel
theorem qd_5_38 : decode qm5.2.2.1 38 = .ok (.invokespecial 21, 3) := by decide +kernel
theorem qd_5_41 : decode qm5.2.2.1 41 = .ok (.putfield 28, 3) := by decide +kernel
theorem qd_5_44 : decode qm5.2.2.1 44 = .ok (.aload_n 0, 1) := by decide +kernel
theorem qd_5_45 : decode qm5.2.2.1 45 = .ok (.new 19, 3) := by decide +kernel
theorem qd_5_48 : decode qm5.2.2.1 48 = .ok (.dup, 1) := by decide +kernel
theorem qd_5_49 : decode qm5.2.2.1 49 = .ok (.iconst 4, 1) := by decide +kernel
theorem qd_5_50 : decode qm5.2.2.1 50 = .ok (.bipush 62, 2) := by decide +kernel
theorem qd_5_52 : decode qm5.2.2.1 52 = .ok (.invokespecial 21, 3) := by decide +kernel
theorem qd_5_55 : decode qm5.2.2.1 55 = .ok (.putfield 31, 3) := by decide +kernel
theorem qd_5_58 : decode qm5.2.2.1 58 = .ok (.aload_n 0, 1) := by decide +kernel
theorem qd_5_59 : decode qm5.2.2.1 59 = .ok (.new 19, 3) := by decide +kernel
theorem qd_5_62 : decode qm5.2.2.1 62 = .ok (.dup, 1) := by decide +kernel
theorem qd_5_63 : decode qm5.2.2.1 63 = .ok (.iconst 2, 1) := by decide +kernel
theorem qd_5_64 : decode qm5.2.2.1 64 = .ok (.bipush 125, 2) := by decide +kernel
theorem qd_5_66 : decode qm5.2.2.1 66 = .ok (.invokespecial 21, 3) := by decide +kernel
theorem qd_5_69 : decode qm5.2.2.1 69 = .ok (.putfield 34, 3) := by decide +kernel
theorem qd_5_72 : decode qm5.2.2.1 72 = .ok (.return_, 1) := by decide +kernel
theorem qd_6_0 : decode qm6.2.2.1 0 = .ok (.aload_n 0, 1) := by decide +kernel
theorem qd_6_1 : decode qm6.2.2.1 1 = .ok (.invokespecial 3, 3) := by decide +kernel
theorem qd_6_4 : decode qm6.2.2.1 4 = .ok (.aload_n 0, 1) := by decide +kernel
theorem qd_6_5 : decode qm6.2.2.1 5 = .ok (.aload_n 1, 1) := by decide +kernel
theorem qd_6_6 : decode qm6.2.2.1 6 = .ok (.putfield 9, 3) := by decide +kernel
theorem qd_6_9 : decode qm6.2.2.1 9 = .ok (.aload_n 0, 1) := by decide +kernel
theorem qd_6_10 : decode qm6.2.2.1 10 = .ok (.aload_n 2, 1) := by decide +kernel
theorem qd_6_11 : decode qm6.2.2.1 11 = .ok (.putfield 15, 3) := by decide +kernel
theorem qd_6_14 : decode qm6.2.2.1 14 = .ok (.aload_n 0, 1) := by decide +kernel
theorem qd_6_15 : decode qm6.2.2.1 15 = .ok (.aload_n 3, 1) := by decide +kernel
theorem qd_6_16 : decode qm6.2.2.1 16 = .ok (.putfield 19, 3) := by decide +kernel
theorem qd_6_19 : decode qm6.2.2.1 19 = .ok (.aload_n 0, 1) := by decide +kernel
theorem qd_6_20 : decode qm6.2.2.1 20 = .ok (.new 23, 3) := by decide +kernel
theorem qd_6_23 : decode qm6.2.2.1 23 = .ok (.dup, 1) := by decide +kernel
theorem qd_6_24 : decode qm6.2.2.1 24 = .ok (.iconst 1, 1) := by decide +kernel
theorem qd_6_25 : decode qm6.2.2.1 25 = .ok (.sipush 250, 3) := by decide +kernel
theorem qd_6_28 : decode qm6.2.2.1 28 = .ok (.invokespecial 25, 3) := by decide +kernel
theorem qd_6_31 : decode qm6.2.2.1 31 = .ok (.putfield 28, 3) := by decide +kernel
theorem qd_6_34 : decode qm6.2.2.1 34 = .ok (.aload_n 0, 1) := by decide +kernel
theorem qd_6_35 : decode qm6.2.2.1 35 = .ok (.new 23, 3) := by decide +kernel
theorem qd_6_38 : decode qm6.2.2.1 38 = .ok (.dup, 1) := by decide +kernel
theorem qd_6_39 : decode qm6.2.2.1 39 = .ok (.bipush 8, 2) := by decide +kernel
theorem qd_6_41 : decode qm6.2.2.1 41 = .ok (.bipush 62, 2) := by decide +kernel
theorem qd_6_43 : decode qm6.2.2.1 43 = .ok (.invokespecial 25, 3) := by decide +kernel
theorem qd_6_46 : decode qm6.2.2.1 46 = .ok (.putfield 32, 3) := by decide +kernel
theorem qd_6_49 : decode qm6.2.2.1 49 = .ok (.aload_n 0, 1) := by decide +kernel
theorem qd_6_50 : decode qm6.2.2.1 50 = .ok (.new 23, 3) := by decide +kernel
theorem qd_6_53 : decode qm6.2.2.1 53 = .ok (.dup, 1) := by decide +kernel
theorem qd_6_54 : decode qm6.2.2.1 54 = .ok (.bipush 8, 2) := by decide +kernel
theorem qd_6_56 : decode qm6.2.2.1 56 = .ok (.bipush 62, 2) := by decide +kernel
theorem qd_6_58 : decode qm6.2.2.1 58 = .ok (.invokespecial 25, 3) := by decide +kernel
theorem qd_6_61 : decode qm6.2.2.1 61 = .ok (.putfield 35, 3) := by decide +kernel
theorem qd_6_64 : decode qm6.2.2.1 64 = .ok (.return_, 1) := by decide +kernel
theorem qd_7_0 : decode qm7.2.2.1 0 = .ok (.aload_n 0, 1) := by decide +kernel
theorem qd_7_1 : decode qm7.2.2.1 1 = .ok (.invokespecial 3, 3) := by decide +kernel
theorem qd_7_4 : decode qm7.2.2.1 4 = .ok (.aload_n 0, 1) := by decide +kernel
theorem qd_7_5 : decode qm7.2.2.1 5 = .ok (.aload_n 1, 1) := by decide +kernel
theorem qd_7_6 : decode qm7.2.2.1 6 = .ok (.putfield 9, 3) := by decide +kernel
theorem qd_7_9 : decode qm7.2.2.1 9 = .ok (.return_, 1) := by decide +kernel
theorem qd_122_0 : decode qm122.2.2.1 0 = .ok (.aload_n 0, 1) := by decide +kernel
theorem qd_122_1 : decode qm122.2.2.1 1 = .ok (.invokespecial 1, 3) := by decide +kernel
theorem qd_122_4 : decode qm122.2.2.1 4 = .ok (.aload_n 0, 1) := by decide +kernel
theorem qd_122_5 : decode qm122.2.2.1 5 = .ok (.sipush 203, 3) := by decide +kernel
theorem qd_122_8 : decode qm122.2.2.1 8 = .ok (.newarray .int, 2) := by decide +kernel
theorem qd_122_10 : decode qm122.2.2.1 10 = .ok (.dup, 1) := by decide +kernel
theorem qd_122_11 : decode qm122.2.2.1 11 = .ok (.iconst 0, 1) := by decide +kernel
theorem qd_122_12 : decode qm122.2.2.1 12 = .ok (.bipush 67, 2) := by decide +kernel
theorem qd_122_14 : decode qm122.2.2.1 14 = .ok (.iastore, 1) := by decide +kernel
theorem qd_122_15 : decode qm122.2.2.1 15 = .ok (.dup, 1) := by decide +kernel
theorem qd_122_16 : decode qm122.2.2.1 16 = .ok (.iconst 1, 1) := by decide +kernel
theorem qd_122_17 : decode qm122.2.2.1 17 = .ok (.bipush 111, 2) := by decide +kernel
theorem qd_122_19 : decode qm122.2.2.1 19 = .ok (.iastore, 1) := by decide +kernel
theorem qd_122_20 : decode qm122.2.2.1 20 = .ok (.dup, 1) := by decide +kernel
theorem qd_122_21 : decode qm122.2.2.1 21 = .ok (.iconst 2, 1) := by decide +kernel
theorem qd_122_22 : decode qm122.2.2.1 22 = .ok (.bipush 110, 2) := by decide +kernel
theorem qd_122_24 : decode qm122.2.2.1 24 = .ok (.iastore, 1) := by decide +kernel
theorem qd_122_25 : decode qm122.2.2.1 25 = .ok (.dup, 1) := by decide +kernel
theorem qd_122_26 : decode qm122.2.2.1 26 = .ok (.iconst 3, 1) := by decide +kernel
theorem qd_122_27 : decode qm122.2.2.1 27 = .ok (.bipush 115, 2) := by decide +kernel
theorem qd_122_29 : decode qm122.2.2.1 29 = .ok (.iastore, 1) := by decide +kernel
theorem qd_122_30 : decode qm122.2.2.1 30 = .ok (.dup, 1) := by decide +kernel
theorem qd_122_31 : decode qm122.2.2.1 31 = .ok (.iconst 4, 1) := by decide +kernel
theorem qd_122_32 : decode qm122.2.2.1 32 = .ok (.bipush 116, 2) := by decide +kernel
theorem qd_122_34 : decode qm122.2.2.1 34 = .ok (.iastore, 1) := by decide +kernel
theorem qd_122_35 : decode qm122.2.2.1 35 = .ok (.dup, 1) := by decide +kernel
theorem qd_122_36 : decode qm122.2.2.1 36 = .ok (.iconst 5, 1) := by decide +kernel
theorem qd_122_37 : decode qm122.2.2.1 37 = .ok (.bipush 97, 2) := by decide +kernel
theorem qd_122_39 : decode qm122.2.2.1 39 = .ok (.iastore, 1) := by decide +kernel
theorem qd_122_40 : decode qm122.2.2.1 40 = .ok (.dup, 1) := by decide +kernel
theorem qd_122_41 : decode qm122.2.2.1 41 = .ok (.bipush 6, 2) := by decide +kernel
theorem qd_122_43 : decode qm122.2.2.1 43 = .ok (.bipush 110, 2) := by decide +kernel
theorem qd_122_45 : decode qm122.2.2.1 45 = .ok (.iastore, 1) := by decide +kernel
theorem qd_122_46 : decode qm122.2.2.1 46 = .ok (.dup, 1) := by decide +kernel
theorem qd_122_47 : decode qm122.2.2.1 47 = .ok (.bipush 7, 2) := by decide +kernel
theorem qd_122_49 : decode qm122.2.2.1 49 = .ok (.bipush 116, 2) := by decide +kernel
theorem qd_122_51 : decode qm122.2.2.1 51 = .ok (.iastore, 1) := by decide +kernel
theorem qd_122_52 : decode qm122.2.2.1 52 = .ok (.dup, 1) := by decide +kernel
theorem qd_122_53 : decode qm122.2.2.1 53 = .ok (.bipush 8, 2) := by decide +kernel
theorem qd_122_55 : decode qm122.2.2.1 55 = .ok (.bipush 86, 2) := by decide +kernel
theorem qd_122_57 : decode qm122.2.2.1 57 = .ok (.iastore, 1) := by decide +kernel
theorem qd_122_58 : decode qm122.2.2.1 58 = .ok (.dup, 1) := by decide +kernel
theorem qd_122_59 : decode qm122.2.2.1 59 = .ok (.bipush 9, 2) := by decide +kernel
theorem qd_122_61 : decode qm122.2.2.1 61 = .ok (.bipush 97, 2) := by decide +kernel
theorem qd_122_63 : decode qm122.2.2.1 63 = .ok (.iastore, 1) := by decide +kernel
theorem qd_122_64 : decode qm122.2.2.1 64 = .ok (.dup, 1) := by decide +kernel
theorem qd_122_65 : decode qm122.2.2.1 65 = .ok (.bipush 10, 2) := by decide +kernel
theorem qd_122_67 : decode qm122.2.2.1 67 = .ok (.bipush 108, 2) := by decide +kernel
theorem qd_122_69 : decode qm122.2.2.1 69 = .ok (.iastore, 1) := by decide +kernel
theorem qd_122_70 : decode qm122.2.2.1 70 = .ok (.dup, 1) := by decide +kernel
theorem qd_122_71 : decode qm122.2.2.1 71 = .ok (.bipush 11, 2) := by decide +kernel
theorem qd_122_73 : decode qm122.2.2.1 73 = .ok (.bipush 117, 2) := by decide +kernel
theorem qd_122_75 : decode qm122.2.2.1 75 = .ok (.iastore, 1) := by decide +kernel
theorem qd_122_76 : decode qm122.2.2.1 76 = .ok (.dup, 1) := by decide +kernel
theorem qd_122_77 : decode qm122.2.2.1 77 = .ok (.bipush 12, 2) := by decide +kernel
theorem qd_122_79 : decode qm122.2.2.1 79 = .ok (.bipush 101, 2) := by decide +kernel
theorem qd_122_81 : decode qm122.2.2.1 81 = .ok (.iastore, 1) := by decide +kernel
theorem qd_122_82 : decode qm122.2.2.1 82 = .ok (.dup, 1) := by decide +kernel
theorem qd_122_83 : decode qm122.2.2.1 83 = .ok (.bipush 13, 2) := by decide +kernel
theorem qd_122_85 : decode qm122.2.2.1 85 = .ok (.iconst 0, 1) := by decide +kernel
theorem qd_122_86 : decode qm122.2.2.1 86 = .ok (.iastore, 1) := by decide +kernel
theorem qd_122_87 : decode qm122.2.2.1 87 = .ok (.dup, 1) := by decide +kernel
theorem qd_122_88 : decode qm122.2.2.1 88 = .ok (.bipush 14, 2) := by decide +kernel
theorem qd_122_90 : decode qm122.2.2.1 90 = .ok (.bipush 67, 2) := by decide +kernel
theorem qd_122_92 : decode qm122.2.2.1 92 = .ok (.iastore, 1) := by decide +kernel
theorem qd_122_93 : decode qm122.2.2.1 93 = .ok (.dup, 1) := by decide +kernel
theorem qd_122_94 : decode qm122.2.2.1 94 = .ok (.bipush 15, 2) := by decide +kernel
theorem qd_122_96 : decode qm122.2.2.1 96 = .ok (.bipush 111, 2) := by decide +kernel
theorem qd_122_98 : decode qm122.2.2.1 98 = .ok (.iastore, 1) := by decide +kernel
theorem qd_122_99 : decode qm122.2.2.1 99 = .ok (.dup, 1) := by decide +kernel
theorem qd_122_100 : decode qm122.2.2.1 100 = .ok (.bipush 16, 2) := by decide +kernel
theorem qd_122_102 : decode qm122.2.2.1 102 = .ok (.bipush 100, 2) := by decide +kernel
theorem qd_122_104 : decode qm122.2.2.1 104 = .ok (.iastore, 1) := by decide +kernel
theorem qd_122_105 : decode qm122.2.2.1 105 = .ok (.dup, 1) := by decide +kernel
theorem qd_122_106 : decode qm122.2.2.1 106 = .ok (.bipush 17, 2) := by decide +kernel
theorem qd_122_108 : decode qm122.2.2.1 108 = .ok (.bipush 101, 2) := by decide +kernel
theorem qd_122_110 : decode qm122.2.2.1 110 = .ok (.iastore, 1) := by decide +kernel
theorem qd_122_111 : decode qm122.2.2.1 111 = .ok (.dup, 1) := by decide +kernel
theorem qd_122_112 : decode qm122.2.2.1 112 = .ok (.bipush 18, 2) := by decide +kernel
theorem qd_122_114 : decode qm122.2.2.1 114 = .ok (.iconst 0, 1) := by decide +kernel
theorem qd_122_115 : decode qm122.2.2.1 115 = .ok (.iastore, 1) := by decide +kernel
theorem qd_122_116 : decode qm122.2.2.1 116 = .ok (.dup, 1) := by decide +kernel
theorem qd_122_117 : decode qm122.2.2.1 117 = .ok (.bipush 19, 2) := by decide +kernel
theorem qd_122_119 : decode qm122.2.2.1 119 = .ok (.bipush 69, 2) := by decide +kernel
theorem qd_122_121 : decode qm122.2.2.1 121 = .ok (.iastore, 1) := by decide +kernel
theorem qd_122_122 : decode qm122.2.2.1 122 = .ok (.dup, 1) := by decide +kernel
theorem qd_122_123 : decode qm122.2.2.1 123 = .ok (.bipush 20, 2) := by decide +kernel
theorem qd_122_125 : decode qm122.2.2.1 125 = .ok (.bipush 120, 2) := by decide +kernel
theorem qd_122_127 : decode qm122.2.2.1 127 = .ok (.iastore, 1) := by decide +kernel
theorem qd_122_128 : decode qm122.2.2.1 128 = .ok (.dup, 1) := by decide +kernel
theorem qd_122_129 : decode qm122.2.2.1 129 = .ok (.bipush 21, 2) := by decide +kernel
theorem qd_122_131 : decode qm122.2.2.1 131 = .ok (.bipush 99, 2) := by decide +kernel
theorem qd_122_133 : decode qm122.2.2.1 133 = .ok (.iastore, 1) := by decide +kernel
theorem qd_122_134 : decode qm122.2.2.1 134 = .ok (.dup, 1) := by decide +kernel
theorem qd_122_135 : decode qm122.2.2.1 135 = .ok (.bipush 22, 2) := by decide +kernel
theorem qd_122_137 : decode qm122.2.2.1 137 = .ok (.bipush 101, 2) := by decide +kernel
theorem qd_122_139 : decode qm122.2.2.1 139 = .ok (.iastore, 1) := by decide +kernel
theorem qd_122_140 : decode qm122.2.2.1 140 = .ok (.dup, 1) := by decide +kernel
theorem qd_122_141 : decode qm122.2.2.1 141 = .ok (.bipush 23, 2) := by decide +kernel
theorem qd_122_143 : decode qm122.2.2.1 143 = .ok (.bipush 112, 2) := by decide +kernel
theorem qd_122_145 : decode qm122.2.2.1 145 = .ok (.iastore, 1) := by decide +kernel
theorem qd_122_146 : decode qm122.2.2.1 146 = .ok (.dup, 1) := by decide +kernel
theorem qd_122_147 : decode qm122.2.2.1 147 = .ok (.bipush 24, 2) := by decide +kernel
theorem qd_122_149 : decode qm122.2.2.1 149 = .ok (.bipush 116, 2) := by decide +kernel
theorem qd_122_151 : decode qm122.2.2.1 151 = .ok (.iastore, 1) := by decide +kernel
theorem qd_122_152 : decode qm122.2.2.1 152 = .ok (.dup, 1) := by decide +kernel
theorem qd_122_153 : decode qm122.2.2.1 153 = .ok (.bipush 25, 2) := by decide +kernel
theorem qd_122_155 : decode qm122.2.2.1 155 = .ok (.bipush 105, 2) := by decide +kernel
theorem qd_122_157 : decode qm122.2.2.1 157 = .ok (.iastore, 1) := by decide +kernel
theorem qd_122_158 : decode qm122.2.2.1 158 = .ok (.dup, 1) := by decide +kernel
theorem qd_122_159 : decode qm122.2.2.1 159 = .ok (.bipush 26, 2) := by decide +kernel
theorem qd_122_161 : decode qm122.2.2.1 161 = .ok (.bipush 111, 2) := by decide +kernel
theorem qd_122_163 : decode qm122.2.2.1 163 = .ok (.iastore, 1) := by decide +kernel
theorem qd_122_164 : decode qm122.2.2.1 164 = .ok (.dup, 1) := by decide +kernel
theorem qd_122_165 : decode qm122.2.2.1 165 = .ok (.bipush 27, 2) := by decide +kernel
theorem qd_122_167 : decode qm122.2.2.1 167 = .ok (.bipush 110, 2) := by decide +kernel
theorem qd_122_169 : decode qm122.2.2.1 169 = .ok (.iastore, 1) := by decide +kernel
theorem qd_122_170 : decode qm122.2.2.1 170 = .ok (.dup, 1) := by decide +kernel
theorem qd_122_171 : decode qm122.2.2.1 171 = .ok (.bipush 28, 2) := by decide +kernel
theorem qd_122_173 : decode qm122.2.2.1 173 = .ok (.bipush 115, 2) := by decide +kernel
theorem qd_122_175 : decode qm122.2.2.1 175 = .ok (.iastore, 1) := by decide +kernel
theorem qd_122_176 : decode qm122.2.2.1 176 = .ok (.dup, 1) := by decide +kernel
theorem qd_122_177 : decode qm122.2.2.1 177 = .ok (.bipush 29, 2) := by decide +kernel
theorem qd_122_179 : decode qm122.2.2.1 179 = .ok (.iconst 0, 1) := by decide +kernel
theorem qd_122_180 : decode qm122.2.2.1 180 = .ok (.iastore, 1) := by decide +kernel
theorem qd_122_181 : decode qm122.2.2.1 181 = .ok (.dup, 1) := by decide +kernel
theorem qd_122_182 : decode qm122.2.2.1 182 = .ok (.bipush 30, 2) := by decide +kernel
theorem qd_122_184 : decode qm122.2.2.1 184 = .ok (.bipush 73, 2) := by decide +kernel
theorem qd_122_186 : decode qm122.2.2.1 186 = .ok (.iastore, 1) := by decide +kernel
theorem qd_122_187 : decode qm122.2.2.1 187 = .ok (.dup, 1) := by decide +kernel
theorem qd_122_188 : decode qm122.2.2.1 188 = .ok (.bipush 31, 2) := by decide +kernel
theorem qd_122_190 : decode qm122.2.2.1 190 = .ok (.bipush 110, 2) := by decide +kernel
theorem qd_122_192 : decode qm122.2.2.1 192 = .ok (.iastore, 1) := by decide +kernel
theorem qd_122_193 : decode qm122.2.2.1 193 = .ok (.dup, 1) := by decide +kernel
theorem qd_122_194 : decode qm122.2.2.1 194 = .ok (.bipush 32, 2) := by decide +kernel
theorem qd_122_196 : decode qm122.2.2.1 196 = .ok (.bipush 110, 2) := by decide +kernel
theorem qd_122_198 : decode qm122.2.2.1 198 = .ok (.iastore, 1) := by decide +kernel
theorem qd_122_199 : decode qm122.2.2.1 199 = .ok (.dup, 1) := by decide +kernel
theorem qd_122_200 : decode qm122.2.2.1 200 = .ok (.bipush 33, 2) := by decide +kernel
theorem qd_122_202 : decode qm122.2.2.1 202 = .ok (.bipush 101, 2) := by decide +kernel
theorem qd_122_204 : decode qm122.2.2.1 204 = .ok (.iastore, 1) := by decide +kernel
theorem qd_122_205 : decode qm122.2.2.1 205 = .ok (.dup, 1) := by decide +kernel
theorem qd_122_206 : decode qm122.2.2.1 206 = .ok (.bipush 34, 2) := by decide +kernel
theorem qd_122_208 : decode qm122.2.2.1 208 = .ok (.bipush 114, 2) := by decide +kernel
theorem qd_122_210 : decode qm122.2.2.1 210 = .ok (.iastore, 1) := by decide +kernel
theorem qd_122_211 : decode qm122.2.2.1 211 = .ok (.dup, 1) := by decide +kernel
theorem qd_122_212 : decode qm122.2.2.1 212 = .ok (.bipush 35, 2) := by decide +kernel
theorem qd_122_214 : decode qm122.2.2.1 214 = .ok (.bipush 67, 2) := by decide +kernel
theorem qd_122_216 : decode qm122.2.2.1 216 = .ok (.iastore, 1) := by decide +kernel
theorem qd_122_217 : decode qm122.2.2.1 217 = .ok (.dup, 1) := by decide +kernel
theorem qd_122_218 : decode qm122.2.2.1 218 = .ok (.bipush 36, 2) := by decide +kernel
theorem qd_122_220 : decode qm122.2.2.1 220 = .ok (.bipush 108, 2) := by decide +kernel
theorem qd_122_222 : decode qm122.2.2.1 222 = .ok (.iastore, 1) := by decide +kernel
theorem qd_122_223 : decode qm122.2.2.1 223 = .ok (.dup, 1) := by decide +kernel
theorem qd_122_224 : decode qm122.2.2.1 224 = .ok (.bipush 37, 2) := by decide +kernel
theorem qd_122_226 : decode qm122.2.2.1 226 = .ok (.bipush 97, 2) := by decide +kernel
theorem qd_122_228 : decode qm122.2.2.1 228 = .ok (.iastore, 1) := by decide +kernel
theorem qd_122_229 : decode qm122.2.2.1 229 = .ok (.dup, 1) := by decide +kernel
theorem qd_122_230 : decode qm122.2.2.1 230 = .ok (.bipush 38, 2) := by decide +kernel
theorem qd_122_232 : decode qm122.2.2.1 232 = .ok (.bipush 115, 2) := by decide +kernel
theorem qd_122_234 : decode qm122.2.2.1 234 = .ok (.iastore, 1) := by decide +kernel
theorem qd_122_235 : decode qm122.2.2.1 235 = .ok (.dup, 1) := by decide +kernel
theorem qd_122_236 : decode qm122.2.2.1 236 = .ok (.bipush 39, 2) := by decide +kernel
theorem qd_122_238 : decode qm122.2.2.1 238 = .ok (.bipush 115, 2) := by decide +kernel
theorem qd_122_240 : decode qm122.2.2.1 240 = .ok (.iastore, 1) := by decide +kernel
theorem qd_122_241 : decode qm122.2.2.1 241 = .ok (.dup, 1) := by decide +kernel
theorem qd_122_242 : decode qm122.2.2.1 242 = .ok (.bipush 40, 2) := by decide +kernel
theorem qd_122_244 : decode qm122.2.2.1 244 = .ok (.bipush 101, 2) := by decide +kernel
theorem qd_122_246 : decode qm122.2.2.1 246 = .ok (.iastore, 1) := by decide +kernel
theorem qd_122_247 : decode qm122.2.2.1 247 = .ok (.dup, 1) := by decide +kernel
theorem qd_122_248 : decode qm122.2.2.1 248 = .ok (.bipush 41, 2) := by decide +kernel
theorem qd_122_250 : decode qm122.2.2.1 250 = .ok (.bipush 115, 2) := by decide +kernel
theorem qd_122_252 : decode qm122.2.2.1 252 = .ok (.iastore, 1) := by decide +kernel
theorem qd_122_253 : decode qm122.2.2.1 253 = .ok (.dup, 1) := by decide +kernel
theorem qd_122_254 : decode qm122.2.2.1 254 = .ok (.bipush 42, 2) := by decide +kernel
theorem qd_122_256 : decode qm122.2.2.1 256 = .ok (.iconst 0, 1) := by decide +kernel
theorem qd_122_257 : decode qm122.2.2.1 257 = .ok (.iastore, 1) := by decide +kernel
theorem qd_122_258 : decode qm122.2.2.1 258 = .ok (.dup, 1) := by decide +kernel
theorem qd_122_259 : decode qm122.2.2.1 259 = .ok (.bipush 43, 2) := by decide +kernel
theorem qd_122_261 : decode qm122.2.2.1 261 = .ok (.bipush 69, 2) := by decide +kernel
theorem qd_122_263 : decode qm122.2.2.1 263 = .ok (.iastore, 1) := by decide +kernel
theorem qd_122_264 : decode qm122.2.2.1 264 = .ok (.dup, 1) := by decide +kernel
theorem qd_122_265 : decode qm122.2.2.1 265 = .ok (.bipush 44, 2) := by decide +kernel
theorem qd_122_267 : decode qm122.2.2.1 267 = .ok (.bipush 110, 2) := by decide +kernel
theorem qd_122_269 : decode qm122.2.2.1 269 = .ok (.iastore, 1) := by decide +kernel
theorem qd_122_270 : decode qm122.2.2.1 270 = .ok (.dup, 1) := by decide +kernel
theorem qd_122_271 : decode qm122.2.2.1 271 = .ok (.bipush 45, 2) := by decide +kernel
theorem qd_122_273 : decode qm122.2.2.1 273 = .ok (.bipush 99, 2) := by decide +kernel
theorem qd_122_275 : decode qm122.2.2.1 275 = .ok (.iastore, 1) := by decide +kernel
theorem qd_122_276 : decode qm122.2.2.1 276 = .ok (.dup, 1) := by decide +kernel
theorem qd_122_277 : decode qm122.2.2.1 277 = .ok (.bipush 46, 2) := by decide +kernel
theorem qd_122_279 : decode qm122.2.2.1 279 = .ok (.bipush 108, 2) := by decide +kernel
theorem qd_122_281 : decode qm122.2.2.1 281 = .ok (.iastore, 1) := by decide +kernel
theorem qd_122_282 : decode qm122.2.2.1 282 = .ok (.dup, 1) := by decide +kernel
theorem qd_122_283 : decode qm122.2.2.1 283 = .ok (.bipush 47, 2) := by decide +kernel
theorem qd_122_285 : decode qm122.2.2.1 285 = .ok (.bipush 111, 2) := by decide +kernel
theorem qd_122_287 : decode qm122.2.2.1 287 = .ok (.iastore, 1) := by decide +kernel
theorem qd_122_288 : decode qm122.2.2.1 288 = .ok (.dup, 1) := by decide +kernel
theorem qd_122_289 : decode qm122.2.2.1 289 = .ok (.bipush 48, 2) := by decide +kernel
theorem qd_122_291 : decode qm122.2.2.1 291 = .ok (.bipush 115, 2) := by decide +kernel
theorem qd_122_293 : decode qm122.2.2.1 293 = .ok (.iastore, 1) := by decide +kernel
theorem qd_122_294 : decode qm122.2.2.1 294 = .ok (.dup, 1) := by decide +kernel
theorem qd_122_295 : decode qm122.2.2.1 295 = .ok (.bipush 49, 2) := by decide +kernel
theorem qd_122_297 : decode qm122.2.2.1 297 = .ok (.bipush 105, 2) := by decide +kernel
theorem qd_122_299 : decode qm122.2.2.1 299 = .ok (.iastore, 1) := by decide +kernel
theorem qd_122_300 : decode qm122.2.2.1 300 = .ok (.dup, 1) := by decide +kernel
theorem qd_122_301 : decode qm122.2.2.1 301 = .ok (.bipush 50, 2) := by decide +kernel
theorem qd_122_303 : decode qm122.2.2.1 303 = .ok (.bipush 110, 2) := by decide +kernel
theorem qd_122_305 : decode qm122.2.2.1 305 = .ok (.iastore, 1) := by decide +kernel
theorem qd_122_306 : decode qm122.2.2.1 306 = .ok (.dup, 1) := by decide +kernel
theorem qd_122_307 : decode qm122.2.2.1 307 = .ok (.bipush 51, 2) := by decide +kernel
theorem qd_122_309 : decode qm122.2.2.1 309 = .ok (.bipush 103, 2) := by decide +kernel
theorem qd_122_311 : decode qm122.2.2.1 311 = .ok (.iastore, 1) := by decide +kernel
theorem qd_122_312 : decode qm122.2.2.1 312 = .ok (.dup, 1) := by decide +kernel
theorem qd_122_313 : decode qm122.2.2.1 313 = .ok (.bipush 52, 2) := by decide +kernel
theorem qd_122_315 : decode qm122.2.2.1 315 = .ok (.bipush 77, 2) := by decide +kernel
theorem qd_122_317 : decode qm122.2.2.1 317 = .ok (.iastore, 1) := by decide +kernel
theorem qd_122_318 : decode qm122.2.2.1 318 = .ok (.dup, 1) := by decide +kernel
theorem qd_122_319 : decode qm122.2.2.1 319 = .ok (.bipush 53, 2) := by decide +kernel
theorem qd_122_321 : decode qm122.2.2.1 321 = .ok (.bipush 101, 2) := by decide +kernel
theorem qd_122_323 : decode qm122.2.2.1 323 = .ok (.iastore, 1) := by decide +kernel
theorem qd_122_324 : decode qm122.2.2.1 324 = .ok (.dup, 1) := by decide +kernel
theorem qd_122_325 : decode qm122.2.2.1 325 = .ok (.bipush 54, 2) := by decide +kernel
theorem qd_122_327 : decode qm122.2.2.1 327 = .ok (.bipush 116, 2) := by decide +kernel
theorem qd_122_329 : decode qm122.2.2.1 329 = .ok (.iastore, 1) := by decide +kernel
theorem qd_122_330 : decode qm122.2.2.1 330 = .ok (.dup, 1) := by decide +kernel
theorem qd_122_331 : decode qm122.2.2.1 331 = .ok (.bipush 55, 2) := by decide +kernel
theorem qd_122_333 : decode qm122.2.2.1 333 = .ok (.bipush 104, 2) := by decide +kernel
theorem qd_122_335 : decode qm122.2.2.1 335 = .ok (.iastore, 1) := by decide +kernel
theorem qd_122_336 : decode qm122.2.2.1 336 = .ok (.dup, 1) := by decide +kernel
theorem qd_122_337 : decode qm122.2.2.1 337 = .ok (.bipush 56, 2) := by decide +kernel
theorem qd_122_339 : decode qm122.2.2.1 339 = .ok (.bipush 111, 2) := by decide +kernel
theorem qd_122_341 : decode qm122.2.2.1 341 = .ok (.iastore, 1) := by decide +kernel
theorem qd_122_342 : decode qm122.2.2.1 342 = .ok (.dup, 1) := by decide +kernel
theorem qd_122_343 : decode qm122.2.2.1 343 = .ok (.bipush 57, 2) := by decide +kernel
theorem qd_122_345 : decode qm122.2.2.1 345 = .ok (.bipush 100, 2) := by decide +kernel
theorem qd_122_347 : decode qm122.2.2.1 347 = .ok (.iastore, 1) := by decide +kernel
theorem qd_122_348 : decode qm122.2.2.1 348 = .ok (.dup, 1) := by decide +kernel
theorem qd_122_349 : decode qm122.2.2.1 349 = .ok (.bipush 58, 2) := by decide +kernel
theorem qd_122_351 : decode qm122.2.2.1 351 = .ok (.iconst 0, 1) := by decide +kernel
theorem qd_122_352 : decode qm122.2.2.1 352 = .ok (.iastore, 1) := by decide +kernel
theorem qd_122_353 : decode qm122.2.2.1 353 = .ok (.dup, 1) := by decide +kernel
theorem qd_122_354 : decode qm122.2.2.1 354 = .ok (.bipush 59, 2) := by decide +kernel
theorem qd_122_356 : decode qm122.2.2.1 356 = .ok (.bipush 78, 2) := by decide +kernel
theorem qd_122_358 : decode qm122.2.2.1 358 = .ok (.iastore, 1) := by decide +kernel
theorem qd_122_359 : decode qm122.2.2.1 359 = .ok (.dup, 1) := by decide +kernel
theorem qd_122_360 : decode qm122.2.2.1 360 = .ok (.bipush 60, 2) := by decide +kernel
theorem qd_122_362 : decode qm122.2.2.1 362 = .ok (.bipush 101, 2) := by decide +kernel
theorem qd_122_364 : decode qm122.2.2.1 364 = .ok (.iastore, 1) := by decide +kernel
theorem qd_122_365 : decode qm122.2.2.1 365 = .ok (.dup, 1) := by decide +kernel
theorem qd_122_366 : decode qm122.2.2.1 366 = .ok (.bipush 61, 2) := by decide +kernel
theorem qd_122_368 : decode qm122.2.2.1 368 = .ok (.bipush 115, 2) := by decide +kernel
theorem qd_122_370 : decode qm122.2.2.1 370 = .ok (.iastore, 1) := by decide +kernel
theorem qd_122_371 : decode qm122.2.2.1 371 = .ok (.dup, 1) := by decide +kernel
theorem qd_122_372 : decode qm122.2.2.1 372 = .ok (.bipush 62, 2) := by decide +kernel
theorem qd_122_374 : decode qm122.2.2.1 374 = .ok (.bipush 116, 2) := by decide +kernel
theorem qd_122_376 : decode qm122.2.2.1 376 = .ok (.iastore, 1) := by decide +kernel
theorem qd_122_377 : decode qm122.2.2.1 377 = .ok (.dup, 1) := by decide +kernel
theorem qd_122_378 : decode qm122.2.2.1 378 = .ok (.bipush 63, 2) := by decide +kernel
theorem qd_122_380 : decode qm122.2.2.1 380 = .ok (.bipush 72, 2) := by decide +kernel
theorem qd_122_382 : decode qm122.2.2.1 382 = .ok (.iastore, 1) := by decide +kernel
theorem qd_122_383 : decode qm122.2.2.1 383 = .ok (.dup, 1) := by decide +kernel
theorem qd_122_384 : decode qm122.2.2.1 384 = .ok (.bipush 64, 2) := by decide +kernel
theorem qd_122_386 : decode qm122.2.2.1 386 = .ok (.bipush 111, 2) := by decide +kernel
theorem qd_122_388 : decode qm122.2.2.1 388 = .ok (.iastore, 1) := by decide +kernel
theorem qd_122_389 : decode qm122.2.2.1 389 = .ok (.dup, 1) := by decide +kernel
theorem qd_122_390 : decode qm122.2.2.1 390 = .ok (.bipush 65, 2) := by decide +kernel
theorem qd_122_392 : decode qm122.2.2.1 392 = .ok (.bipush 115, 2) := by decide +kernel
theorem qd_122_394 : decode qm122.2.2.1 394 = .ok (.iastore, 1) := by decide +kernel
theorem qd_122_395 : decode qm122.2.2.1 395 = .ok (.dup, 1) := by decide +kernel
theorem qd_122_396 : decode qm122.2.2.1 396 = .ok (.bipush 66, 2) := by decide +kernel
theorem qd_122_398 : decode qm122.2.2.1 398 = .ok (.bipush 116, 2) := by decide +kernel
theorem qd_122_400 : decode qm122.2.2.1 400 = .ok (.iastore, 1) := by decide +kernel
theorem qd_122_401 : decode qm122.2.2.1 401 = .ok (.dup, 1) := by decide +kernel
theorem qd_122_402 : decode qm122.2.2.1 402 = .ok (.bipush 67, 2) := by decide +kernel
theorem qd_122_404 : decode qm122.2.2.1 404 = .ok (.iconst 0, 1) := by decide +kernel
theorem qd_122_405 : decode qm122.2.2.1 405 = .ok (.iastore, 1) := by decide +kernel
theorem qd_122_406 : decode qm122.2.2.1 406 = .ok (.dup, 1) := by decide +kernel
theorem qd_122_407 : decode qm122.2.2.1 407 = .ok (.bipush 68, 2) := by decide +kernel
theorem qd_122_409 : decode qm122.2.2.1 409 = .ok (.bipush 78, 2) := by decide +kernel
theorem qd_122_411 : decode qm122.2.2.1 411 = .ok (.iastore, 1) := by decide +kernel
theorem qd_122_412 : decode qm122.2.2.1 412 = .ok (.dup, 1) := by decide +kernel
theorem qd_122_413 : decode qm122.2.2.1 413 = .ok (.bipush 69, 2) := by decide +kernel
theorem qd_122_415 : decode qm122.2.2.1 415 = .ok (.bipush 101, 2) := by decide +kernel
theorem qd_122_417 : decode qm122.2.2.1 417 = .ok (.iastore, 1) := by decide +kernel
theorem qd_122_418 : decode qm122.2.2.1 418 = .ok (.dup, 1) := by decide +kernel
theorem qd_122_419 : decode qm122.2.2.1 419 = .ok (.bipush 70, 2) := by decide +kernel
theorem qd_122_421 : decode qm122.2.2.1 421 = .ok (.bipush 115, 2) := by decide +kernel
theorem qd_122_423 : decode qm122.2.2.1 423 = .ok (.iastore, 1) := by decide +kernel
theorem qd_122_424 : decode qm122.2.2.1 424 = .ok (.dup, 1) := by decide +kernel
theorem qd_122_425 : decode qm122.2.2.1 425 = .ok (.bipush 71, 2) := by decide +kernel
theorem qd_122_427 : decode qm122.2.2.1 427 = .ok (.bipush 116, 2) := by decide +kernel
theorem qd_122_429 : decode qm122.2.2.1 429 = .ok (.iastore, 1) := by decide +kernel
theorem qd_122_430 : decode qm122.2.2.1 430 = .ok (.dup, 1) := by decide +kernel
theorem qd_122_431 : decode qm122.2.2.1 431 = .ok (.bipush 72, 2) := by decide +kernel
theorem qd_122_433 : decode qm122.2.2.1 433 = .ok (.bipush 77, 2) := by decide +kernel
theorem qd_122_435 : decode qm122.2.2.1 435 = .ok (.iastore, 1) := by decide +kernel
theorem qd_122_436 : decode qm122.2.2.1 436 = .ok (.dup, 1) := by decide +kernel
theorem qd_122_437 : decode qm122.2.2.1 437 = .ok (.bipush 73, 2) := by decide +kernel
theorem qd_122_439 : decode qm122.2.2.1 439 = .ok (.bipush 101, 2) := by decide +kernel
theorem qd_122_441 : decode qm122.2.2.1 441 = .ok (.iastore, 1) := by decide +kernel
theorem qd_122_442 : decode qm122.2.2.1 442 = .ok (.dup, 1) := by decide +kernel
theorem qd_122_443 : decode qm122.2.2.1 443 = .ok (.bipush 74, 2) := by decide +kernel
theorem qd_122_445 : decode qm122.2.2.1 445 = .ok (.bipush 109, 2) := by decide +kernel
theorem qd_122_447 : decode qm122.2.2.1 447 = .ok (.iastore, 1) := by decide +kernel
theorem qd_122_448 : decode qm122.2.2.1 448 = .ok (.dup, 1) := by decide +kernel
theorem qd_122_449 : decode qm122.2.2.1 449 = .ok (.bipush 75, 2) := by decide +kernel
theorem qd_122_451 : decode qm122.2.2.1 451 = .ok (.bipush 98, 2) := by decide +kernel
theorem qd_122_453 : decode qm122.2.2.1 453 = .ok (.iastore, 1) := by decide +kernel
theorem qd_122_454 : decode qm122.2.2.1 454 = .ok (.dup, 1) := by decide +kernel
theorem qd_122_455 : decode qm122.2.2.1 455 = .ok (.bipush 76, 2) := by decide +kernel
theorem qd_122_457 : decode qm122.2.2.1 457 = .ok (.bipush 101, 2) := by decide +kernel
theorem qd_122_459 : decode qm122.2.2.1 459 = .ok (.iastore, 1) := by decide +kernel
theorem qd_122_460 : decode qm122.2.2.1 460 = .ok (.dup, 1) := by decide +kernel
theorem qd_122_461 : decode qm122.2.2.1 461 = .ok (.bipush 77, 2) := by decide +kernel
theorem qd_122_463 : decode qm122.2.2.1 463 = .ok (.bipush 114, 2) := by decide +kernel
theorem qd_122_465 : decode qm122.2.2.1 465 = .ok (.iastore, 1) := by decide +kernel
theorem qd_122_466 : decode qm122.2.2.1 466 = .ok (.dup, 1) := by decide +kernel
theorem qd_122_467 : decode qm122.2.2.1 467 = .ok (.bipush 78, 2) := by decide +kernel
theorem qd_122_469 : decode qm122.2.2.1 469 = .ok (.bipush 115, 2) := by decide +kernel
theorem qd_122_471 : decode qm122.2.2.1 471 = .ok (.iastore, 1) := by decide +kernel
theorem qd_122_472 : decode qm122.2.2.1 472 = .ok (.dup, 1) := by decide +kernel
theorem qd_122_473 : decode qm122.2.2.1 473 = .ok (.bipush 79, 2) := by decide +kernel
theorem qd_122_475 : decode qm122.2.2.1 475 = .ok (.iconst 0, 1) := by decide +kernel
theorem qd_122_476 : decode qm122.2.2.1 476 = .ok (.iastore, 1) := by decide +kernel
theorem qd_122_477 : decode qm122.2.2.1 477 = .ok (.dup, 1) := by decide +kernel
theorem qd_122_478 : decode qm122.2.2.1 478 = .ok (.bipush 80, 2) := by decide +kernel
theorem qd_122_480 : decode qm122.2.2.1 480 = .ok (.bipush 80, 2) := by decide +kernel
theorem qd_122_482 : decode qm122.2.2.1 482 = .ok (.iastore, 1) := by decide +kernel
theorem qd_122_483 : decode qm122.2.2.1 483 = .ok (.dup, 1) := by decide +kernel
theorem qd_122_484 : decode qm122.2.2.1 484 = .ok (.bipush 81, 2) := by decide +kernel
theorem qd_122_486 : decode qm122.2.2.1 486 = .ok (.bipush 101, 2) := by decide +kernel
theorem qd_122_488 : decode qm122.2.2.1 488 = .ok (.iastore, 1) := by decide +kernel
theorem qd_122_489 : decode qm122.2.2.1 489 = .ok (.dup, 1) := by decide +kernel
theorem qd_122_490 : decode qm122.2.2.1 490 = .ok (.bipush 82, 2) := by decide +kernel
theorem qd_122_492 : decode qm122.2.2.1 492 = .ok (.bipush 114, 2) := by decide +kernel
theorem qd_122_494 : decode qm122.2.2.1 494 = .ok (.iastore, 1) := by decide +kernel
theorem qd_122_495 : decode qm122.2.2.1 495 = .ok (.dup, 1) := by decide +kernel
theorem qd_122_496 : decode qm122.2.2.1 496 = .ok (.bipush 83, 2) := by decide +kernel
theorem qd_122_498 : decode qm122.2.2.1 498 = .ok (.bipush 109, 2) := by decide +kernel
theorem qd_122_500 : decode qm122.2.2.1 500 = .ok (.iastore, 1) := by decide +kernel
theorem qd_122_501 : decode qm122.2.2.1 501 = .ok (.dup, 1) := by decide +kernel
theorem qd_122_502 : decode qm122.2.2.1 502 = .ok (.bipush 84, 2) := by decide +kernel
theorem qd_122_504 : decode qm122.2.2.1 504 = .ok (.bipush 105, 2) := by decide +kernel
theorem qd_122_506 : decode qm122.2.2.1 506 = .ok (.iastore, 1) := by decide +kernel
theorem qd_122_507 : decode qm122.2.2.1 507 = .ok (.dup, 1) := by decide +kernel
theorem qd_122_508 : decode qm122.2.2.1 508 = .ok (.bipush 85, 2) := by decide +kernel
theorem qd_122_510 : decode qm122.2.2.1 510 = .ok (.bipush 116, 2) := by decide +kernel
theorem qd_122_512 : decode qm122.2.2.1 512 = .ok (.iastore, 1) := by decide +kernel
theorem qd_122_513 : decode qm122.2.2.1 513 = .ok (.dup, 1) := by decide +kernel
theorem qd_122_514 : decode qm122.2.2.1 514 = .ok (.bipush 86, 2) := by decide +kernel
theorem qd_122_516 : decode qm122.2.2.1 516 = .ok (.bipush 116, 2) := by decide +kernel
theorem qd_122_518 : decode qm122.2.2.1 518 = .ok (.iastore, 1) := by decide +kernel
theorem qd_122_519 : decode qm122.2.2.1 519 = .ok (.dup, 1) := by decide +kernel
theorem qd_122_520 : decode qm122.2.2.1 520 = .ok (.bipush 87, 2) := by decide +kernel
theorem qd_122_522 : decode qm122.2.2.1 522 = .ok (.bipush 101, 2) := by decide +kernel
theorem qd_122_524 : decode qm122.2.2.1 524 = .ok (.iastore, 1) := by decide +kernel
theorem qd_122_525 : decode qm122.2.2.1 525 = .ok (.dup, 1) := by decide +kernel
theorem qd_122_526 : decode qm122.2.2.1 526 = .ok (.bipush 88, 2) := by decide +kernel
theorem qd_122_528 : decode qm122.2.2.1 528 = .ok (.bipush 100, 2) := by decide +kernel
theorem qd_122_530 : decode qm122.2.2.1 530 = .ok (.iastore, 1) := by decide +kernel
theorem qd_122_531 : decode qm122.2.2.1 531 = .ok (.dup, 1) := by decide +kernel
theorem qd_122_532 : decode qm122.2.2.1 532 = .ok (.bipush 89, 2) := by decide +kernel
theorem qd_122_534 : decode qm122.2.2.1 534 = .ok (.bipush 83, 2) := by decide +kernel
theorem qd_122_536 : decode qm122.2.2.1 536 = .ok (.iastore, 1) := by decide +kernel
theorem qd_122_537 : decode qm122.2.2.1 537 = .ok (.dup, 1) := by decide +kernel
theorem qd_122_538 : decode qm122.2.2.1 538 = .ok (.bipush 90, 2) := by decide +kernel
theorem qd_122_540 : decode qm122.2.2.1 540 = .ok (.bipush 117, 2) := by decide +kernel
theorem qd_122_542 : decode qm122.2.2.1 542 = .ok (.iastore, 1) := by decide +kernel
theorem qd_122_543 : decode qm122.2.2.1 543 = .ok (.dup, 1) := by decide +kernel
theorem qd_122_544 : decode qm122.2.2.1 544 = .ok (.bipush 91, 2) := by decide +kernel
theorem qd_122_546 : decode qm122.2.2.1 546 = .ok (.bipush 98, 2) := by decide +kernel
theorem qd_122_548 : decode qm122.2.2.1 548 = .ok (.iastore, 1) := by decide +kernel
theorem qd_122_549 : decode qm122.2.2.1 549 = .ok (.dup, 1) := by decide +kernel
theorem qd_122_550 : decode qm122.2.2.1 550 = .ok (.bipush 92, 2) := by decide +kernel
theorem qd_122_552 : decode qm122.2.2.1 552 = .ok (.bipush 99, 2) := by decide +kernel
theorem qd_122_554 : decode qm122.2.2.1 554 = .ok (.iastore, 1) := by decide +kernel
theorem qd_122_555 : decode qm122.2.2.1 555 = .ok (.dup, 1) := by decide +kernel
theorem qd_122_556 : decode qm122.2.2.1 556 = .ok (.bipush 93, 2) := by decide +kernel
theorem qd_122_558 : decode qm122.2.2.1 558 = .ok (.bipush 108, 2) := by decide +kernel
theorem qd_122_560 : decode qm122.2.2.1 560 = .ok (.iastore, 1) := by decide +kernel
theorem qd_122_561 : decode qm122.2.2.1 561 = .ok (.dup, 1) := by decide +kernel
theorem qd_122_562 : decode qm122.2.2.1 562 = .ok (.bipush 94, 2) := by decide +kernel
theorem qd_122_564 : decode qm122.2.2.1 564 = .ok (.bipush 97, 2) := by decide +kernel
theorem qd_122_566 : decode qm122.2.2.1 566 = .ok (.iastore, 1) := by decide +kernel
theorem qd_122_567 : decode qm122.2.2.1 567 = .ok (.dup, 1) := by decide +kernel
theorem qd_122_568 : decode qm122.2.2.1 568 = .ok (.bipush 95, 2) := by decide +kernel
theorem qd_122_570 : decode qm122.2.2.1 570 = .ok (.bipush 115, 2) := by decide +kernel
theorem qd_122_572 : decode qm122.2.2.1 572 = .ok (.iastore, 1) := by decide +kernel
theorem qd_122_573 : decode qm122.2.2.1 573 = .ok (.dup, 1) := by decide +kernel
theorem qd_122_574 : decode qm122.2.2.1 574 = .ok (.bipush 96, 2) := by decide +kernel
theorem qd_122_576 : decode qm122.2.2.1 576 = .ok (.bipush 115, 2) := by decide +kernel
theorem qd_122_578 : decode qm122.2.2.1 578 = .ok (.iastore, 1) := by decide +kernel
theorem qd_122_579 : decode qm122.2.2.1 579 = .ok (.dup, 1) := by decide +kernel
theorem qd_122_580 : decode qm122.2.2.1 580 = .ok (.bipush 97, 2) := by decide +kernel
theorem qd_122_582 : decode qm122.2.2.1 582 = .ok (.bipush 101, 2) := by decide +kernel
theorem qd_122_584 : decode qm122.2.2.1 584 = .ok (.iastore, 1) := by decide +kernel
theorem qd_122_585 : decode qm122.2.2.1 585 = .ok (.dup, 1) := by decide +kernel
theorem qd_122_586 : decode qm122.2.2.1 586 = .ok (.bipush 98, 2) := by decide +kernel
theorem qd_122_588 : decode qm122.2.2.1 588 = .ok (.bipush 115, 2) := by decide +kernel
theorem qd_122_590 : decode qm122.2.2.1 590 = .ok (.iastore, 1) := by decide +kernel
theorem qd_122_591 : decode qm122.2.2.1 591 = .ok (.dup, 1) := by decide +kernel
theorem qd_122_592 : decode qm122.2.2.1 592 = .ok (.bipush 99, 2) := by decide +kernel
theorem qd_122_594 : decode qm122.2.2.1 594 = .ok (.iconst 0, 1) := by decide +kernel
theorem qd_122_595 : decode qm122.2.2.1 595 = .ok (.iastore, 1) := by decide +kernel
theorem qd_122_596 : decode qm122.2.2.1 596 = .ok (.dup, 1) := by decide +kernel
theorem qd_122_597 : decode qm122.2.2.1 597 = .ok (.bipush 100, 2) := by decide +kernel
theorem qd_122_599 : decode qm122.2.2.1 599 = .ok (.bipush 66, 2) := by decide +kernel
theorem qd_122_601 : decode qm122.2.2.1 601 = .ok (.iastore, 1) := by decide +kernel
theorem qd_122_602 : decode qm122.2.2.1 602 = .ok (.dup, 1) := by decide +kernel
theorem qd_122_603 : decode qm122.2.2.1 603 = .ok (.bipush 101, 2) := by decide +kernel
theorem qd_122_605 : decode qm122.2.2.1 605 = .ok (.bipush 111, 2) := by decide +kernel
theorem qd_122_607 : decode qm122.2.2.1 607 = .ok (.iastore, 1) := by decide +kernel
theorem qd_122_608 : decode qm122.2.2.1 608 = .ok (.dup, 1) := by decide +kernel
theorem qd_122_609 : decode qm122.2.2.1 609 = .ok (.bipush 102, 2) := by decide +kernel
theorem qd_122_611 : decode qm122.2.2.1 611 = .ok (.bipush 111, 2) := by decide +kernel
theorem qd_122_613 : decode qm122.2.2.1 613 = .ok (.iastore, 1) := by decide +kernel
theorem qd_122_614 : decode qm122.2.2.1 614 = .ok (.dup, 1) := by decide +kernel
theorem qd_122_615 : decode qm122.2.2.1 615 = .ok (.bipush 103, 2) := by decide +kernel
theorem qd_122_617 : decode qm122.2.2.1 617 = .ok (.bipush 116, 2) := by decide +kernel
theorem qd_122_619 : decode qm122.2.2.1 619 = .ok (.iastore, 1) := by decide +kernel
theorem qd_122_620 : decode qm122.2.2.1 620 = .ok (.dup, 1) := by decide +kernel
theorem qd_122_621 : decode qm122.2.2.1 621 = .ok (.bipush 104, 2) := by decide +kernel
theorem qd_122_623 : decode qm122.2.2.1 623 = .ok (.bipush 115, 2) := by decide +kernel
theorem qd_122_625 : decode qm122.2.2.1 625 = .ok (.iastore, 1) := by decide +kernel
theorem qd_122_626 : decode qm122.2.2.1 626 = .ok (.dup, 1) := by decide +kernel
theorem qd_122_627 : decode qm122.2.2.1 627 = .ok (.bipush 105, 2) := by decide +kernel
theorem qd_122_629 : decode qm122.2.2.1 629 = .ok (.bipush 116, 2) := by decide +kernel
theorem qd_122_631 : decode qm122.2.2.1 631 = .ok (.iastore, 1) := by decide +kernel
theorem qd_122_632 : decode qm122.2.2.1 632 = .ok (.dup, 1) := by decide +kernel
theorem qd_122_633 : decode qm122.2.2.1 633 = .ok (.bipush 106, 2) := by decide +kernel
theorem qd_122_635 : decode qm122.2.2.1 635 = .ok (.bipush 114, 2) := by decide +kernel
theorem qd_122_637 : decode qm122.2.2.1 637 = .ok (.iastore, 1) := by decide +kernel
theorem qd_122_638 : decode qm122.2.2.1 638 = .ok (.dup, 1) := by decide +kernel
theorem qd_122_639 : decode qm122.2.2.1 639 = .ok (.bipush 107, 2) := by decide +kernel
theorem qd_122_641 : decode qm122.2.2.1 641 = .ok (.bipush 97, 2) := by decide +kernel
theorem qd_122_643 : decode qm122.2.2.1 643 = .ok (.iastore, 1) := by decide +kernel
theorem qd_122_644 : decode qm122.2.2.1 644 = .ok (.dup, 1) := by decide +kernel
theorem qd_122_645 : decode qm122.2.2.1 645 = .ok (.bipush 108, 2) := by decide +kernel
theorem qd_122_647 : decode qm122.2.2.1 647 = .ok (.bipush 112, 2) := by decide +kernel
theorem qd_122_649 : decode qm122.2.2.1 649 = .ok (.iastore, 1) := by decide +kernel
theorem qd_122_650 : decode qm122.2.2.1 650 = .ok (.dup, 1) := by decide +kernel
theorem qd_122_651 : decode qm122.2.2.1 651 = .ok (.bipush 109, 2) := by decide +kernel
theorem qd_122_653 : decode qm122.2.2.1 653 = .ok (.bipush 77, 2) := by decide +kernel
theorem qd_122_655 : decode qm122.2.2.1 655 = .ok (.iastore, 1) := by decide +kernel
theorem qd_122_656 : decode qm122.2.2.1 656 = .ok (.dup, 1) := by decide +kernel
theorem qd_122_657 : decode qm122.2.2.1 657 = .ok (.bipush 110, 2) := by decide +kernel
theorem qd_122_659 : decode qm122.2.2.1 659 = .ok (.bipush 101, 2) := by decide +kernel
theorem qd_122_661 : decode qm122.2.2.1 661 = .ok (.iastore, 1) := by decide +kernel
theorem qd_122_662 : decode qm122.2.2.1 662 = .ok (.dup, 1) := by decide +kernel
theorem qd_122_663 : decode qm122.2.2.1 663 = .ok (.bipush 111, 2) := by decide +kernel
theorem qd_122_665 : decode qm122.2.2.1 665 = .ok (.bipush 116, 2) := by decide +kernel
theorem qd_122_667 : decode qm122.2.2.1 667 = .ok (.iastore, 1) := by decide +kernel
theorem qd_122_668 : decode qm122.2.2.1 668 = .ok (.dup, 1) := by decide +kernel
theorem qd_122_669 : decode qm122.2.2.1 669 = .ok (.bipush 112, 2) := by decide +kernel
theorem qd_122_671 : decode qm122.2.2.1 671 = .ok (.bipush 104, 2) := by decide +kernel
theorem qd_122_673 : decode qm122.2.2.1 673 = .ok (.iastore, 1) := by decide +kernel
theorem qd_122_674 : decode qm122.2.2.1 674 = .ok (.dup, 1) := by decide +kernel
theorem qd_122_675 : decode qm122.2.2.1 675 = .ok (.bipush 113, 2) := by decide +kernel
theorem qd_122_677 : decode qm122.2.2.1 677 = .ok (.bipush 111, 2) := by decide +kernel
theorem qd_122_679 : decode qm122.2.2.1 679 = .ok (.iastore, 1) := by decide +kernel
theorem qd_122_680 : decode qm122.2.2.1 680 = .ok (.dup, 1) := by decide +kernel
theorem qd_122_681 : decode qm122.2.2.1 681 = .ok (.bipush 114, 2) := by decide +kernel
theorem qd_122_683 : decode qm122.2.2.1 683 = .ok (.bipush 100, 2) := by decide +kernel
theorem qd_122_685 : decode qm122.2.2.1 685 = .ok (.iastore, 1) := by decide +kernel
theorem qd_122_686 : decode qm122.2.2.1 686 = .ok (.dup, 1) := by decide +kernel
theorem qd_122_687 : decode qm122.2.2.1 687 = .ok (.bipush 115, 2) := by decide +kernel
theorem qd_122_689 : decode qm122.2.2.1 689 = .ok (.bipush 115, 2) := by decide +kernel
theorem qd_122_691 : decode qm122.2.2.1 691 = .ok (.iastore, 1) := by decide +kernel
theorem qd_122_692 : decode qm122.2.2.1 692 = .ok (.dup, 1) := by decide +kernel
theorem qd_122_693 : decode qm122.2.2.1 693 = .ok (.bipush 116, 2) := by decide +kernel
theorem qd_122_695 : decode qm122.2.2.1 695 = .ok (.iconst 0, 1) := by decide +kernel
theorem qd_122_696 : decode qm122.2.2.1 696 = .ok (.iastore, 1) := by decide +kernel
theorem qd_122_697 : decode qm122.2.2.1 697 = .ok (.dup, 1) := by decide +kernel
theorem qd_122_698 : decode qm122.2.2.1 698 = .ok (.bipush 117, 2) := by decide +kernel
theorem qd_122_700 : decode qm122.2.2.1 700 = .ok (.bipush 60, 2) := by decide +kernel
theorem qd_122_702 : decode qm122.2.2.1 702 = .ok (.iastore, 1) := by decide +kernel
theorem qd_122_703 : decode qm122.2.2.1 703 = .ok (.dup, 1) := by decide +kernel
theorem qd_122_704 : decode qm122.2.2.1 704 = .ok (.bipush 118, 2) := by decide +kernel
theorem qd_122_706 : decode qm122.2.2.1 706 = .ok (.bipush 105, 2) := by decide +kernel
theorem qd_122_708 : decode qm122.2.2.1 708 = .ok (.iastore, 1) := by decide +kernel
theorem qd_122_709 : decode qm122.2.2.1 709 = .ok (.dup, 1) := by decide +kernel
theorem qd_122_710 : decode qm122.2.2.1 710 = .ok (.bipush 119, 2) := by decide +kernel
theorem qd_122_712 : decode qm122.2.2.1 712 = .ok (.bipush 110, 2) := by decide +kernel
theorem qd_122_714 : decode qm122.2.2.1 714 = .ok (.iastore, 1) := by decide +kernel
theorem qd_122_715 : decode qm122.2.2.1 715 = .ok (.dup, 1) := by decide +kernel
theorem qd_122_716 : decode qm122.2.2.1 716 = .ok (.bipush 120, 2) := by decide +kernel
theorem qd_122_718 : decode qm122.2.2.1 718 = .ok (.bipush 105, 2) := by decide +kernel
theorem qd_122_720 : decode qm122.2.2.1 720 = .ok (.iastore, 1) := by decide +kernel
theorem qd_122_721 : decode qm122.2.2.1 721 = .ok (.dup, 1) := by decide +kernel
theorem qd_122_722 : decode qm122.2.2.1 722 = .ok (.bipush 121, 2) := by decide +kernel
theorem qd_122_724 : decode qm122.2.2.1 724 = .ok (.bipush 116, 2) := by decide +kernel
theorem qd_122_726 : decode qm122.2.2.1 726 = .ok (.iastore, 1) := by decide +kernel
theorem qd_122_727 : decode qm122.2.2.1 727 = .ok (.dup, 1) := by decide +kernel
theorem qd_122_728 : decode qm122.2.2.1 728 = .ok (.bipush 122, 2) := by decide +kernel
theorem qd_122_730 : decode qm122.2.2.1 730 = .ok (.bipush 62, 2) := by decide +kernel
theorem qd_122_732 : decode qm122.2.2.1 732 = .ok (.iastore, 1) := by decide +kernel
theorem qd_122_733 : decode qm122.2.2.1 733 = .ok (.dup, 1) := by decide +kernel
theorem qd_122_734 : decode qm122.2.2.1 734 = .ok (.bipush 123, 2) := by decide +kernel
theorem qd_122_736 : decode qm122.2.2.1 736 = .ok (.iconst 0, 1) := by decide +kernel
theorem qd_122_737 : decode qm122.2.2.1 737 = .ok (.iastore, 1) := by decide +kernel
theorem qd_122_738 : decode qm122.2.2.1 738 = .ok (.dup, 1) := by decide +kernel
theorem qd_122_739 : decode qm122.2.2.1 739 = .ok (.bipush 124, 2) := by decide +kernel
theorem qd_122_741 : decode qm122.2.2.1 741 = .ok (.bipush 60, 2) := by decide +kernel
theorem qd_122_743 : decode qm122.2.2.1 743 = .ok (.iastore, 1) := by decide +kernel
theorem qd_122_744 : decode qm122.2.2.1 744 = .ok (.dup, 1) := by decide +kernel
theorem qd_122_745 : decode qm122.2.2.1 745 = .ok (.bipush 125, 2) := by decide +kernel
theorem qd_122_747 : decode qm122.2.2.1 747 = .ok (.bipush 99, 2) := by decide +kernel
theorem qd_122_749 : decode qm122.2.2.1 749 = .ok (.iastore, 1) := by decide +kernel
theorem qd_122_750 : decode qm122.2.2.1 750 = .ok (.dup, 1) := by decide +kernel
theorem qd_122_751 : decode qm122.2.2.1 751 = .ok (.bipush 126, 2) := by decide +kernel
theorem qd_122_753 : decode qm122.2.2.1 753 = .ok (.bipush 108, 2) := by decide +kernel
theorem qd_122_755 : decode qm122.2.2.1 755 = .ok (.iastore, 1) := by decide +kernel
theorem qd_122_756 : decode qm122.2.2.1 756 = .ok (.dup, 1) := by decide +kernel
theorem qd_122_757 : decode qm122.2.2.1 757 = .ok (.bipush 127, 2) := by decide +kernel
theorem qd_122_759 : decode qm122.2.2.1 759 = .ok (.bipush 105, 2) := by decide +kernel
theorem qd_122_761 : decode qm122.2.2.1 761 = .ok (.iastore, 1) := by decide +kernel
theorem qd_122_762 : decode qm122.2.2.1 762 = .ok (.dup, 1) := by decide +kernel
theorem qd_122_763 : decode qm122.2.2.1 763 = .ok (.sipush 128, 3) := by decide +kernel
theorem qd_122_766 : decode qm122.2.2.1 766 = .ok (.bipush 110, 2) := by decide +kernel
theorem qd_122_768 : decode qm122.2.2.1 768 = .ok (.iastore, 1) := by decide +kernel
theorem qd_122_769 : decode qm122.2.2.1 769 = .ok (.dup, 1) := by decide +kernel
theorem qd_122_770 : decode qm122.2.2.1 770 = .ok (.sipush 129, 3) := by decide +kernel
theorem qd_122_773 : decode qm122.2.2.1 773 = .ok (.bipush 105, 2) := by decide +kernel
theorem qd_122_775 : decode qm122.2.2.1 775 = .ok (.iastore, 1) := by decide +kernel
theorem qd_122_776 : decode qm122.2.2.1 776 = .ok (.dup, 1) := by decide +kernel
theorem qd_122_777 : decode qm122.2.2.1 777 = .ok (.sipush 130, 3) := by decide +kernel
theorem qd_122_780 : decode qm122.2.2.1 780 = .ok (.bipush 116, 2) := by decide +kernel
theorem qd_122_782 : decode qm122.2.2.1 782 = .ok (.iastore, 1) := by decide +kernel
theorem qd_122_783 : decode qm122.2.2.1 783 = .ok (.dup, 1) := by decide +kernel
theorem qd_122_784 : decode qm122.2.2.1 784 = .ok (.sipush 131, 3) := by decide +kernel
theorem qd_122_787 : decode qm122.2.2.1 787 = .ok (.bipush 62, 2) := by decide +kernel
theorem qd_122_789 : decode qm122.2.2.1 789 = .ok (.iastore, 1) := by decide +kernel
theorem qd_122_790 : decode qm122.2.2.1 790 = .ok (.dup, 1) := by decide +kernel
theorem qd_122_791 : decode qm122.2.2.1 791 = .ok (.sipush 132, 3) := by decide +kernel
theorem qd_122_794 : decode qm122.2.2.1 794 = .ok (.iconst 0, 1) := by decide +kernel
theorem qd_122_795 : decode qm122.2.2.1 795 = .ok (.iastore, 1) := by decide +kernel
theorem qd_122_796 : decode qm122.2.2.1 796 = .ok (.dup, 1) := by decide +kernel
theorem qd_122_797 : decode qm122.2.2.1 797 = .ok (.sipush 133, 3) := by decide +kernel
theorem qd_122_800 : decode qm122.2.2.1 800 = .ok (.bipush 76, 2) := by decide +kernel
theorem qd_122_802 : decode qm122.2.2.1 802 = .ok (.iastore, 1) := by decide +kernel
theorem qd_122_803 : decode qm122.2.2.1 803 = .ok (.dup, 1) := by decide +kernel
theorem qd_122_804 : decode qm122.2.2.1 804 = .ok (.sipush 134, 3) := by decide +kernel
theorem qd_122_807 : decode qm122.2.2.1 807 = .ok (.bipush 106, 2) := by decide +kernel
theorem qd_122_809 : decode qm122.2.2.1 809 = .ok (.iastore, 1) := by decide +kernel
theorem qd_122_810 : decode qm122.2.2.1 810 = .ok (.dup, 1) := by decide +kernel
theorem qd_122_811 : decode qm122.2.2.1 811 = .ok (.sipush 135, 3) := by decide +kernel
theorem qd_122_814 : decode qm122.2.2.1 814 = .ok (.bipush 97, 2) := by decide +kernel
theorem qd_122_816 : decode qm122.2.2.1 816 = .ok (.iastore, 1) := by decide +kernel
theorem qd_122_817 : decode qm122.2.2.1 817 = .ok (.dup, 1) := by decide +kernel
theorem qd_122_818 : decode qm122.2.2.1 818 = .ok (.sipush 136, 3) := by decide +kernel
theorem qd_122_821 : decode qm122.2.2.1 821 = .ok (.bipush 118, 2) := by decide +kernel
theorem qd_122_823 : decode qm122.2.2.1 823 = .ok (.iastore, 1) := by decide +kernel
theorem qd_122_824 : decode qm122.2.2.1 824 = .ok (.dup, 1) := by decide +kernel
theorem qd_122_825 : decode qm122.2.2.1 825 = .ok (.sipush 137, 3) := by decide +kernel
theorem qd_122_828 : decode qm122.2.2.1 828 = .ok (.bipush 97, 2) := by decide +kernel
theorem qd_122_830 : decode qm122.2.2.1 830 = .ok (.iastore, 1) := by decide +kernel
theorem qd_122_831 : decode qm122.2.2.1 831 = .ok (.dup, 1) := by decide +kernel
theorem qd_122_832 : decode qm122.2.2.1 832 = .ok (.sipush 138, 3) := by decide +kernel
theorem qd_122_835 : decode qm122.2.2.1 835 = .ok (.bipush 47, 2) := by decide +kernel
theorem qd_122_837 : decode qm122.2.2.1 837 = .ok (.iastore, 1) := by decide +kernel
theorem qd_122_838 : decode qm122.2.2.1 838 = .ok (.dup, 1) := by decide +kernel
theorem qd_122_839 : decode qm122.2.2.1 839 = .ok (.sipush 139, 3) := by decide +kernel
theorem qd_122_842 : decode qm122.2.2.1 842 = .ok (.bipush 108, 2) := by decide +kernel
theorem qd_122_844 : decode qm122.2.2.1 844 = .ok (.iastore, 1) := by decide +kernel
theorem qd_122_845 : decode qm122.2.2.1 845 = .ok (.dup, 1) := by decide +kernel
theorem qd_122_846 : decode qm122.2.2.1 846 = .ok (.sipush 140, 3) := by decide +kernel
theorem qd_122_849 : decode qm122.2.2.1 849 = .ok (.bipush 97, 2) := by decide +kernel
theorem qd_122_851 : decode qm122.2.2.1 851 = .ok (.iastore, 1) := by decide +kernel
theorem qd_122_852 : decode qm122.2.2.1 852 = .ok (.dup, 1) := by decide +kernel
theorem qd_122_853 : decode qm122.2.2.1 853 = .ok (.sipush 141, 3) := by decide +kernel
theorem qd_122_856 : decode qm122.2.2.1 856 = .ok (.bipush 110, 2) := by decide +kernel
theorem qd_122_858 : decode qm122.2.2.1 858 = .ok (.iastore, 1) := by decide +kernel
theorem qd_122_859 : decode qm122.2.2.1 859 = .ok (.dup, 1) := by decide +kernel
theorem qd_122_860 : decode qm122.2.2.1 860 = .ok (.sipush 142, 3) := by decide +kernel
theorem qd_122_863 : decode qm122.2.2.1 863 = .ok (.bipush 103, 2) := by decide +kernel
theorem qd_122_865 : decode qm122.2.2.1 865 = .ok (.iastore, 1) := by decide +kernel
theorem qd_122_866 : decode qm122.2.2.1 866 = .ok (.dup, 1) := by decide +kernel
theorem qd_122_867 : decode qm122.2.2.1 867 = .ok (.sipush 143, 3) := by decide +kernel
theorem qd_122_870 : decode qm122.2.2.1 870 = .ok (.bipush 47, 2) := by decide +kernel
theorem qd_122_872 : decode qm122.2.2.1 872 = .ok (.iastore, 1) := by decide +kernel
theorem qd_122_873 : decode qm122.2.2.1 873 = .ok (.dup, 1) := by decide +kernel
theorem qd_122_874 : decode qm122.2.2.1 874 = .ok (.sipush 144, 3) := by decide +kernel
theorem qd_122_877 : decode qm122.2.2.1 877 = .ok (.bipush 83, 2) := by decide +kernel
theorem qd_122_879 : decode qm122.2.2.1 879 = .ok (.iastore, 1) := by decide +kernel
theorem qd_122_880 : decode qm122.2.2.1 880 = .ok (.dup, 1) := by decide +kernel
theorem qd_122_881 : decode qm122.2.2.1 881 = .ok (.sipush 145, 3) := by decide +kernel
theorem qd_122_884 : decode qm122.2.2.1 884 = .ok (.bipush 116, 2) := by decide +kernel
theorem qd_122_886 : decode qm122.2.2.1 886 = .ok (.iastore, 1) := by decide +kernel
theorem qd_122_887 : decode qm122.2.2.1 887 = .ok (.dup, 1) := by decide +kernel
theorem qd_122_888 : decode qm122.2.2.1 888 = .ok (.sipush 146, 3) := by decide +kernel
theorem qd_122_891 : decode qm122.2.2.1 891 = .ok (.bipush 114, 2) := by decide +kernel
theorem qd_122_893 : decode qm122.2.2.1 893 = .ok (.iastore, 1) := by decide +kernel
theorem qd_122_894 : decode qm122.2.2.1 894 = .ok (.dup, 1) := by decide +kernel
theorem qd_122_895 : decode qm122.2.2.1 895 = .ok (.sipush 147, 3) := by decide +kernel
theorem qd_122_898 : decode qm122.2.2.1 898 = .ok (.bipush 105, 2) := by decide +kernel
theorem qd_122_900 : decode qm122.2.2.1 900 = .ok (.iastore, 1) := by decide +kernel
theorem qd_122_901 : decode qm122.2.2.1 901 = .ok (.dup, 1) := by decide +kernel
theorem qd_122_902 : decode qm122.2.2.1 902 = .ok (.sipush 148, 3) := by decide +kernel
theorem qd_122_905 : decode qm122.2.2.1 905 = .ok (.bipush 110, 2) := by decide +kernel
theorem qd_122_907 : decode qm122.2.2.1 907 = .ok (.iastore, 1) := by decide +kernel
theorem qd_122_908 : decode qm122.2.2.1 908 = .ok (.dup, 1) := by decide +kernel
theorem qd_122_909 : decode qm122.2.2.1 909 = .ok (.sipush 149, 3) := by decide +kernel
theorem qd_122_912 : decode qm122.2.2.1 912 = .ok (.bipush 103, 2) := by decide +kernel
theorem qd_122_914 : decode qm122.2.2.1 914 = .ok (.iastore, 1) := by decide +kernel
theorem qd_122_915 : decode qm122.2.2.1 915 = .ok (.dup, 1) := by decide +kernel
theorem qd_122_916 : decode qm122.2.2.1 916 = .ok (.sipush 150, 3) := by decide +kernel
theorem qd_122_919 : decode qm122.2.2.1 919 = .ok (.bipush 59, 2) := by decide +kernel
theorem qd_122_921 : decode qm122.2.2.1 921 = .ok (.iastore, 1) := by decide +kernel
theorem qd_122_922 : decode qm122.2.2.1 922 = .ok (.dup, 1) := by decide +kernel
theorem qd_122_923 : decode qm122.2.2.1 923 = .ok (.sipush 151, 3) := by decide +kernel
theorem qd_122_926 : decode qm122.2.2.1 926 = .ok (.iconst 0, 1) := by decide +kernel
theorem qd_122_927 : decode qm122.2.2.1 927 = .ok (.iastore, 1) := by decide +kernel
theorem qd_122_928 : decode qm122.2.2.1 928 = .ok (.dup, 1) := by decide +kernel
theorem qd_122_929 : decode qm122.2.2.1 929 = .ok (.sipush 152, 3) := by decide +kernel
theorem qd_122_932 : decode qm122.2.2.1 932 = .ok (.bipush 98, 2) := by decide +kernel
theorem qd_122_934 : decode qm122.2.2.1 934 = .ok (.iastore, 1) := by decide +kernel
theorem qd_122_935 : decode qm122.2.2.1 935 = .ok (.dup, 1) := by decide +kernel
theorem qd_122_936 : decode qm122.2.2.1 936 = .ok (.sipush 153, 3) := by decide +kernel
theorem qd_122_939 : decode qm122.2.2.1 939 = .ok (.bipush 121, 2) := by decide +kernel
theorem qd_122_941 : decode qm122.2.2.1 941 = .ok (.iastore, 1) := by decide +kernel
theorem qd_122_942 : decode qm122.2.2.1 942 = .ok (.dup, 1) := by decide +kernel
theorem qd_122_943 : decode qm122.2.2.1 943 = .ok (.sipush 154, 3) := by decide +kernel
theorem qd_122_946 : decode qm122.2.2.1 946 = .ok (.bipush 116, 2) := by decide +kernel
theorem qd_122_948 : decode qm122.2.2.1 948 = .ok (.iastore, 1) := by decide +kernel
theorem qd_122_949 : decode qm122.2.2.1 949 = .ok (.dup, 1) := by decide +kernel
theorem qd_122_950 : decode qm122.2.2.1 950 = .ok (.sipush 155, 3) := by decide +kernel
theorem qd_122_953 : decode qm122.2.2.1 953 = .ok (.bipush 101, 2) := by decide +kernel
theorem qd_122_955 : decode qm122.2.2.1 955 = .ok (.iastore, 1) := by decide +kernel
theorem qd_122_956 : decode qm122.2.2.1 956 = .ok (.dup, 1) := by decide +kernel
theorem qd_122_957 : decode qm122.2.2.1 957 = .ok (.sipush 156, 3) := by decide +kernel
theorem qd_122_960 : decode qm122.2.2.1 960 = .ok (.iconst 0, 1) := by decide +kernel
theorem qd_122_961 : decode qm122.2.2.1 961 = .ok (.iastore, 1) := by decide +kernel
theorem qd_122_962 : decode qm122.2.2.1 962 = .ok (.dup, 1) := by decide +kernel
theorem qd_122_963 : decode qm122.2.2.1 963 = .ok (.sipush 157, 3) := by decide +kernel
theorem qd_122_966 : decode qm122.2.2.1 966 = .ok (.bipush 99, 2) := by decide +kernel
theorem qd_122_968 : decode qm122.2.2.1 968 = .ok (.iastore, 1) := by decide +kernel
theorem qd_122_969 : decode qm122.2.2.1 969 = .ok (.dup, 1) := by decide +kernel
theorem qd_122_970 : decode qm122.2.2.1 970 = .ok (.sipush 158, 3) := by decide +kernel
theorem qd_122_973 : decode qm122.2.2.1 973 = .ok (.bipush 104, 2) := by decide +kernel
theorem qd_122_975 : decode qm122.2.2.1 975 = .ok (.iastore, 1) := by decide +kernel
theorem qd_122_976 : decode qm122.2.2.1 976 = .ok (.dup, 1) := by decide +kernel
theorem qd_122_977 : decode qm122.2.2.1 977 = .ok (.sipush 159, 3) := by decide +kernel
theorem qd_122_980 : decode qm122.2.2.1 980 = .ok (.bipush 97, 2) := by decide +kernel
theorem qd_122_982 : decode qm122.2.2.1 982 = .ok (.iastore, 1) := by decide +kernel
theorem qd_122_983 : decode qm122.2.2.1 983 = .ok (.dup, 1) := by decide +kernel
theorem qd_122_984 : decode qm122.2.2.1 984 = .ok (.sipush 160, 3) := by decide +kernel
theorem qd_122_987 : decode qm122.2.2.1 987 = .ok (.bipush 114, 2) := by decide +kernel
theorem qd_122_989 : decode qm122.2.2.1 989 = .ok (.iastore, 1) := by decide +kernel
theorem qd_122_990 : decode qm122.2.2.1 990 = .ok (.dup, 1) := by decide +kernel
theorem qd_122_991 : decode qm122.2.2.1 991 = .ok (.sipush 161, 3) := by decide +kernel
theorem qd_122_994 : decode qm122.2.2.1 994 = .ok (.iconst 0, 1) := by decide +kernel
theorem qd_122_995 : decode qm122.2.2.1 995 = .ok (.iastore, 1) := by decide +kernel
theorem qd_122_996 : decode qm122.2.2.1 996 = .ok (.dup, 1) := by decide +kernel
theorem qd_122_997 : decode qm122.2.2.1 997 = .ok (.sipush 162, 3) := by decide +kernel
theorem qd_122_1000 : decode qm122.2.2.1 1000 = .ok (.bipush 100, 2) := by decide +kernel
theorem qd_122_1002 : decode qm122.2.2.1 1002 = .ok (.iastore, 1) := by decide +kernel
theorem qd_122_1003 : decode qm122.2.2.1 1003 = .ok (.dup, 1) := by decide +kernel
theorem qd_122_1004 : decode qm122.2.2.1 1004 = .ok (.sipush 163, 3) := by decide +kernel
theorem qd_122_1007 : decode qm122.2.2.1 1007 = .ok (.bipush 111, 2) := by decide +kernel
theorem qd_122_1009 : decode qm122.2.2.1 1009 = .ok (.iastore, 1) := by decide +kernel
theorem qd_122_1010 : decode qm122.2.2.1 1010 = .ok (.dup, 1) := by decide +kernel
theorem qd_122_1011 : decode qm122.2.2.1 1011 = .ok (.sipush 164, 3) := by decide +kernel
theorem qd_122_1014 : decode qm122.2.2.1 1014 = .ok (.bipush 117, 2) := by decide +kernel
theorem qd_122_1016 : decode qm122.2.2.1 1016 = .ok (.iastore, 1) := by decide +kernel
theorem qd_122_1017 : decode qm122.2.2.1 1017 = .ok (.dup, 1) := by decide +kernel
theorem qd_122_1018 : decode qm122.2.2.1 1018 = .ok (.sipush 165, 3) := by decide +kernel
theorem qd_122_1021 : decode qm122.2.2.1 1021 = .ok (.bipush 98, 2) := by decide +kernel
theorem qd_122_1023 : decode qm122.2.2.1 1023 = .ok (.iastore, 1) := by decide +kernel
theorem qd_122_1024 : decode qm122.2.2.1 1024 = .ok (.dup, 1) := by decide +kernel
theorem qd_122_1025 : decode qm122.2.2.1 1025 = .ok (.sipush 166, 3) := by decide +kernel
theorem qd_122_1028 : decode qm122.2.2.1 1028 = .ok (.bipush 108, 2) := by decide +kernel
theorem qd_122_1030 : decode qm122.2.2.1 1030 = .ok (.iastore, 1) := by decide +kernel
theorem qd_122_1031 : decode qm122.2.2.1 1031 = .ok (.dup, 1) := by decide +kernel
theorem qd_122_1032 : decode qm122.2.2.1 1032 = .ok (.sipush 167, 3) := by decide +kernel
theorem qd_122_1035 : decode qm122.2.2.1 1035 = .ok (.bipush 101, 2) := by decide +kernel
theorem qd_122_1037 : decode qm122.2.2.1 1037 = .ok (.iastore, 1) := by decide +kernel
theorem qd_122_1038 : decode qm122.2.2.1 1038 = .ok (.dup, 1) := by decide +kernel
theorem qd_122_1039 : decode qm122.2.2.1 1039 = .ok (.sipush 168, 3) := by decide +kernel
theorem qd_122_1042 : decode qm122.2.2.1 1042 = .ok (.iconst 0, 1) := by decide +kernel
theorem qd_122_1043 : decode qm122.2.2.1 1043 = .ok (.iastore, 1) := by decide +kernel
theorem qd_122_1044 : decode qm122.2.2.1 1044 = .ok (.dup, 1) := by decide +kernel
theorem qd_122_1045 : decode qm122.2.2.1 1045 = .ok (.sipush 169, 3) := by decide +kernel
theorem qd_122_1048 : decode qm122.2.2.1 1048 = .ok (.bipush 102, 2) := by decide +kernel
theorem qd_122_1050 : decode qm122.2.2.1 1050 = .ok (.iastore, 1) := by decide +kernel
theorem qd_122_1051 : decode qm122.2.2.1 1051 = .ok (.dup, 1) := by decide +kernel
theorem qd_122_1052 : decode qm122.2.2.1 1052 = .ok (.sipush 170, 3) := by decide +kernel
theorem qd_122_1055 : decode qm122.2.2.1 1055 = .ok (.bipush 108, 2) := by decide +kernel
theorem qd_122_1057 : decode qm122.2.2.1 1057 = .ok (.iastore, 1) := by decide +kernel
theorem qd_122_1058 : decode qm122.2.2.1 1058 = .ok (.dup, 1) := by decide +kernel
theorem qd_122_1059 : decode qm122.2.2.1 1059 = .ok (.sipush 171, 3) := by decide +kernel
theorem qd_122_1062 : decode qm122.2.2.1 1062 = .ok (.bipush 111, 2) := by decide +kernel
theorem qd_122_1064 : decode qm122.2.2.1 1064 = .ok (.iastore, 1) := by decide +kernel
theorem qd_122_1065 : decode qm122.2.2.1 1065 = .ok (.dup, 1) := by decide +kernel
theorem qd_122_1066 : decode qm122.2.2.1 1066 = .ok (.sipush 172, 3) := by decide +kernel
theorem qd_122_1069 : decode qm122.2.2.1 1069 = .ok (.bipush 97, 2) := by decide +kernel
theorem qd_122_1071 : decode qm122.2.2.1 1071 = .ok (.iastore, 1) := by decide +kernel
theorem qd_122_1072 : decode qm122.2.2.1 1072 = .ok (.dup, 1) := by decide +kernel
theorem qd_122_1073 : decode qm122.2.2.1 1073 = .ok (.sipush 173, 3) := by decide +kernel
theorem qd_122_1076 : decode qm122.2.2.1 1076 = .ok (.bipush 116, 2) := by decide +kernel
theorem qd_122_1078 : decode qm122.2.2.1 1078 = .ok (.iastore, 1) := by decide +kernel
theorem qd_122_1079 : decode qm122.2.2.1 1079 = .ok (.dup, 1) := by decide +kernel
theorem qd_122_1080 : decode qm122.2.2.1 1080 = .ok (.sipush 174, 3) := by decide +kernel
theorem qd_122_1083 : decode qm122.2.2.1 1083 = .ok (.iconst 0, 1) := by decide +kernel
theorem qd_122_1084 : decode qm122.2.2.1 1084 = .ok (.iastore, 1) := by decide +kernel
theorem qd_122_1085 : decode qm122.2.2.1 1085 = .ok (.dup, 1) := by decide +kernel
theorem qd_122_1086 : decode qm122.2.2.1 1086 = .ok (.sipush 175, 3) := by decide +kernel
theorem qd_122_1089 : decode qm122.2.2.1 1089 = .ok (.bipush 105, 2) := by decide +kernel
theorem qd_122_1091 : decode qm122.2.2.1 1091 = .ok (.iastore, 1) := by decide +kernel
theorem qd_122_1092 : decode qm122.2.2.1 1092 = .ok (.dup, 1) := by decide +kernel
theorem qd_122_1093 : decode qm122.2.2.1 1093 = .ok (.sipush 176, 3) := by decide +kernel
theorem qd_122_1096 : decode qm122.2.2.1 1096 = .ok (.bipush 110, 2) := by decide +kernel
theorem qd_122_1098 : decode qm122.2.2.1 1098 = .ok (.iastore, 1) := by decide +kernel
theorem qd_122_1099 : decode qm122.2.2.1 1099 = .ok (.dup, 1) := by decide +kernel
theorem qd_122_1100 : decode qm122.2.2.1 1100 = .ok (.sipush 177, 3) := by decide +kernel
theorem qd_122_1103 : decode qm122.2.2.1 1103 = .ok (.bipush 116, 2) := by decide +kernel
theorem qd_122_1105 : decode qm122.2.2.1 1105 = .ok (.iastore, 1) := by decide +kernel
theorem qd_122_1106 : decode qm122.2.2.1 1106 = .ok (.dup, 1) := by decide +kernel
theorem qd_122_1107 : decode qm122.2.2.1 1107 = .ok (.sipush 178, 3) := by decide +kernel
theorem qd_122_1110 : decode qm122.2.2.1 1110 = .ok (.iconst 0, 1) := by decide +kernel
theorem qd_122_1111 : decode qm122.2.2.1 1111 = .ok (.iastore, 1) := by decide +kernel
theorem qd_122_1112 : decode qm122.2.2.1 1112 = .ok (.dup, 1) := by decide +kernel
theorem qd_122_1113 : decode qm122.2.2.1 1113 = .ok (.sipush 179, 3) := by decide +kernel
theorem qd_122_1116 : decode qm122.2.2.1 1116 = .ok (.bipush 108, 2) := by decide +kernel
theorem qd_122_1118 : decode qm122.2.2.1 1118 = .ok (.iastore, 1) := by decide +kernel
theorem qd_122_1119 : decode qm122.2.2.1 1119 = .ok (.dup, 1) := by decide +kernel
theorem qd_122_1120 : decode qm122.2.2.1 1120 = .ok (.sipush 180, 3) := by decide +kernel
theorem qd_122_1123 : decode qm122.2.2.1 1123 = .ok (.bipush 111, 2) := by decide +kernel
theorem qd_122_1125 : decode qm122.2.2.1 1125 = .ok (.iastore, 1) := by decide +kernel
theorem qd_122_1126 : decode qm122.2.2.1 1126 = .ok (.dup, 1) := by decide +kernel
theorem qd_122_1127 : decode qm122.2.2.1 1127 = .ok (.sipush 181, 3) := by decide +kernel
theorem qd_122_1130 : decode qm122.2.2.1 1130 = .ok (.bipush 110, 2) := by decide +kernel
theorem qd_122_1132 : decode qm122.2.2.1 1132 = .ok (.iastore, 1) := by decide +kernel
theorem qd_122_1133 : decode qm122.2.2.1 1133 = .ok (.dup, 1) := by decide +kernel
theorem qd_122_1134 : decode qm122.2.2.1 1134 = .ok (.sipush 182, 3) := by decide +kernel
theorem qd_122_1137 : decode qm122.2.2.1 1137 = .ok (.bipush 103, 2) := by decide +kernel
theorem qd_122_1139 : decode qm122.2.2.1 1139 = .ok (.iastore, 1) := by decide +kernel
theorem qd_122_1140 : decode qm122.2.2.1 1140 = .ok (.dup, 1) := by decide +kernel
theorem qd_122_1141 : decode qm122.2.2.1 1141 = .ok (.sipush 183, 3) := by decide +kernel
theorem qd_122_1144 : decode qm122.2.2.1 1144 = .ok (.iconst 0, 1) := by decide +kernel
theorem qd_122_1145 : decode qm122.2.2.1 1145 = .ok (.iastore, 1) := by decide +kernel
theorem qd_122_1146 : decode qm122.2.2.1 1146 = .ok (.dup, 1) := by decide +kernel
theorem qd_122_1147 : decode qm122.2.2.1 1147 = .ok (.sipush 184, 3) := by decide +kernel
theorem qd_122_1150 : decode qm122.2.2.1 1150 = .ok (.bipush 115, 2) := by decide +kernel
theorem qd_122_1152 : decode qm122.2.2.1 1152 = .ok (.iastore, 1) := by decide +kernel
theorem qd_122_1153 : decode qm122.2.2.1 1153 = .ok (.dup, 1) := by decide +kernel
theorem qd_122_1154 : decode qm122.2.2.1 1154 = .ok (.sipush 185, 3) := by decide +kernel
theorem qd_122_1157 : decode qm122.2.2.1 1157 = .ok (.bipush 104, 2) := by decide +kernel
theorem qd_122_1159 : decode qm122.2.2.1 1159 = .ok (.iastore, 1) := by decide +kernel
theorem qd_122_1160 : decode qm122.2.2.1 1160 = .ok (.dup, 1) := by decide +kernel
theorem qd_122_1161 : decode qm122.2.2.1 1161 = .ok (.sipush 186, 3) := by decide +kernel
theorem qd_122_1164 : decode qm122.2.2.1 1164 = .ok (.bipush 111, 2) := by decide +kernel
theorem qd_122_1166 : decode qm122.2.2.1 1166 = .ok (.iastore, 1) := by decide +kernel
theorem qd_122_1167 : decode qm122.2.2.1 1167 = .ok (.dup, 1) := by decide +kernel
theorem qd_122_1168 : decode qm122.2.2.1 1168 = .ok (.sipush 187, 3) := by decide +kernel
theorem qd_122_1171 : decode qm122.2.2.1 1171 = .ok (.bipush 114, 2) := by decide +kernel
theorem qd_122_1173 : decode qm122.2.2.1 1173 = .ok (.iastore, 1) := by decide +kernel
theorem qd_122_1174 : decode qm122.2.2.1 1174 = .ok (.dup, 1) := by decide +kernel
theorem qd_122_1175 : decode qm122.2.2.1 1175 = .ok (.sipush 188, 3) := by decide +kernel
theorem qd_122_1178 : decode qm122.2.2.1 1178 = .ok (.bipush 116, 2) := by decide +kernel
theorem qd_122_1180 : decode qm122.2.2.1 1180 = .ok (.iastore, 1) := by decide +kernel
theorem qd_122_1181 : decode qm122.2.2.1 1181 = .ok (.dup, 1) := by decide +kernel
theorem qd_122_1182 : decode qm122.2.2.1 1182 = .ok (.sipush 189, 3) := by decide +kernel
theorem qd_122_1185 : decode qm122.2.2.1 1185 = .ok (.iconst 0, 1) := by decide +kernel
theorem qd_122_1186 : decode qm122.2.2.1 1186 = .ok (.iastore, 1) := by decide +kernel
theorem qd_122_1187 : decode qm122.2.2.1 1187 = .ok (.dup, 1) := by decide +kernel
theorem qd_122_1188 : decode qm122.2.2.1 1188 = .ok (.sipush 190, 3) := by decide +kernel
theorem qd_122_1191 : decode qm122.2.2.1 1191 = .ok (.bipush 98, 2) := by decide +kernel
theorem qd_122_1193 : decode qm122.2.2.1 1193 = .ok (.iastore, 1) := by decide +kernel
theorem qd_122_1194 : decode qm122.2.2.1 1194 = .ok (.dup, 1) := by decide +kernel
theorem qd_122_1195 : decode qm122.2.2.1 1195 = .ok (.sipush 191, 3) := by decide +kernel
theorem qd_122_1198 : decode qm122.2.2.1 1198 = .ok (.bipush 111, 2) := by decide +kernel
theorem qd_122_1200 : decode qm122.2.2.1 1200 = .ok (.iastore, 1) := by decide +kernel
theorem qd_122_1201 : decode qm122.2.2.1 1201 = .ok (.dup, 1) := by decide +kernel
theorem qd_122_1202 : decode qm122.2.2.1 1202 = .ok (.sipush 192, 3) := by decide +kernel
theorem qd_122_1205 : decode qm122.2.2.1 1205 = .ok (.bipush 111, 2) := by decide +kernel
theorem qd_122_1207 : decode qm122.2.2.1 1207 = .ok (.iastore, 1) := by decide +kernel
theorem qd_122_1208 : decode qm122.2.2.1 1208 = .ok (.dup, 1) := by decide +kernel
theorem qd_122_1209 : decode qm122.2.2.1 1209 = .ok (.sipush 193, 3) := by decide +kernel
theorem qd_122_1212 : decode qm122.2.2.1 1212 = .ok (.bipush 108, 2) := by decide +kernel
theorem qd_122_1214 : decode qm122.2.2.1 1214 = .ok (.iastore, 1) := by decide +kernel
theorem qd_122_1215 : decode qm122.2.2.1 1215 = .ok (.dup, 1) := by decide +kernel
theorem qd_122_1216 : decode qm122.2.2.1 1216 = .ok (.sipush 194, 3) := by decide +kernel
theorem qd_122_1219 : decode qm122.2.2.1 1219 = .ok (.bipush 101, 2) := by decide +kernel
theorem qd_122_1221 : decode qm122.2.2.1 1221 = .ok (.iastore, 1) := by decide +kernel
theorem qd_122_1222 : decode qm122.2.2.1 1222 = .ok (.dup, 1) := by decide +kernel
theorem qd_122_1223 : decode qm122.2.2.1 1223 = .ok (.sipush 195, 3) := by decide +kernel
theorem qd_122_1226 : decode qm122.2.2.1 1226 = .ok (.bipush 97, 2) := by decide +kernel
theorem qd_122_1228 : decode qm122.2.2.1 1228 = .ok (.iastore, 1) := by decide +kernel
theorem qd_122_1229 : decode qm122.2.2.1 1229 = .ok (.dup, 1) := by decide +kernel
theorem qd_122_1230 : decode qm122.2.2.1 1230 = .ok (.sipush 196, 3) := by decide +kernel
theorem qd_122_1233 : decode qm122.2.2.1 1233 = .ok (.bipush 110, 2) := by decide +kernel
theorem qd_122_1235 : decode qm122.2.2.1 1235 = .ok (.iastore, 1) := by decide +kernel
theorem qd_122_1236 : decode qm122.2.2.1 1236 = .ok (.dup, 1) := by decide +kernel
theorem qd_122_1237 : decode qm122.2.2.1 1237 = .ok (.sipush 197, 3) := by decide +kernel
theorem qd_122_1240 : decode qm122.2.2.1 1240 = .ok (.iconst 0, 1) := by decide +kernel
theorem qd_122_1241 : decode qm122.2.2.1 1241 = .ok (.iastore, 1) := by decide +kernel
theorem qd_122_1242 : decode qm122.2.2.1 1242 = .ok (.dup, 1) := by decide +kernel
theorem qd_122_1243 : decode qm122.2.2.1 1243 = .ok (.sipush 198, 3) := by decide +kernel
theorem qd_122_1246 : decode qm122.2.2.1 1246 = .ok (.bipush 118, 2) := by decide +kernel
theorem qd_122_1248 : decode qm122.2.2.1 1248 = .ok (.iastore, 1) := by decide +kernel
theorem qd_122_1249 : decode qm122.2.2.1 1249 = .ok (.dup, 1) := by decide +kernel
theorem qd_122_1250 : decode qm122.2.2.1 1250 = .ok (.sipush 199, 3) := by decide +kernel
theorem qd_122_1253 : decode qm122.2.2.1 1253 = .ok (.bipush 111, 2) := by decide +kernel
theorem qd_122_1255 : decode qm122.2.2.1 1255 = .ok (.iastore, 1) := by decide +kernel
theorem qd_122_1256 : decode qm122.2.2.1 1256 = .ok (.dup, 1) := by decide +kernel
theorem qd_122_1257 : decode qm122.2.2.1 1257 = .ok (.sipush 200, 3) := by decide +kernel
theorem qd_122_1260 : decode qm122.2.2.1 1260 = .ok (.bipush 105, 2) := by decide +kernel
theorem qd_122_1262 : decode qm122.2.2.1 1262 = .ok (.iastore, 1) := by decide +kernel
theorem qd_122_1263 : decode qm122.2.2.1 1263 = .ok (.dup, 1) := by decide +kernel
theorem qd_122_1264 : decode qm122.2.2.1 1264 = .ok (.sipush 201, 3) := by decide +kernel
theorem qd_122_1267 : decode qm122.2.2.1 1267 = .ok (.bipush 100, 2) := by decide +kernel
theorem qd_122_1269 : decode qm122.2.2.1 1269 = .ok (.iastore, 1) := by decide +kernel
theorem qd_122_1270 : decode qm122.2.2.1 1270 = .ok (.dup, 1) := by decide +kernel
theorem qd_122_1271 : decode qm122.2.2.1 1271 = .ok (.sipush 202, 3) := by decide +kernel
theorem qd_122_1274 : decode qm122.2.2.1 1274 = .ok (.iconst 0, 1) := by decide +kernel
theorem qd_122_1275 : decode qm122.2.2.1 1275 = .ok (.iastore, 1) := by decide +kernel
theorem qd_122_1276 : decode qm122.2.2.1 1276 = .ok (.putfield 7, 3) := by decide +kernel
theorem qd_122_1279 : decode qm122.2.2.1 1279 = .ok (.aload_n 0, 1) := by decide +kernel
theorem qd_122_1280 : decode qm122.2.2.1 1280 = .ok (.sipush 500, 3) := by decide +kernel
theorem qd_122_1283 : decode qm122.2.2.1 1283 = .ok (.newarray .int, 2) := by decide +kernel
theorem qd_122_1285 : decode qm122.2.2.1 1285 = .ok (.putfield 13, 3) := by decide +kernel
theorem qd_122_1288 : decode qm122.2.2.1 1288 = .ok (.aload_n 0, 1) := by decide +kernel
theorem qd_122_1289 : decode qm122.2.2.1 1289 = .ok (.sipush 500, 3) := by decide +kernel
theorem qd_122_1292 : decode qm122.2.2.1 1292 = .ok (.newarray .int, 2) := by decide +kernel
theorem qd_122_1294 : decode qm122.2.2.1 1294 = .ok (.putfield 16, 3) := by decide +kernel
theorem qd_122_1297 : decode qm122.2.2.1 1297 = .ok (.aload_n 0, 1) := by decide +kernel
theorem qd_122_1298 : decode qm122.2.2.1 1298 = .ok (.bipush (-2), 2) := by decide +kernel
theorem qd_122_1300 : decode qm122.2.2.1 1300 = .ok (.putfield 19, 3) := by decide +kernel
theorem qd_122_1303 : decode qm122.2.2.1 1303 = .ok (.aload_n 0, 1) := by decide +kernel
theorem qd_122_1304 : decode qm122.2.2.1 1304 = .ok (.sipush 520, 3) := by decide +kernel
theorem qd_122_1307 : decode qm122.2.2.1 1307 = .ok (.newarray .int, 2) := by decide +kernel
theorem qd_122_1309 : decode qm122.2.2.1 1309 = .ok (.putfield 23, 3) := by decide +kernel
theorem qd_122_1312 : decode qm122.2.2.1 1312 = .ok (.aload_n 0, 1) := by decide +kernel
theorem qd_122_1313 : decode qm122.2.2.1 1313 = .ok (.sipush 160, 3) := by decide +kernel
theorem qd_122_1316 : decode qm122.2.2.1 1316 = .ok (.newarray .int, 2) := by decide +kernel
theorem qd_122_1318 : decode qm122.2.2.1 1318 = .ok (.putfield 26, 3) := by decide +kernel
theorem qd_122_1321 : decode qm122.2.2.1 1321 = .ok (.aload_n 0, 1) := by decide +kernel
theorem qd_122_1322 : decode qm122.2.2.1 1322 = .ok (.sipush 160, 3) := by decide +kernel
theorem qd_122_1325 : decode qm122.2.2.1 1325 = .ok (.newarray .int, 2) := by decide +kernel
theorem qd_122_1327 : decode qm122.2.2.1 1327 = .ok (.putfield 29, 3) := by decide +kernel
theorem qd_122_1330 : decode qm122.2.2.1 1330 = .ok (.aload_n 0, 1) := by decide +kernel
theorem qd_122_1331 : decode qm122.2.2.1 1331 = .ok (.sipush 160, 3) := by decide +kernel
theorem qd_122_1334 : decode qm122.2.2.1 1334 = .ok (.newarray .int, 2) := by decide +kernel
theorem qd_122_1336 : decode qm122.2.2.1 1336 = .ok (.putfield 32, 3) := by decide +kernel
theorem qd_122_1339 : decode qm122.2.2.1 1339 = .ok (.aload_n 0, 1) := by decide +kernel
theorem qd_122_1340 : decode qm122.2.2.1 1340 = .ok (.sipush 160, 3) := by decide +kernel
theorem qd_122_1343 : decode qm122.2.2.1 1343 = .ok (.newarray .int, 2) := by decide +kernel
theorem qd_122_1345 : decode qm122.2.2.1 1345 = .ok (.putfield 35, 3) := by decide +kernel
theorem qd_122_1348 : decode qm122.2.2.1 1348 = .ok (.aload_n 0, 1) := by decide +kernel
theorem qd_122_1349 : decode qm122.2.2.1 1349 = .ok (.sipush 160, 3) := by decide +kernel
theorem qd_122_1352 : decode qm122.2.2.1 1352 = .ok (.newarray .int, 2) := by decide +kernel
theorem qd_122_1354 : decode qm122.2.2.1 1354 = .ok (.putfield 38, 3) := by decide +kernel
theorem qd_122_1357 : decode qm122.2.2.1 1357 = .ok (.aload_n 0, 1) := by decide +kernel
theorem qd_122_1358 : decode qm122.2.2.1 1358 = .ok (.iconst 2, 1) := by decide +kernel
theorem qd_122_1359 : decode qm122.2.2.1 1359 = .ok (.newarray .int, 2) := by decide +kernel
theorem qd_122_1361 : decode qm122.2.2.1 1361 = .ok (.putfield 41, 3) := by decide +kernel
theorem qd_122_1364 : decode qm122.2.2.1 1364 = .ok (.aload_n 0, 1) := by decide +kernel
theorem qd_122_1365 : decode qm122.2.2.1 1365 = .ok (.bipush 9, 2) := by decide +kernel
theorem qd_122_1367 : decode qm122.2.2.1 1367 = .ok (.newarray .int, 2) := by decide +kernel
theorem qd_122_1369 : decode qm122.2.2.1 1369 = .ok (.putfield 44, 3) := by decide +kernel
theorem qd_122_1372 : decode qm122.2.2.1 1372 = .ok (.aload_n 0, 1) := by decide +kernel
theorem qd_122_1373 : decode qm122.2.2.1 1373 = .ok (.bipush 9, 2) := by decide +kernel
theorem qd_122_1375 : decode qm122.2.2.1 1375 = .ok (.newarray .int, 2) := by decide +kernel
theorem qd_122_1377 : decode qm122.2.2.1 1377 = .ok (.putfield 47, 3) := by decide +kernel
theorem qd_122_1380 : decode qm122.2.2.1 1380 = .ok (.aload_n 0, 1) := by decide +kernel
theorem qd_122_1381 : decode qm122.2.2.1 1381 = .ok (.sipush 170, 3) := by decide +kernel
theorem qd_122_1384 : decode qm122.2.2.1 1384 = .ok (.newarray .int, 2) := by decide +kernel
theorem qd_122_1386 : decode qm122.2.2.1 1386 = .ok (.putfield 50, 3) := by decide +kernel
theorem qd_122_1389 : decode qm122.2.2.1 1389 = .ok (.aload_n 0, 1) := by decide +kernel
theorem qd_122_1390 : decode qm122.2.2.1 1390 = .ok (.bipush 9, 2) := by decide +kernel
theorem qd_122_1392 : decode qm122.2.2.1 1392 = .ok (.newarray .boolean, 2) := by decide +kernel
theorem qd_122_1394 : decode qm122.2.2.1 1394 = .ok (.putfield 53, 3) := by decide +kernel
theorem qd_122_1397 : decode qm122.2.2.1 1397 = .ok (.aload_n 0, 1) := by decide +kernel
theorem qd_122_1398 : decode qm122.2.2.1 1398 = .ok (.sipush 6000, 3) := by decide +kernel
theorem qd_122_1401 : decode qm122.2.2.1 1401 = .ok (.newarray .int, 2) := by decide +kernel
theorem qd_122_1403 : decode qm122.2.2.1 1403 = .ok (.putfield 57, 3) := by decide +kernel
theorem qd_122_1406 : decode qm122.2.2.1 1406 = .ok (.return_, 1) := by decide +kernel
