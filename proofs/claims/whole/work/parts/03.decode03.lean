theorem dX7_tie_10 : decode cX7_tie 10 = .ok (.iconst 0, 1) := by decide +kernel
theorem dX7_tie_11 : decode cX7_tie 11 = .ok (.ireturn, 1) := by decide +kernel
theorem dX7_tie_12 : decode cX7_tie 12 = .ok (.aload_n 0, 1) := by decide +kernel
theorem dX7_tie_13 : decode cX7_tie 13 = .ok (.iload_n 1, 1) := by decide +kernel
theorem dX7_tie_14 : decode cX7_tie 14 = .ok (.dup2, 1) := by decide +kernel
theorem dX7_tie_15 : decode cX7_tie 15 = .ok (.iaload, 1) := by decide +kernel
theorem dX7_tie_16 : decode cX7_tie 16 = .ok (.iconst 1, 1) := by decide +kernel
theorem dX7_tie_17 : decode cX7_tie 17 = .ok (.iload_n 2, 1) := by decide +kernel
theorem dX7_tie_18 : decode cX7_tie 18 = .ok (.ishl, 1) := by decide +kernel
theorem dX7_tie_19 : decode cX7_tie 19 = .ok (.ior, 1) := by decide +kernel
theorem dX7_tie_20 : decode cX7_tie 20 = .ok (.iastore, 1) := by decide +kernel
theorem dX7_tie_21 : decode cX7_tie 21 = .ok (.aload_n 0, 1) := by decide +kernel
theorem dX7_tie_22 : decode cX7_tie 22 = .ok (.iload_n 2, 1) := by decide +kernel
theorem dX7_tie_23 : decode cX7_tie 23 = .ok (.dup2, 1) := by decide +kernel
theorem dX7_tie_24 : decode cX7_tie 24 = .ok (.iaload, 1) := by decide +kernel
theorem dX7_tie_25 : decode cX7_tie 25 = .ok (.iconst 1, 1) := by decide +kernel
theorem dX7_tie_26 : decode cX7_tie 26 = .ok (.iload_n 1, 1) := by decide +kernel
theorem dX7_tie_27 : decode cX7_tie 27 = .ok (.ishl, 1) := by decide +kernel
theorem dX7_tie_28 : decode cX7_tie 28 = .ok (.ior, 1) := by decide +kernel
theorem dX7_tie_29 : decode cX7_tie 29 = .ok (.iastore, 1) := by decide +kernel
theorem dX7_tie_30 : decode cX7_tie 30 = .ok (.iconst 1, 1) := by decide +kernel
theorem dX7_tie_31 : decode cX7_tie 31 = .ok (.ireturn, 1) := by decide +kernel
theorem dX7_yearsOf_0 : decode cX7_yearsOf 0 = .ok (.iload_n 2, 1) := by decide +kernel
theorem dX7_yearsOf_1 : decode cX7_yearsOf 1 = .ok (.aload_n 0, 1) := by decide +kernel
theorem dX7_yearsOf_2 : decode cX7_yearsOf 2 = .ok (.getfield 11, 3) := by decide +kernel
theorem dX7_yearsOf_5 : decode cX7_yearsOf 5 = .ok (.iload_n 1, 1) := by decide +kernel
theorem dX7_yearsOf_6 : decode cX7_yearsOf 6 = .ok (.iaload, 1) := by decide +kernel
theorem dX7_yearsOf_7 : decode cX7_yearsOf 7 = .ok (.if_icmp .ge 5, 3) := by decide +kernel
theorem dX7_yearsOf_10 : decode cX7_yearsOf 10 = .ok (.iconst (-1), 1) := by decide +kernel
theorem dX7_yearsOf_11 : decode cX7_yearsOf 11 = .ok (.ireturn, 1) := by decide +kernel
theorem dX7_yearsOf_12 : decode cX7_yearsOf 12 = .ok (.iload_n 3, 1) := by decide +kernel
theorem dX7_yearsOf_13 : decode cX7_yearsOf 13 = .ok (.aload_n 0, 1) := by decide +kernel
theorem dX7_yearsOf_14 : decode cX7_yearsOf 14 = .ok (.getfield 15, 3) := by decide +kernel
theorem dX7_yearsOf_17 : decode cX7_yearsOf 17 = .ok (.iload_n 1, 1) := by decide +kernel
theorem dX7_yearsOf_18 : decode cX7_yearsOf 18 = .ok (.iaload, 1) := by decide +kernel
theorem dX7_yearsOf_19 : decode cX7_yearsOf 19 = .ok (.isub, 1) := by decide +kernel
theorem dX7_yearsOf_20 : decode cX7_yearsOf 20 = .ok (.istore 4, 2) := by decide +kernel
theorem dX7_yearsOf_22 : decode cX7_yearsOf 22 = .ok (.iload_n 2, 1) := by decide +kernel
theorem dX7_yearsOf_23 : decode cX7_yearsOf 23 = .ok (.iload_n 3, 1) := by decide +kernel
theorem dX7_yearsOf_24 : decode cX7_yearsOf 24 = .ok (.aload_n 0, 1) := by decide +kernel
theorem dX7_yearsOf_25 : decode cX7_yearsOf 25 = .ok (.getfield 18, 3) := by decide +kernel
theorem dX7_yearsOf_28 : decode cX7_yearsOf 28 = .ok (.iload_n 1, 1) := by decide +kernel
theorem dX7_yearsOf_29 : decode cX7_yearsOf 29 = .ok (.iaload, 1) := by decide +kernel
theorem dX7_yearsOf_30 : decode cX7_yearsOf 30 = .ok (.invokestatic 58, 3) := by decide +kernel
theorem dX7_yearsOf_33 : decode cX7_yearsOf 33 = .ok (.if_icmp .ge 10, 3) := by decide +kernel
theorem dX7_yearsOf_36 : decode cX7_yearsOf 36 = .ok (.iload 4, 2) := by decide +kernel
theorem dX7_yearsOf_38 : decode cX7_yearsOf 38 = .ok (.iconst 1, 1) := by decide +kernel
theorem dX7_yearsOf_39 : decode cX7_yearsOf 39 = .ok (.isub, 1) := by decide +kernel
theorem dX7_yearsOf_40 : decode cX7_yearsOf 40 = .ok (.goto 5, 3) := by decide +kernel
theorem dX7_yearsOf_43 : decode cX7_yearsOf 43 = .ok (.iload 4, 2) := by decide +kernel
theorem dX7_yearsOf_45 : decode cX7_yearsOf 45 = .ok (.ireturn, 1) := by decide +kernel
theorem dX7_birthdayBehind_0 : decode cX7_birthdayBehind 0 = .ok (.iload_n 2, 1) := by decide +kernel
theorem dX7_birthdayBehind_1 : decode cX7_birthdayBehind 1 = .ok (.aload_n 0, 1) := by decide +kernel
theorem dX7_birthdayBehind_2 : decode cX7_birthdayBehind 2 = .ok (.getfield 11, 3) := by decide +kernel
theorem dX7_birthdayBehind_5 : decode cX7_birthdayBehind 5 = .ok (.iload_n 1, 1) := by decide +kernel
theorem dX7_birthdayBehind_6 : decode cX7_birthdayBehind 6 = .ok (.iaload, 1) := by decide +kernel
theorem dX7_birthdayBehind_7 : decode cX7_birthdayBehind 7 = .ok (.if_icmp .ge 10, 3) := by decide +kernel
theorem dX7_birthdayBehind_10 : decode cX7_birthdayBehind 10 = .ok (.aload_n 0, 1) := by decide +kernel
theorem dX7_birthdayBehind_11 : decode cX7_birthdayBehind 11 = .ok (.getfield 11, 3) := by decide +kernel
theorem dX7_birthdayBehind_14 : decode cX7_birthdayBehind 14 = .ok (.iload_n 1, 1) := by decide +kernel
theorem dX7_birthdayBehind_15 : decode cX7_birthdayBehind 15 = .ok (.iaload, 1) := by decide +kernel
theorem dX7_birthdayBehind_16 : decode cX7_birthdayBehind 16 = .ok (.ireturn, 1) := by decide +kernel
theorem dX7_birthdayBehind_17 : decode cX7_birthdayBehind 17 = .ok (.iload_n 3, 1) := by decide +kernel
theorem dX7_birthdayBehind_18 : decode cX7_birthdayBehind 18 = .ok (.aload_n 0, 1) := by decide +kernel
theorem dX7_birthdayBehind_19 : decode cX7_birthdayBehind 19 = .ok (.getfield 18, 3) := by decide +kernel
theorem dX7_birthdayBehind_22 : decode cX7_birthdayBehind 22 = .ok (.iload_n 1, 1) := by decide +kernel
theorem dX7_birthdayBehind_23 : decode cX7_birthdayBehind 23 = .ok (.iaload, 1) := by decide +kernel
theorem dX7_birthdayBehind_24 : decode cX7_birthdayBehind 24 = .ok (.invokestatic 58, 3) := by decide +kernel
theorem dX7_birthdayBehind_27 : decode cX7_birthdayBehind 27 = .ok (.istore 4, 2) := by decide +kernel
theorem dX7_birthdayBehind_29 : decode cX7_birthdayBehind 29 = .ok (.iload 4, 2) := by decide +kernel
theorem dX7_birthdayBehind_31 : decode cX7_birthdayBehind 31 = .ok (.iload_n 2, 1) := by decide +kernel
theorem dX7_birthdayBehind_32 : decode cX7_birthdayBehind 32 = .ok (.if_icmp .le 8, 3) := by decide +kernel
theorem dX7_birthdayBehind_35 : decode cX7_birthdayBehind 35 = .ok (.iload 4, 2) := by decide +kernel
theorem dX7_birthdayBehind_37 : decode cX7_birthdayBehind 37 = .ok (.goto 15, 3) := by decide +kernel
theorem dX7_birthdayBehind_40 : decode cX7_birthdayBehind 40 = .ok (.iload_n 3, 1) := by decide +kernel
theorem dX7_birthdayBehind_41 : decode cX7_birthdayBehind 41 = .ok (.iconst 1, 1) := by decide +kernel
theorem dX7_birthdayBehind_42 : decode cX7_birthdayBehind 42 = .ok (.iadd, 1) := by decide +kernel
theorem dX7_birthdayBehind_43 : decode cX7_birthdayBehind 43 = .ok (.aload_n 0, 1) := by decide +kernel
theorem dX7_birthdayBehind_44 : decode cX7_birthdayBehind 44 = .ok (.getfield 18, 3) := by decide +kernel
theorem dX7_birthdayBehind_47 : decode cX7_birthdayBehind 47 = .ok (.iload_n 1, 1) := by decide +kernel
theorem dX7_birthdayBehind_48 : decode cX7_birthdayBehind 48 = .ok (.iaload, 1) := by decide +kernel
theorem dX7_birthdayBehind_49 : decode cX7_birthdayBehind 49 = .ok (.invokestatic 58, 3) := by decide +kernel
theorem dX7_birthdayBehind_52 : decode cX7_birthdayBehind 52 = .ok (.ireturn, 1) := by decide +kernel
theorem dX7_copyFrom_0 : decode cX7_copyFrom 0 = .ok (.aload_n 0, 1) := by decide +kernel
theorem dX7_copyFrom_1 : decode cX7_copyFrom 1 = .ok (.aload_n 1, 1) := by decide +kernel
theorem dX7_copyFrom_2 : decode cX7_copyFrom 2 = .ok (.getfield 33, 3) := by decide +kernel
theorem dX7_copyFrom_5 : decode cX7_copyFrom 5 = .ok (.putfield 33, 3) := by decide +kernel
theorem dX7_copyFrom_8 : decode cX7_copyFrom 8 = .ok (.aload_n 0, 1) := by decide +kernel
theorem dX7_copyFrom_9 : decode cX7_copyFrom 9 = .ok (.aload_n 1, 1) := by decide +kernel
theorem dX7_copyFrom_10 : decode cX7_copyFrom 10 = .ok (.getfield 37, 3) := by decide +kernel
theorem dX7_copyFrom_13 : decode cX7_copyFrom 13 = .ok (.putfield 37, 3) := by decide +kernel
theorem dX7_copyFrom_16 : decode cX7_copyFrom 16 = .ok (.aload_n 1, 1) := by decide +kernel
theorem dX7_copyFrom_17 : decode cX7_copyFrom 17 = .ok (.getfield 11, 3) := by decide +kernel
theorem dX7_copyFrom_20 : decode cX7_copyFrom 20 = .ok (.iconst 0, 1) := by decide +kernel
theorem dX7_copyFrom_21 : decode cX7_copyFrom 21 = .ok (.aload_n 0, 1) := by decide +kernel
theorem dX7_copyFrom_22 : decode cX7_copyFrom 22 = .ok (.getfield 11, 3) := by decide +kernel
theorem dX7_copyFrom_25 : decode cX7_copyFrom 25 = .ok (.iconst 0, 1) := by decide +kernel
theorem dX7_copyFrom_26 : decode cX7_copyFrom 26 = .ok (.bipush 8, 2) := by decide +kernel
theorem dX7_copyFrom_28 : decode cX7_copyFrom 28 = .ok (.invokestatic 61, 3) := by decide +kernel
theorem dX7_copyFrom_31 : decode cX7_copyFrom 31 = .ok (.aload_n 1, 1) := by decide +kernel
theorem dX7_copyFrom_32 : decode cX7_copyFrom 32 = .ok (.getfield 15, 3) := by decide +kernel
theorem dX7_copyFrom_35 : decode cX7_copyFrom 35 = .ok (.iconst 0, 1) := by decide +kernel
theorem dX7_copyFrom_36 : decode cX7_copyFrom 36 = .ok (.aload_n 0, 1) := by decide +kernel
theorem dX7_copyFrom_37 : decode cX7_copyFrom 37 = .ok (.getfield 15, 3) := by decide +kernel
theorem dX7_copyFrom_40 : decode cX7_copyFrom 40 = .ok (.iconst 0, 1) := by decide +kernel
theorem dX7_copyFrom_41 : decode cX7_copyFrom 41 = .ok (.bipush 8, 2) := by decide +kernel
theorem dX7_copyFrom_43 : decode cX7_copyFrom 43 = .ok (.invokestatic 61, 3) := by decide +kernel
theorem dX7_copyFrom_46 : decode cX7_copyFrom 46 = .ok (.aload_n 1, 1) := by decide +kernel
theorem dX7_copyFrom_47 : decode cX7_copyFrom 47 = .ok (.getfield 18, 3) := by decide +kernel
theorem dX7_copyFrom_50 : decode cX7_copyFrom 50 = .ok (.iconst 0, 1) := by decide +kernel
theorem dX7_copyFrom_51 : decode cX7_copyFrom 51 = .ok (.aload_n 0, 1) := by decide +kernel
theorem dX7_copyFrom_52 : decode cX7_copyFrom 52 = .ok (.getfield 18, 3) := by decide +kernel
theorem dX7_copyFrom_55 : decode cX7_copyFrom 55 = .ok (.iconst 0, 1) := by decide +kernel
theorem dX7_copyFrom_56 : decode cX7_copyFrom 56 = .ok (.bipush 8, 2) := by decide +kernel
theorem dX7_copyFrom_58 : decode cX7_copyFrom 58 = .ok (.invokestatic 61, 3) := by decide +kernel
theorem dX7_copyFrom_61 : decode cX7_copyFrom 61 = .ok (.aload_n 1, 1) := by decide +kernel
theorem dX7_copyFrom_62 : decode cX7_copyFrom 62 = .ok (.getfield 21, 3) := by decide +kernel
theorem dX7_copyFrom_65 : decode cX7_copyFrom 65 = .ok (.iconst 0, 1) := by decide +kernel
theorem dX7_copyFrom_66 : decode cX7_copyFrom 66 = .ok (.aload_n 0, 1) := by decide +kernel
theorem dX7_copyFrom_67 : decode cX7_copyFrom 67 = .ok (.getfield 21, 3) := by decide +kernel
theorem dX7_copyFrom_70 : decode cX7_copyFrom 70 = .ok (.iconst 0, 1) := by decide +kernel
theorem dX7_copyFrom_71 : decode cX7_copyFrom 71 = .ok (.bipush 8, 2) := by decide +kernel
theorem dX7_copyFrom_73 : decode cX7_copyFrom 73 = .ok (.invokestatic 61, 3) := by decide +kernel
theorem dX7_copyFrom_76 : decode cX7_copyFrom 76 = .ok (.aload_n 1, 1) := by decide +kernel
theorem dX7_copyFrom_77 : decode cX7_copyFrom 77 = .ok (.getfield 24, 3) := by decide +kernel
theorem dX7_copyFrom_80 : decode cX7_copyFrom 80 = .ok (.iconst 0, 1) := by decide +kernel
theorem dX7_copyFrom_81 : decode cX7_copyFrom 81 = .ok (.aload_n 0, 1) := by decide +kernel
theorem dX7_copyFrom_82 : decode cX7_copyFrom 82 = .ok (.getfield 24, 3) := by decide +kernel
theorem dX7_copyFrom_85 : decode cX7_copyFrom 85 = .ok (.iconst 0, 1) := by decide +kernel
theorem dX7_copyFrom_86 : decode cX7_copyFrom 86 = .ok (.bipush 8, 2) := by decide +kernel
theorem dX7_copyFrom_88 : decode cX7_copyFrom 88 = .ok (.invokestatic 61, 3) := by decide +kernel
theorem dX7_copyFrom_91 : decode cX7_copyFrom 91 = .ok (.aload_n 1, 1) := by decide +kernel
theorem dX7_copyFrom_92 : decode cX7_copyFrom 92 = .ok (.getfield 27, 3) := by decide +kernel
theorem dX7_copyFrom_95 : decode cX7_copyFrom 95 = .ok (.iconst 0, 1) := by decide +kernel
theorem dX7_copyFrom_96 : decode cX7_copyFrom 96 = .ok (.aload_n 0, 1) := by decide +kernel
theorem dX7_copyFrom_97 : decode cX7_copyFrom 97 = .ok (.getfield 27, 3) := by decide +kernel
theorem dX7_copyFrom_100 : decode cX7_copyFrom 100 = .ok (.iconst 0, 1) := by decide +kernel
theorem dX7_copyFrom_101 : decode cX7_copyFrom 101 = .ok (.iconst 4, 1) := by decide +kernel
theorem dX7_copyFrom_102 : decode cX7_copyFrom 102 = .ok (.invokestatic 61, 3) := by decide +kernel
theorem dX7_copyFrom_105 : decode cX7_copyFrom 105 = .ok (.aload_n 1, 1) := by decide +kernel
theorem dX7_copyFrom_106 : decode cX7_copyFrom 106 = .ok (.getfield 30, 3) := by decide +kernel
theorem dX7_copyFrom_109 : decode cX7_copyFrom 109 = .ok (.iconst 0, 1) := by decide +kernel
theorem dX7_copyFrom_110 : decode cX7_copyFrom 110 = .ok (.aload_n 0, 1) := by decide +kernel
theorem dX7_copyFrom_111 : decode cX7_copyFrom 111 = .ok (.getfield 30, 3) := by decide +kernel
theorem dX7_copyFrom_114 : decode cX7_copyFrom 114 = .ok (.iconst 0, 1) := by decide +kernel
theorem dX7_copyFrom_115 : decode cX7_copyFrom 115 = .ok (.iconst 4, 1) := by decide +kernel
theorem dX7_copyFrom_116 : decode cX7_copyFrom 116 = .ok (.invokestatic 61, 3) := by decide +kernel
theorem dX7_copyFrom_119 : decode cX7_copyFrom 119 = .ok (.return_, 1) := by decide +kernel
theorem dX8_init_0 : decode cX8_init 0 = .ok (.aload_n 0, 1) := by decide +kernel
theorem dX8_init_1 : decode cX8_init 1 = .ok (.invokespecial 1, 3) := by decide +kernel
theorem dX8_init_4 : decode cX8_init 4 = .ok (.aload_n 0, 1) := by decide +kernel
theorem dX8_init_5 : decode cX8_init 5 = .ok (.new 7, 3) := by decide +kernel
theorem dX8_init_8 : decode cX8_init 8 = .ok (.dup, 1) := by decide +kernel
theorem dX8_init_9 : decode cX8_init 9 = .ok (.invokespecial 9, 3) := by decide +kernel
theorem dX8_init_12 : decode cX8_init 12 = .ok (.putfield 10, 3) := by decide +kernel
theorem dX8_init_15 : decode cX8_init 15 = .ok (.aload_n 0, 1) := by decide +kernel
theorem dX8_init_16 : decode cX8_init 16 = .ok (.new 16, 3) := by decide +kernel
theorem dX8_init_19 : decode cX8_init 19 = .ok (.dup, 1) := by decide +kernel
theorem dX8_init_20 : decode cX8_init 20 = .ok (.invokespecial 18, 3) := by decide +kernel
theorem dX8_init_23 : decode cX8_init 23 = .ok (.putfield 19, 3) := by decide +kernel
theorem dX8_init_26 : decode cX8_init 26 = .ok (.aload_n 0, 1) := by decide +kernel
theorem dX8_init_27 : decode cX8_init 27 = .ok (.bipush 10, 2) := by decide +kernel
theorem dX8_init_29 : decode cX8_init 29 = .ok (.newarray .int, 2) := by decide +kernel
theorem dX8_init_31 : decode cX8_init 31 = .ok (.putfield 25, 3) := by decide +kernel
theorem dX8_init_34 : decode cX8_init 34 = .ok (.aload_n 0, 1) := by decide +kernel
theorem dX8_init_35 : decode cX8_init 35 = .ok (.new 29, 3) := by decide +kernel
theorem dX8_init_38 : decode cX8_init 38 = .ok (.dup, 1) := by decide +kernel
theorem dX8_init_39 : decode cX8_init 39 = .ok (.invokespecial 31, 3) := by decide +kernel
theorem dX8_init_42 : decode cX8_init 42 = .ok (.putfield 32, 3) := by decide +kernel
theorem dX8_init_45 : decode cX8_init 45 = .ok (.return_, 1) := by decide +kernel
theorem dX8_copyFrom_0 : decode cX8_copyFrom 0 = .ok (.aload_n 0, 1) := by decide +kernel
theorem dX8_copyFrom_1 : decode cX8_copyFrom 1 = .ok (.getfield 10, 3) := by decide +kernel
theorem dX8_copyFrom_4 : decode cX8_copyFrom 4 = .ok (.aload_n 1, 1) := by decide +kernel
theorem dX8_copyFrom_5 : decode cX8_copyFrom 5 = .ok (.getfield 10, 3) := by decide +kernel
theorem dX8_copyFrom_8 : decode cX8_copyFrom 8 = .ok (.invokevirtual 36, 3) := by decide +kernel
theorem dX8_copyFrom_11 : decode cX8_copyFrom 11 = .ok (.aload_n 0, 1) := by decide +kernel
theorem dX8_copyFrom_12 : decode cX8_copyFrom 12 = .ok (.getfield 19, 3) := by decide +kernel
theorem dX8_copyFrom_15 : decode cX8_copyFrom 15 = .ok (.aload_n 1, 1) := by decide +kernel
theorem dX8_copyFrom_16 : decode cX8_copyFrom 16 = .ok (.getfield 19, 3) := by decide +kernel
theorem dX8_copyFrom_19 : decode cX8_copyFrom 19 = .ok (.invokevirtual 40, 3) := by decide +kernel
theorem dX8_copyFrom_22 : decode cX8_copyFrom 22 = .ok (.aload_n 1, 1) := by decide +kernel
theorem dX8_copyFrom_23 : decode cX8_copyFrom 23 = .ok (.getfield 25, 3) := by decide +kernel
theorem dX8_copyFrom_26 : decode cX8_copyFrom 26 = .ok (.iconst 0, 1) := by decide +kernel
theorem dX8_copyFrom_27 : decode cX8_copyFrom 27 = .ok (.aload_n 0, 1) := by decide +kernel
theorem dX8_copyFrom_28 : decode cX8_copyFrom 28 = .ok (.getfield 25, 3) := by decide +kernel
theorem dX8_copyFrom_31 : decode cX8_copyFrom 31 = .ok (.iconst 0, 1) := by decide +kernel
theorem dX8_copyFrom_32 : decode cX8_copyFrom 32 = .ok (.bipush 10, 2) := by decide +kernel
theorem dX8_copyFrom_34 : decode cX8_copyFrom 34 = .ok (.invokestatic 43, 3) := by decide +kernel
theorem dX8_copyFrom_37 : decode cX8_copyFrom 37 = .ok (.aload_n 0, 1) := by decide +kernel
theorem dX8_copyFrom_38 : decode cX8_copyFrom 38 = .ok (.getfield 32, 3) := by decide +kernel
theorem dX8_copyFrom_41 : decode cX8_copyFrom 41 = .ok (.aload_n 1, 1) := by decide +kernel
theorem dX8_copyFrom_42 : decode cX8_copyFrom 42 = .ok (.getfield 32, 3) := by decide +kernel
theorem dX8_copyFrom_45 : decode cX8_copyFrom 45 = .ok (.invokevirtual 49, 3) := by decide +kernel
theorem dX8_copyFrom_48 : decode cX8_copyFrom 48 = .ok (.return_, 1) := by decide +kernel
theorem dX8_digestFrom_0 : decode cX8_digestFrom 0 = .ok (.ldc2_w 52, 3) := by decide +kernel
theorem dX8_digestFrom_3 : decode cX8_digestFrom 3 = .ok (.ldc2_w 52, 3) := by decide +kernel
theorem dX8_digestFrom_6 : decode cX8_digestFrom 6 = .ok (.lload_n 1, 1) := by decide +kernel
theorem dX8_digestFrom_7 : decode cX8_digestFrom 7 = .ok (.lmul, 1) := by decide +kernel
theorem dX8_digestFrom_8 : decode cX8_digestFrom 8 = .ok (.aload_n 0, 1) := by decide +kernel
theorem dX8_digestFrom_9 : decode cX8_digestFrom 9 = .ok (.getfield 10, 3) := by decide +kernel
theorem dX8_digestFrom_12 : decode cX8_digestFrom 12 = .ok (.getfield 54, 3) := by decide +kernel
theorem dX8_digestFrom_15 : decode cX8_digestFrom 15 = .ok (.i2l, 1) := by decide +kernel
theorem dX8_digestFrom_16 : decode cX8_digestFrom 16 = .ok (.ladd, 1) := by decide +kernel
theorem dX8_digestFrom_17 : decode cX8_digestFrom 17 = .ok (.lmul, 1) := by decide +kernel
theorem dX8_digestFrom_18 : decode cX8_digestFrom 18 = .ok (.aload_n 0, 1) := by decide +kernel
theorem dX8_digestFrom_19 : decode cX8_digestFrom 19 = .ok (.getfield 10, 3) := by decide +kernel
theorem dX8_digestFrom_22 : decode cX8_digestFrom 22 = .ok (.getfield 58, 3) := by decide +kernel
theorem dX8_digestFrom_25 : decode cX8_digestFrom 25 = .ok (.i2l, 1) := by decide +kernel
theorem dX8_digestFrom_26 : decode cX8_digestFrom 26 = .ok (.ladd, 1) := by decide +kernel
theorem dX8_digestFrom_27 : decode cX8_digestFrom 27 = .ok (.lstore_n 3, 1) := by decide +kernel
theorem dX8_digestFrom_28 : decode cX8_digestFrom 28 = .ok (.ldc2_w 52, 3) := by decide +kernel
theorem dX8_digestFrom_31 : decode cX8_digestFrom 31 = .ok (.ldc2_w 52, 3) := by decide +kernel
theorem dX8_digestFrom_34 : decode cX8_digestFrom 34 = .ok (.lload_n 3, 1) := by decide +kernel
theorem dX8_digestFrom_35 : decode cX8_digestFrom 35 = .ok (.lmul, 1) := by decide +kernel
theorem dX8_digestFrom_36 : decode cX8_digestFrom 36 = .ok (.aload_n 0, 1) := by decide +kernel
theorem dX8_digestFrom_37 : decode cX8_digestFrom 37 = .ok (.getfield 19, 3) := by decide +kernel
theorem dX8_digestFrom_40 : decode cX8_digestFrom 40 = .ok (.getfield 61, 3) := by decide +kernel
theorem dX8_digestFrom_43 : decode cX8_digestFrom 43 = .ok (.i2l, 1) := by decide +kernel
theorem dX8_digestFrom_44 : decode cX8_digestFrom 44 = .ok (.ladd, 1) := by decide +kernel
theorem dX8_digestFrom_45 : decode cX8_digestFrom 45 = .ok (.lmul, 1) := by decide +kernel
theorem dX8_digestFrom_46 : decode cX8_digestFrom 46 = .ok (.aload_n 0, 1) := by decide +kernel
theorem dX8_digestFrom_47 : decode cX8_digestFrom 47 = .ok (.getfield 32, 3) := by decide +kernel
theorem dX8_digestFrom_50 : decode cX8_digestFrom 50 = .ok (.getfield 64, 3) := by decide +kernel
theorem dX8_digestFrom_53 : decode cX8_digestFrom 53 = .ok (.i2l, 1) := by decide +kernel
theorem dX8_digestFrom_54 : decode cX8_digestFrom 54 = .ok (.ladd, 1) := by decide +kernel
theorem dX8_digestFrom_55 : decode cX8_digestFrom 55 = .ok (.lstore_n 3, 1) := by decide +kernel
theorem dX8_digestFrom_56 : decode cX8_digestFrom 56 = .ok (.iconst 0, 1) := by decide +kernel
theorem dX8_digestFrom_57 : decode cX8_digestFrom 57 = .ok (.istore 5, 2) := by decide +kernel
theorem dX8_digestFrom_59 : decode cX8_digestFrom 59 = .ok (.iload 5, 2) := by decide +kernel
theorem dX8_digestFrom_61 : decode cX8_digestFrom 61 = .ok (.aload_n 0, 1) := by decide +kernel
theorem dX8_digestFrom_62 : decode cX8_digestFrom 62 = .ok (.getfield 10, 3) := by decide +kernel
theorem dX8_digestFrom_65 : decode cX8_digestFrom 65 = .ok (.getfield 54, 3) := by decide +kernel
theorem dX8_digestFrom_68 : decode cX8_digestFrom 68 = .ok (.if_icmp .ge 59, 3) := by decide +kernel
theorem dX8_digestFrom_71 : decode cX8_digestFrom 71 = .ok (.ldc2_w 52, 3) := by decide +kernel
theorem dX8_digestFrom_74 : decode cX8_digestFrom 74 = .ok (.ldc2_w 52, 3) := by decide +kernel
theorem dX8_digestFrom_77 : decode cX8_digestFrom 77 = .ok (.ldc2_w 52, 3) := by decide +kernel
theorem dX8_digestFrom_80 : decode cX8_digestFrom 80 = .ok (.lload_n 3, 1) := by decide +kernel
theorem dX8_digestFrom_81 : decode cX8_digestFrom 81 = .ok (.lmul, 1) := by decide +kernel
theorem dX8_digestFrom_82 : decode cX8_digestFrom 82 = .ok (.aload_n 0, 1) := by decide +kernel
theorem dX8_digestFrom_83 : decode cX8_digestFrom 83 = .ok (.getfield 10, 3) := by decide +kernel
theorem dX8_digestFrom_86 : decode cX8_digestFrom 86 = .ok (.getfield 67, 3) := by decide +kernel
theorem dX8_digestFrom_89 : decode cX8_digestFrom 89 = .ok (.iload 5, 2) := by decide +kernel
theorem dX8_digestFrom_91 : decode cX8_digestFrom 91 = .ok (.iaload, 1) := by decide +kernel
theorem dX8_digestFrom_92 : decode cX8_digestFrom 92 = .ok (.i2l, 1) := by decide +kernel
theorem dX8_digestFrom_93 : decode cX8_digestFrom 93 = .ok (.ladd, 1) := by decide +kernel
theorem dX8_digestFrom_94 : decode cX8_digestFrom 94 = .ok (.lmul, 1) := by decide +kernel
theorem dX8_digestFrom_95 : decode cX8_digestFrom 95 = .ok (.aload_n 0, 1) := by decide +kernel
theorem dX8_digestFrom_96 : decode cX8_digestFrom 96 = .ok (.getfield 10, 3) := by decide +kernel
theorem dX8_digestFrom_99 : decode cX8_digestFrom 99 = .ok (.getfield 70, 3) := by decide +kernel
theorem dX8_digestFrom_102 : decode cX8_digestFrom 102 = .ok (.iload 5, 2) := by decide +kernel
theorem dX8_digestFrom_104 : decode cX8_digestFrom 104 = .ok (.iaload, 1) := by decide +kernel
theorem dX8_digestFrom_105 : decode cX8_digestFrom 105 = .ok (.i2l, 1) := by decide +kernel
theorem dX8_digestFrom_106 : decode cX8_digestFrom 106 = .ok (.ladd, 1) := by decide +kernel
theorem dX8_digestFrom_107 : decode cX8_digestFrom 107 = .ok (.lmul, 1) := by decide +kernel
theorem dX8_digestFrom_108 : decode cX8_digestFrom 108 = .ok (.aload_n 0, 1) := by decide +kernel
theorem dX8_digestFrom_109 : decode cX8_digestFrom 109 = .ok (.getfield 10, 3) := by decide +kernel
theorem dX8_digestFrom_112 : decode cX8_digestFrom 112 = .ok (.getfield 73, 3) := by decide +kernel
theorem dX8_digestFrom_115 : decode cX8_digestFrom 115 = .ok (.iload 5, 2) := by decide +kernel
theorem dX8_digestFrom_117 : decode cX8_digestFrom 117 = .ok (.iaload, 1) := by decide +kernel
theorem dX8_digestFrom_118 : decode cX8_digestFrom 118 = .ok (.i2l, 1) := by decide +kernel
theorem dX8_digestFrom_119 : decode cX8_digestFrom 119 = .ok (.ladd, 1) := by decide +kernel
theorem dX8_digestFrom_120 : decode cX8_digestFrom 120 = .ok (.lstore_n 3, 1) := by decide +kernel
theorem dX8_digestFrom_121 : decode cX8_digestFrom 121 = .ok (.iinc 5 1, 3) := by decide +kernel
theorem dX8_digestFrom_124 : decode cX8_digestFrom 124 = .ok (.goto (-65), 3) := by decide +kernel
theorem dX8_digestFrom_127 : decode cX8_digestFrom 127 = .ok (.iconst 0, 1) := by decide +kernel
theorem dX8_digestFrom_128 : decode cX8_digestFrom 128 = .ok (.istore 5, 2) := by decide +kernel
theorem dX8_digestFrom_130 : decode cX8_digestFrom 130 = .ok (.iload 5, 2) := by decide +kernel
theorem dX8_digestFrom_132 : decode cX8_digestFrom 132 = .ok (.aload_n 0, 1) := by decide +kernel
theorem dX8_digestFrom_133 : decode cX8_digestFrom 133 = .ok (.getfield 10, 3) := by decide +kernel
theorem dX8_digestFrom_136 : decode cX8_digestFrom 136 = .ok (.getfield 58, 3) := by decide +kernel
theorem dX8_digestFrom_139 : decode cX8_digestFrom 139 = .ok (.if_icmp .ge 43, 3) := by decide +kernel
theorem dX8_digestFrom_142 : decode cX8_digestFrom 142 = .ok (.ldc2_w 52, 3) := by decide +kernel
theorem dX8_digestFrom_145 : decode cX8_digestFrom 145 = .ok (.ldc2_w 52, 3) := by decide +kernel
theorem dX8_digestFrom_148 : decode cX8_digestFrom 148 = .ok (.lload_n 3, 1) := by decide +kernel
theorem dX8_digestFrom_149 : decode cX8_digestFrom 149 = .ok (.lmul, 1) := by decide +kernel
theorem dX8_digestFrom_150 : decode cX8_digestFrom 150 = .ok (.aload_n 0, 1) := by decide +kernel
theorem dX8_digestFrom_151 : decode cX8_digestFrom 151 = .ok (.getfield 10, 3) := by decide +kernel
theorem dX8_digestFrom_154 : decode cX8_digestFrom 154 = .ok (.getfield 76, 3) := by decide +kernel
theorem dX8_digestFrom_157 : decode cX8_digestFrom 157 = .ok (.iload 5, 2) := by decide +kernel
theorem dX8_digestFrom_159 : decode cX8_digestFrom 159 = .ok (.iaload, 1) := by decide +kernel
theorem dX8_digestFrom_160 : decode cX8_digestFrom 160 = .ok (.i2l, 1) := by decide +kernel
theorem dX8_digestFrom_161 : decode cX8_digestFrom 161 = .ok (.ladd, 1) := by decide +kernel
theorem dX8_digestFrom_162 : decode cX8_digestFrom 162 = .ok (.lmul, 1) := by decide +kernel
theorem dX8_digestFrom_163 : decode cX8_digestFrom 163 = .ok (.aload_n 0, 1) := by decide +kernel
theorem dX8_digestFrom_164 : decode cX8_digestFrom 164 = .ok (.getfield 10, 3) := by decide +kernel
theorem dX8_digestFrom_167 : decode cX8_digestFrom 167 = .ok (.getfield 79, 3) := by decide +kernel
theorem dX8_digestFrom_170 : decode cX8_digestFrom 170 = .ok (.iload 5, 2) := by decide +kernel
theorem dX8_digestFrom_172 : decode cX8_digestFrom 172 = .ok (.iaload, 1) := by decide +kernel
theorem dX8_digestFrom_173 : decode cX8_digestFrom 173 = .ok (.i2l, 1) := by decide +kernel
theorem dX8_digestFrom_174 : decode cX8_digestFrom 174 = .ok (.ladd, 1) := by decide +kernel
theorem dX8_digestFrom_175 : decode cX8_digestFrom 175 = .ok (.lstore_n 3, 1) := by decide +kernel
theorem dX8_digestFrom_176 : decode cX8_digestFrom 176 = .ok (.iinc 5 1, 3) := by decide +kernel
theorem dX8_digestFrom_179 : decode cX8_digestFrom 179 = .ok (.goto (-49), 3) := by decide +kernel
theorem dX8_digestFrom_182 : decode cX8_digestFrom 182 = .ok (.iconst 0, 1) := by decide +kernel
theorem dX8_digestFrom_183 : decode cX8_digestFrom 183 = .ok (.istore 5, 2) := by decide +kernel
theorem dX8_digestFrom_185 : decode cX8_digestFrom 185 = .ok (.iload 5, 2) := by decide +kernel
theorem dX8_digestFrom_187 : decode cX8_digestFrom 187 = .ok (.aload_n 0, 1) := by decide +kernel
theorem dX8_digestFrom_188 : decode cX8_digestFrom 188 = .ok (.getfield 19, 3) := by decide +kernel
theorem dX8_digestFrom_191 : decode cX8_digestFrom 191 = .ok (.getfield 61, 3) := by decide +kernel
theorem dX8_digestFrom_194 : decode cX8_digestFrom 194 = .ok (.if_icmp .ge 26, 3) := by decide +kernel
theorem dX8_digestFrom_197 : decode cX8_digestFrom 197 = .ok (.ldc2_w 52, 3) := by decide +kernel
theorem dX8_digestFrom_200 : decode cX8_digestFrom 200 = .ok (.lload_n 3, 1) := by decide +kernel
theorem dX8_digestFrom_201 : decode cX8_digestFrom 201 = .ok (.lmul, 1) := by decide +kernel
theorem dX8_digestFrom_202 : decode cX8_digestFrom 202 = .ok (.aload_n 0, 1) := by decide +kernel
theorem dX8_digestFrom_203 : decode cX8_digestFrom 203 = .ok (.getfield 19, 3) := by decide +kernel
theorem dX8_digestFrom_206 : decode cX8_digestFrom 206 = .ok (.iload 5, 2) := by decide +kernel
theorem dX8_digestFrom_208 : decode cX8_digestFrom 208 = .ok (.invokevirtual 82, 3) := by decide +kernel
theorem dX8_digestFrom_211 : decode cX8_digestFrom 211 = .ok (.i2l, 1) := by decide +kernel
theorem dX8_digestFrom_212 : decode cX8_digestFrom 212 = .ok (.ladd, 1) := by decide +kernel
theorem dX8_digestFrom_213 : decode cX8_digestFrom 213 = .ok (.lstore_n 3, 1) := by decide +kernel
theorem dX8_digestFrom_214 : decode cX8_digestFrom 214 = .ok (.iinc 5 1, 3) := by decide +kernel
theorem dX8_digestFrom_217 : decode cX8_digestFrom 217 = .ok (.goto (-32), 3) := by decide +kernel
theorem dX8_digestFrom_220 : decode cX8_digestFrom 220 = .ok (.iconst 0, 1) := by decide +kernel
theorem dX8_digestFrom_221 : decode cX8_digestFrom 221 = .ok (.istore 5, 2) := by decide +kernel
theorem dX8_digestFrom_223 : decode cX8_digestFrom 223 = .ok (.iload 5, 2) := by decide +kernel
theorem dX8_digestFrom_225 : decode cX8_digestFrom 225 = .ok (.bipush 10, 2) := by decide +kernel
theorem dX8_digestFrom_227 : decode cX8_digestFrom 227 = .ok (.if_icmp .ge 24, 3) := by decide +kernel
theorem dX8_digestFrom_230 : decode cX8_digestFrom 230 = .ok (.ldc2_w 52, 3) := by decide +kernel
theorem dX8_digestFrom_233 : decode cX8_digestFrom 233 = .ok (.lload_n 3, 1) := by decide +kernel
theorem dX8_digestFrom_234 : decode cX8_digestFrom 234 = .ok (.lmul, 1) := by decide +kernel
theorem dX8_digestFrom_235 : decode cX8_digestFrom 235 = .ok (.aload_n 0, 1) := by decide +kernel
theorem dX8_digestFrom_236 : decode cX8_digestFrom 236 = .ok (.getfield 25, 3) := by decide +kernel
theorem dX8_digestFrom_239 : decode cX8_digestFrom 239 = .ok (.iload 5, 2) := by decide +kernel
theorem dX8_digestFrom_241 : decode cX8_digestFrom 241 = .ok (.iaload, 1) := by decide +kernel
theorem dX8_digestFrom_242 : decode cX8_digestFrom 242 = .ok (.i2l, 1) := by decide +kernel
theorem dX8_digestFrom_243 : decode cX8_digestFrom 243 = .ok (.ladd, 1) := by decide +kernel
theorem dX8_digestFrom_244 : decode cX8_digestFrom 244 = .ok (.lstore_n 3, 1) := by decide +kernel
theorem dX8_digestFrom_245 : decode cX8_digestFrom 245 = .ok (.iinc 5 1, 3) := by decide +kernel
theorem dX8_digestFrom_248 : decode cX8_digestFrom 248 = .ok (.goto (-25), 3) := by decide +kernel
theorem dX8_digestFrom_251 : decode cX8_digestFrom 251 = .ok (.iconst 0, 1) := by decide +kernel
theorem dX8_digestFrom_252 : decode cX8_digestFrom 252 = .ok (.istore 5, 2) := by decide +kernel
theorem dX8_digestFrom_254 : decode cX8_digestFrom 254 = .ok (.iload 5, 2) := by decide +kernel
theorem dX8_digestFrom_256 : decode cX8_digestFrom 256 = .ok (.aload_n 0, 1) := by decide +kernel
theorem dX8_digestFrom_257 : decode cX8_digestFrom 257 = .ok (.getfield 32, 3) := by decide +kernel
theorem dX8_digestFrom_260 : decode cX8_digestFrom 260 = .ok (.getfield 64, 3) := by decide +kernel
theorem dX8_digestFrom_263 : decode cX8_digestFrom 263 = .ok (.if_icmp .ge 69, 3) := by decide +kernel
theorem dX8_digestFrom_266 : decode cX8_digestFrom 266 = .ok (.ldc2_w 52, 3) := by decide +kernel
theorem dX8_digestFrom_269 : decode cX8_digestFrom 269 = .ok (.ldc2_w 52, 3) := by decide +kernel
theorem dX8_digestFrom_272 : decode cX8_digestFrom 272 = .ok (.lload_n 3, 1) := by decide +kernel
theorem dX8_digestFrom_273 : decode cX8_digestFrom 273 = .ok (.lmul, 1) := by decide +kernel
theorem dX8_digestFrom_274 : decode cX8_digestFrom 274 = .ok (.aload_n 0, 1) := by decide +kernel
theorem dX8_digestFrom_275 : decode cX8_digestFrom 275 = .ok (.getfield 32, 3) := by decide +kernel
theorem dX8_digestFrom_278 : decode cX8_digestFrom 278 = .ok (.getfield 86, 3) := by decide +kernel
theorem dX8_digestFrom_281 : decode cX8_digestFrom 281 = .ok (.iload 5, 2) := by decide +kernel
theorem dX8_digestFrom_283 : decode cX8_digestFrom 283 = .ok (.iaload, 1) := by decide +kernel
theorem dX8_digestFrom_284 : decode cX8_digestFrom 284 = .ok (.i2l, 1) := by decide +kernel
theorem dX8_digestFrom_285 : decode cX8_digestFrom 285 = .ok (.ladd, 1) := by decide +kernel
theorem dX8_digestFrom_286 : decode cX8_digestFrom 286 = .ok (.lmul, 1) := by decide +kernel
theorem dX8_digestFrom_287 : decode cX8_digestFrom 287 = .ok (.aload_n 0, 1) := by decide +kernel
theorem dX8_digestFrom_288 : decode cX8_digestFrom 288 = .ok (.getfield 32, 3) := by decide +kernel
theorem dX8_digestFrom_291 : decode cX8_digestFrom 291 = .ok (.getfield 89, 3) := by decide +kernel
theorem dX8_digestFrom_294 : decode cX8_digestFrom 294 = .ok (.iload 5, 2) := by decide +kernel
theorem dX8_digestFrom_296 : decode cX8_digestFrom 296 = .ok (.iaload, 1) := by decide +kernel
theorem dX8_digestFrom_297 : decode cX8_digestFrom 297 = .ok (.i2l, 1) := by decide +kernel
theorem dX8_digestFrom_298 : decode cX8_digestFrom 298 = .ok (.ladd, 1) := by decide +kernel
theorem dX8_digestFrom_299 : decode cX8_digestFrom 299 = .ok (.lstore_n 3, 1) := by decide +kernel
theorem dX8_digestFrom_300 : decode cX8_digestFrom 300 = .ok (.ldc2_w 52, 3) := by decide +kernel
theorem dX8_digestFrom_303 : decode cX8_digestFrom 303 = .ok (.lload_n 3, 1) := by decide +kernel
theorem dX8_digestFrom_304 : decode cX8_digestFrom 304 = .ok (.lmul, 1) := by decide +kernel
theorem dX8_digestFrom_305 : decode cX8_digestFrom 305 = .ok (.aload_n 0, 1) := by decide +kernel
theorem dX8_digestFrom_306 : decode cX8_digestFrom 306 = .ok (.getfield 32, 3) := by decide +kernel
theorem dX8_digestFrom_309 : decode cX8_digestFrom 309 = .ok (.getfield 92, 3) := by decide +kernel
theorem dX8_digestFrom_312 : decode cX8_digestFrom 312 = .ok (.iload 5, 2) := by decide +kernel
theorem dX8_digestFrom_314 : decode cX8_digestFrom 314 = .ok (.baload, 1) := by decide +kernel
theorem dX8_digestFrom_315 : decode cX8_digestFrom 315 = .ok (.ifCond .eq 7, 3) := by decide +kernel
theorem dX8_digestFrom_318 : decode cX8_digestFrom 318 = .ok (.iconst 1, 1) := by decide +kernel
theorem dX8_digestFrom_319 : decode cX8_digestFrom 319 = .ok (.goto 4, 3) := by decide +kernel
theorem dX8_digestFrom_322 : decode cX8_digestFrom 322 = .ok (.iconst 0, 1) := by decide +kernel
theorem dX8_digestFrom_323 : decode cX8_digestFrom 323 = .ok (.i2l, 1) := by decide +kernel
theorem dX8_digestFrom_324 : decode cX8_digestFrom 324 = .ok (.ladd, 1) := by decide +kernel
theorem dX8_digestFrom_325 : decode cX8_digestFrom 325 = .ok (.lstore_n 3, 1) := by decide +kernel
theorem dX8_digestFrom_326 : decode cX8_digestFrom 326 = .ok (.iinc 5 1, 3) := by decide +kernel
theorem dX8_digestFrom_329 : decode cX8_digestFrom 329 = .ok (.goto (-75), 3) := by decide +kernel
theorem dX8_digestFrom_332 : decode cX8_digestFrom 332 = .ok (.ldc2_w 52, 3) := by decide +kernel
theorem dX8_digestFrom_335 : decode cX8_digestFrom 335 = .ok (.lload_n 3, 1) := by decide +kernel
theorem dX8_digestFrom_336 : decode cX8_digestFrom 336 = .ok (.lmul, 1) := by decide +kernel
theorem dX8_digestFrom_337 : decode cX8_digestFrom 337 = .ok (.aload_n 0, 1) := by decide +kernel
theorem dX8_digestFrom_338 : decode cX8_digestFrom 338 = .ok (.getfield 32, 3) := by decide +kernel
theorem dX8_digestFrom_341 : decode cX8_digestFrom 341 = .ok (.getfield 96, 3) := by decide +kernel
theorem dX8_digestFrom_344 : decode cX8_digestFrom 344 = .ok (.i2l, 1) := by decide +kernel
theorem dX8_digestFrom_345 : decode cX8_digestFrom 345 = .ok (.ladd, 1) := by decide +kernel
theorem dX8_digestFrom_346 : decode cX8_digestFrom 346 = .ok (.lreturn, 1) := by decide +kernel
theorem dX9_init_0 : decode cX9_init 0 = .ok (.aload_n 0, 1) := by decide +kernel
theorem dX9_init_1 : decode cX9_init 1 = .ok (.invokespecial 3, 3) := by decide +kernel
theorem dX9_init_4 : decode cX9_init 4 = .ok (.aload_n 0, 1) := by decide +kernel
theorem dX9_init_5 : decode cX9_init 5 = .ok (.sipush 610, 3) := by decide +kernel
theorem dX9_init_8 : decode cX9_init 8 = .ok (.newarray .long, 2) := by decide +kernel
theorem dX9_init_10 : decode cX9_init 10 = .ok (.putfield 9, 3) := by decide +kernel
theorem dX9_init_13 : decode cX9_init 13 = .ok (.aload_n 0, 1) := by decide +kernel
theorem dX9_init_14 : decode cX9_init 14 = .ok (.aload_n 1, 1) := by decide +kernel
theorem dX9_init_15 : decode cX9_init 15 = .ok (.putfield 13, 3) := by decide +kernel
theorem dX9_init_18 : decode cX9_init 18 = .ok (.return_, 1) := by decide +kernel
theorem dX9_countSets_0 : decode cX9_countSets 0 = .ok (.iconst 0, 1) := by decide +kernel
theorem dX9_countSets_1 : decode cX9_countSets 1 = .ok (.istore_n 1, 1) := by decide +kernel
theorem dX9_countSets_2 : decode cX9_countSets 2 = .ok (.iload_n 1, 1) := by decide +kernel
theorem dX9_countSets_3 : decode cX9_countSets 3 = .ok (.aload_n 0, 1) := by decide +kernel
theorem dX9_countSets_4 : decode cX9_countSets 4 = .ok (.getfield 9, 3) := by decide +kernel
theorem dX9_countSets_7 : decode cX9_countSets 7 = .ok (.arraylength, 1) := by decide +kernel
theorem dX9_countSets_8 : decode cX9_countSets 8 = .ok (.if_icmp .ge 16, 3) := by decide +kernel
theorem dX9_countSets_11 : decode cX9_countSets 11 = .ok (.aload_n 0, 1) := by decide +kernel
theorem dX9_countSets_12 : decode cX9_countSets 12 = .ok (.getfield 9, 3) := by decide +kernel
theorem dX9_countSets_15 : decode cX9_countSets 15 = .ok (.iload_n 1, 1) := by decide +kernel
theorem dX9_countSets_16 : decode cX9_countSets 16 = .ok (.lconst 0, 1) := by decide +kernel
theorem dX9_countSets_17 : decode cX9_countSets 17 = .ok (.lastore, 1) := by decide +kernel
theorem dX9_countSets_18 : decode cX9_countSets 18 = .ok (.iinc 1 1, 3) := by decide +kernel
theorem dX9_countSets_21 : decode cX9_countSets 21 = .ok (.goto (-19), 3) := by decide +kernel
theorem dX9_countSets_24 : decode cX9_countSets 24 = .ok (.aload_n 0, 1) := by decide +kernel
theorem dX9_countSets_25 : decode cX9_countSets 25 = .ok (.getfield 9, 3) := by decide +kernel
theorem dX9_countSets_28 : decode cX9_countSets 28 = .ok (.iconst 0, 1) := by decide +kernel
theorem dX9_countSets_29 : decode cX9_countSets 29 = .ok (.lconst 1, 1) := by decide +kernel
theorem dX9_countSets_30 : decode cX9_countSets 30 = .ok (.lastore, 1) := by decide +kernel
theorem dX9_countSets_31 : decode cX9_countSets 31 = .ok (.iconst 0, 1) := by decide +kernel
theorem dX9_countSets_32 : decode cX9_countSets 32 = .ok (.istore_n 1, 1) := by decide +kernel
theorem dX9_countSets_33 : decode cX9_countSets 33 = .ok (.iconst 0, 1) := by decide +kernel
theorem dX9_countSets_34 : decode cX9_countSets 34 = .ok (.istore_n 2, 1) := by decide +kernel
theorem dX9_countSets_35 : decode cX9_countSets 35 = .ok (.iload_n 2, 1) := by decide +kernel
theorem dX9_countSets_36 : decode cX9_countSets 36 = .ok (.bipush 10, 2) := by decide +kernel
theorem dX9_countSets_38 : decode cX9_countSets 38 = .ok (.if_icmp .ge 42, 3) := by decide +kernel
theorem dX9_countSets_41 : decode cX9_countSets 41 = .ok (.iconst 0, 1) := by decide +kernel
theorem dX9_countSets_42 : decode cX9_countSets 42 = .ok (.istore_n 3, 1) := by decide +kernel
theorem dX9_countSets_43 : decode cX9_countSets 43 = .ok (.iload_n 3, 1) := by decide +kernel
theorem dX9_countSets_44 : decode cX9_countSets 44 = .ok (.aload_n 0, 1) := by decide +kernel
theorem dX9_countSets_45 : decode cX9_countSets 45 = .ok (.getfield 13, 3) := by decide +kernel
theorem dX9_countSets_48 : decode cX9_countSets 48 = .ok (.iload_n 2, 1) := by decide +kernel
theorem dX9_countSets_49 : decode cX9_countSets 49 = .ok (.iaload, 1) := by decide +kernel
theorem dX9_countSets_50 : decode cX9_countSets 50 = .ok (.if_icmp .ge 24, 3) := by decide +kernel
theorem dX9_countSets_53 : decode cX9_countSets 53 = .ok (.iload_n 1, 1) := by decide +kernel
theorem dX9_countSets_54 : decode cX9_countSets 54 = .ok (.bipush 60, 2) := by decide +kernel
theorem dX9_countSets_56 : decode cX9_countSets 56 = .ok (.if_icmp .ge 18, 3) := by decide +kernel
theorem dX9_countSets_59 : decode cX9_countSets 59 = .ok (.iinc 1 1, 3) := by decide +kernel
theorem dX9_countSets_62 : decode cX9_countSets 62 = .ok (.aload_n 0, 1) := by decide +kernel
theorem dX9_countSets_63 : decode cX9_countSets 63 = .ok (.iload_n 2, 1) := by decide +kernel
theorem dX9_countSets_64 : decode cX9_countSets 64 = .ok (.iload_n 1, 1) := by decide +kernel
theorem dX9_countSets_65 : decode cX9_countSets 65 = .ok (.invokevirtual 17, 3) := by decide +kernel
theorem dX9_countSets_68 : decode cX9_countSets 68 = .ok (.iinc 3 1, 3) := by decide +kernel
theorem dX9_countSets_71 : decode cX9_countSets 71 = .ok (.goto (-28), 3) := by decide +kernel
theorem dX9_countSets_74 : decode cX9_countSets 74 = .ok (.iinc 2 1, 3) := by decide +kernel
theorem dX9_countSets_77 : decode cX9_countSets 77 = .ok (.goto (-42), 3) := by decide +kernel
theorem dX9_countSets_80 : decode cX9_countSets 80 = .ok (.iload_n 1, 1) := by decide +kernel
theorem dX9_countSets_81 : decode cX9_countSets 81 = .ok (.ireturn, 1) := by decide +kernel
theorem dX9_addOne_0 : decode cX9_addOne 0 = .ok (.iload_n 2, 1) := by decide +kernel
theorem dX9_addOne_1 : decode cX9_addOne 1 = .ok (.istore_n 3, 1) := by decide +kernel
theorem dX9_addOne_2 : decode cX9_addOne 2 = .ok (.iload_n 3, 1) := by decide +kernel
theorem dX9_addOne_3 : decode cX9_addOne 3 = .ok (.iconst 1, 1) := by decide +kernel
theorem dX9_addOne_4 : decode cX9_addOne 4 = .ok (.if_icmp .lt 66, 3) := by decide +kernel
theorem dX9_addOne_7 : decode cX9_addOne 7 = .ok (.iconst 0, 1) := by decide +kernel
theorem dX9_addOne_8 : decode cX9_addOne 8 = .ok (.istore 4, 2) := by decide +kernel
theorem dX9_addOne_10 : decode cX9_addOne 10 = .ok (.iload 4, 2) := by decide +kernel
theorem dX9_addOne_12 : decode cX9_addOne 12 = .ok (.bipush 10, 2) := by decide +kernel
theorem dX9_addOne_14 : decode cX9_addOne 14 = .ok (.if_icmp .ge 50, 3) := by decide +kernel
theorem dX9_addOne_17 : decode cX9_addOne 17 = .ok (.iload 4, 2) := by decide +kernel
theorem dX9_addOne_19 : decode cX9_addOne 19 = .ok (.bipush 10, 2) := by decide +kernel
theorem dX9_addOne_21 : decode cX9_addOne 21 = .ok (.iadd, 1) := by decide +kernel
theorem dX9_addOne_22 : decode cX9_addOne 22 = .ok (.iload_n 1, 1) := by decide +kernel
theorem dX9_addOne_23 : decode cX9_addOne 23 = .ok (.isub, 1) := by decide +kernel
theorem dX9_addOne_24 : decode cX9_addOne 24 = .ok (.bipush 10, 2) := by decide +kernel
theorem dX9_addOne_26 : decode cX9_addOne 26 = .ok (.irem, 1) := by decide +kernel
theorem dX9_addOne_27 : decode cX9_addOne 27 = .ok (.istore 5, 2) := by decide +kernel
theorem dX9_addOne_29 : decode cX9_addOne 29 = .ok (.aload_n 0, 1) := by decide +kernel
theorem dX9_addOne_30 : decode cX9_addOne 30 = .ok (.getfield 9, 3) := by decide +kernel
theorem dX9_addOne_33 : decode cX9_addOne 33 = .ok (.iload_n 3, 1) := by decide +kernel
theorem dX9_addOne_34 : decode cX9_addOne 34 = .ok (.bipush 10, 2) := by decide +kernel
theorem dX9_addOne_36 : decode cX9_addOne 36 = .ok (.imul, 1) := by decide +kernel
theorem dX9_addOne_37 : decode cX9_addOne 37 = .ok (.iload 4, 2) := by decide +kernel
theorem dX9_addOne_39 : decode cX9_addOne 39 = .ok (.iadd, 1) := by decide +kernel
theorem dX9_addOne_40 : decode cX9_addOne 40 = .ok (.dup2, 1) := by decide +kernel
theorem dX9_addOne_41 : decode cX9_addOne 41 = .ok (.laload, 1) := by decide +kernel
theorem dX9_addOne_42 : decode cX9_addOne 42 = .ok (.aload_n 0, 1) := by decide +kernel
theorem dX9_addOne_43 : decode cX9_addOne 43 = .ok (.getfield 9, 3) := by decide +kernel
theorem dX9_addOne_46 : decode cX9_addOne 46 = .ok (.iload_n 3, 1) := by decide +kernel
theorem dX9_addOne_47 : decode cX9_addOne 47 = .ok (.iconst 1, 1) := by decide +kernel
theorem dX9_addOne_48 : decode cX9_addOne 48 = .ok (.isub, 1) := by decide +kernel
theorem dX9_addOne_49 : decode cX9_addOne 49 = .ok (.bipush 10, 2) := by decide +kernel
theorem dX9_addOne_51 : decode cX9_addOne 51 = .ok (.imul, 1) := by decide +kernel
theorem dX9_addOne_52 : decode cX9_addOne 52 = .ok (.iload 5, 2) := by decide +kernel
theorem dX9_addOne_54 : decode cX9_addOne 54 = .ok (.iadd, 1) := by decide +kernel
theorem dX9_addOne_55 : decode cX9_addOne 55 = .ok (.laload, 1) := by decide +kernel
theorem dX9_addOne_56 : decode cX9_addOne 56 = .ok (.ladd, 1) := by decide +kernel
theorem dX9_addOne_57 : decode cX9_addOne 57 = .ok (.lastore, 1) := by decide +kernel
theorem dX9_addOne_58 : decode cX9_addOne 58 = .ok (.iinc 4 1, 3) := by decide +kernel
theorem dX9_addOne_61 : decode cX9_addOne 61 = .ok (.goto (-51), 3) := by decide +kernel
theorem dX9_addOne_64 : decode cX9_addOne 64 = .ok (.iinc 3 (-1), 3) := by decide +kernel
theorem dX9_addOne_67 : decode cX9_addOne 67 = .ok (.goto (-65), 3) := by decide +kernel
theorem dX9_addOne_70 : decode cX9_addOne 70 = .ok (.return_, 1) := by decide +kernel
theorem dX9_setsOfTens_0 : decode cX9_setsOfTens 0 = .ok (.aload_n 0, 1) := by decide +kernel
theorem dX9_setsOfTens_1 : decode cX9_setsOfTens 1 = .ok (.getfield 9, 3) := by decide +kernel
theorem dX9_setsOfTens_4 : decode cX9_setsOfTens 4 = .ok (.iload_n 1, 1) := by decide +kernel
theorem dX9_setsOfTens_5 : decode cX9_setsOfTens 5 = .ok (.bipush 10, 2) := by decide +kernel
theorem dX9_setsOfTens_7 : decode cX9_setsOfTens 7 = .ok (.imul, 1) := by decide +kernel
theorem dX9_setsOfTens_8 : decode cX9_setsOfTens 8 = .ok (.laload, 1) := by decide +kernel
theorem dX9_setsOfTens_9 : decode cX9_setsOfTens 9 = .ok (.lreturn, 1) := by decide +kernel
theorem dX10_init_0 : decode cX10_init 0 = .ok (.aload_n 0, 1) := by decide +kernel
theorem dX10_init_1 : decode cX10_init 1 = .ok (.invokespecial 1, 3) := by decide +kernel
theorem dX10_init_4 : decode cX10_init 4 = .ok (.aload_n 0, 1) := by decide +kernel
theorem dX10_init_5 : decode cX10_init 5 = .ok (.new 7, 3) := by decide +kernel
theorem dX10_init_8 : decode cX10_init 8 = .ok (.dup, 1) := by decide +kernel
theorem dX10_init_9 : decode cX10_init 9 = .ok (.invokespecial 9, 3) := by decide +kernel
theorem dX10_init_12 : decode cX10_init 12 = .ok (.putfield 10, 3) := by decide +kernel
theorem dX10_init_15 : decode cX10_init 15 = .ok (.aload_n 0, 1) := by decide +kernel
theorem dX10_init_16 : decode cX10_init 16 = .ok (.iconst 2, 1) := by decide +kernel
theorem dX10_init_17 : decode cX10_init 17 = .ok (.anewarray 7, 3) := by decide +kernel
theorem dX10_init_20 : decode cX10_init 20 = .ok (.putfield 16, 3) := by decide +kernel
theorem dX10_init_23 : decode cX10_init 23 = .ok (.iconst 0, 1) := by decide +kernel
theorem dX10_init_24 : decode cX10_init 24 = .ok (.istore_n 1, 1) := by decide +kernel
theorem dX10_init_25 : decode cX10_init 25 = .ok (.iload_n 1, 1) := by decide +kernel
theorem dX10_init_26 : decode cX10_init 26 = .ok (.iconst 2, 1) := by decide +kernel
theorem dX10_init_27 : decode cX10_init 27 = .ok (.if_icmp .ge 22, 3) := by decide +kernel
theorem dX10_init_30 : decode cX10_init 30 = .ok (.aload_n 0, 1) := by decide +kernel
theorem dX10_init_31 : decode cX10_init 31 = .ok (.getfield 16, 3) := by decide +kernel
theorem dX10_init_34 : decode cX10_init 34 = .ok (.iload_n 1, 1) := by decide +kernel
theorem dX10_init_35 : decode cX10_init 35 = .ok (.new 7, 3) := by decide +kernel
theorem dX10_init_38 : decode cX10_init 38 = .ok (.dup, 1) := by decide +kernel
theorem dX10_init_39 : decode cX10_init 39 = .ok (.invokespecial 9, 3) := by decide +kernel
theorem dX10_init_42 : decode cX10_init 42 = .ok (.aastore, 1) := by decide +kernel
theorem dX10_init_43 : decode cX10_init 43 = .ok (.iinc 1 1, 3) := by decide +kernel
theorem dX10_init_46 : decode cX10_init 46 = .ok (.goto (-21), 3) := by decide +kernel
theorem dX10_init_49 : decode cX10_init 49 = .ok (.aload_n 0, 1) := by decide +kernel
theorem dX10_init_50 : decode cX10_init 50 = .ok (.iconst 2, 1) := by decide +kernel
theorem dX10_init_51 : decode cX10_init 51 = .ok (.newarray .boolean, 2) := by decide +kernel
theorem dX10_init_53 : decode cX10_init 53 = .ok (.putfield 20, 3) := by decide +kernel
theorem dX10_init_56 : decode cX10_init 56 = .ok (.aload_n 0, 1) := by decide +kernel
theorem dX10_init_57 : decode cX10_init 57 = .ok (.new 24, 3) := by decide +kernel
theorem dX10_init_60 : decode cX10_init 60 = .ok (.dup, 1) := by decide +kernel
theorem dX10_init_61 : decode cX10_init 61 = .ok (.invokespecial 26, 3) := by decide +kernel
theorem dX10_init_64 : decode cX10_init 64 = .ok (.putfield 27, 3) := by decide +kernel
theorem dX10_init_67 : decode cX10_init 67 = .ok (.aload_n 0, 1) := by decide +kernel
theorem dX10_init_68 : decode cX10_init 68 = .ok (.new 31, 3) := by decide +kernel
theorem dX10_init_71 : decode cX10_init 71 = .ok (.dup, 1) := by decide +kernel
theorem dX10_init_72 : decode cX10_init 72 = .ok (.aload_n 0, 1) := by decide +kernel
theorem dX10_init_73 : decode cX10_init 73 = .ok (.getfield 10, 3) := by decide +kernel
theorem dX10_init_76 : decode cX10_init 76 = .ok (.getfield 33, 3) := by decide +kernel
theorem dX10_init_79 : decode cX10_init 79 = .ok (.aload_n 0, 1) := by decide +kernel
theorem dX10_init_80 : decode cX10_init 80 = .ok (.getfield 27, 3) := by decide +kernel
theorem dX10_init_83 : decode cX10_init 83 = .ok (.invokespecial 37, 3) := by decide +kernel
theorem dX10_init_86 : decode cX10_init 86 = .ok (.putfield 40, 3) := by decide +kernel
theorem dX10_init_89 : decode cX10_init 89 = .ok (.aload_n 0, 1) := by decide +kernel
theorem dX10_init_90 : decode cX10_init 90 = .ok (.new 44, 3) := by decide +kernel
theorem dX10_init_93 : decode cX10_init 93 = .ok (.dup, 1) := by decide +kernel
theorem dX10_init_94 : decode cX10_init 94 = .ok (.aload_n 0, 1) := by decide +kernel
theorem dX10_init_95 : decode cX10_init 95 = .ok (.getfield 10, 3) := by decide +kernel
theorem dX10_init_98 : decode cX10_init 98 = .ok (.getfield 46, 3) := by decide +kernel
theorem dX10_init_101 : decode cX10_init 101 = .ok (.invokespecial 49, 3) := by decide +kernel
theorem dX10_init_104 : decode cX10_init 104 = .ok (.putfield 52, 3) := by decide +kernel
theorem dX10_init_107 : decode cX10_init 107 = .ok (.aload_n 0, 1) := by decide +kernel
theorem dX10_init_108 : decode cX10_init 108 = .ok (.new 56, 3) := by decide +kernel
theorem dX10_init_111 : decode cX10_init 111 = .ok (.dup, 1) := by decide +kernel
theorem dX10_init_112 : decode cX10_init 112 = .ok (.aload_n 0, 1) := by decide +kernel
theorem dX10_init_113 : decode cX10_init 113 = .ok (.getfield 52, 3) := by decide +kernel
theorem dX10_init_116 : decode cX10_init 116 = .ok (.invokespecial 58, 3) := by decide +kernel
theorem dX10_init_119 : decode cX10_init 119 = .ok (.putfield 61, 3) := by decide +kernel
theorem dX10_init_122 : decode cX10_init 122 = .ok (.aload_n 0, 1) := by decide +kernel
theorem dX10_init_123 : decode cX10_init 123 = .ok (.new 65, 3) := by decide +kernel
theorem dX10_init_126 : decode cX10_init 126 = .ok (.dup, 1) := by decide +kernel
theorem dX10_init_127 : decode cX10_init 127 = .ok (.aload_n 0, 1) := by decide +kernel
theorem dX10_init_128 : decode cX10_init 128 = .ok (.getfield 10, 3) := by decide +kernel
theorem dX10_init_131 : decode cX10_init 131 = .ok (.getfield 67, 3) := by decide +kernel
theorem dX10_init_134 : decode cX10_init 134 = .ok (.invokespecial 71, 3) := by decide +kernel
theorem dX10_init_137 : decode cX10_init 137 = .ok (.putfield 74, 3) := by decide +kernel
theorem dX10_init_140 : decode cX10_init 140 = .ok (.aload_n 0, 1) := by decide +kernel
theorem dX10_init_141 : decode cX10_init 141 = .ok (.new 78, 3) := by decide +kernel
theorem dX10_init_144 : decode cX10_init 144 = .ok (.dup, 1) := by decide +kernel
theorem dX10_init_145 : decode cX10_init 145 = .ok (.aload_n 0, 1) := by decide +kernel
theorem dX10_init_146 : decode cX10_init 146 = .ok (.getfield 10, 3) := by decide +kernel
theorem dX10_init_149 : decode cX10_init 149 = .ok (.getfield 80, 3) := by decide +kernel
theorem dX10_init_152 : decode cX10_init 152 = .ok (.invokespecial 84, 3) := by decide +kernel
theorem dX10_init_155 : decode cX10_init 155 = .ok (.putfield 87, 3) := by decide +kernel
theorem dX10_init_158 : decode cX10_init 158 = .ok (.aload_n 0, 1) := by decide +kernel
theorem dX10_init_159 : decode cX10_init 159 = .ok (.iconst 0, 1) := by decide +kernel
theorem dX10_init_160 : decode cX10_init 160 = .ok (.putfield 91, 3) := by decide +kernel
theorem dX10_init_163 : decode cX10_init 163 = .ok (.aload_n 0, 1) := by decide +kernel
theorem dX10_init_164 : decode cX10_init 164 = .ok (.iconst 1, 1) := by decide +kernel
theorem dX10_init_165 : decode cX10_init 165 = .ok (.putfield 95, 3) := by decide +kernel
theorem dX10_init_168 : decode cX10_init 168 = .ok (.return_, 1) := by decide +kernel
theorem dX10_day_0 : decode cX10_day 0 = .ok (.iload_n 1, 1) := by decide +kernel
theorem dX10_day_1 : decode cX10_day 1 = .ok (.iload_n 2, 1) := by decide +kernel
theorem dX10_day_2 : decode cX10_day 2 = .ok (.iload_n 3, 1) := by decide +kernel
theorem dX10_day_3 : decode cX10_day 3 = .ok (.invokestatic 98, 3) := by decide +kernel
theorem dX10_day_6 : decode cX10_day 6 = .ok (.ifCond .eq 12, 3) := by decide +kernel
theorem dX10_day_9 : decode cX10_day 9 = .ok (.iload_n 1, 1) := by decide +kernel
theorem dX10_day_10 : decode cX10_day 10 = .ok (.iload_n 2, 1) := by decide +kernel
theorem dX10_day_11 : decode cX10_day 11 = .ok (.iload_n 3, 1) := by decide +kernel
theorem dX10_day_12 : decode cX10_day 12 = .ok (.invokestatic 104, 3) := by decide +kernel
theorem dX10_day_15 : decode cX10_day 15 = .ok (.goto 9, 3) := by decide +kernel
theorem dX10_day_18 : decode cX10_day 18 = .ok (.aload_n 0, 1) := by decide +kernel
theorem dX10_day_19 : decode cX10_day 19 = .ok (.bipush (-2), 2) := by decide +kernel
theorem dX10_day_21 : decode cX10_day 21 = .ok (.invokevirtual 108, 3) := by decide +kernel
theorem dX10_day_24 : decode cX10_day 24 = .ok (.ireturn, 1) := by decide +kernel
theorem dX10_date_0 : decode cX10_date 0 = .ok (.iload_n 1, 1) := by decide +kernel
theorem dX10_date_1 : decode cX10_date 1 = .ok (.invokestatic 112, 3) := by decide +kernel
theorem dX10_date_4 : decode cX10_date 4 = .ok (.ifCond .eq 12, 3) := by decide +kernel
theorem dX10_date_7 : decode cX10_date 7 = .ok (.iload_n 2, 1) := by decide +kernel
theorem dX10_date_8 : decode cX10_date 8 = .ok (.ifCond .lt 8, 3) := by decide +kernel
theorem dX10_date_11 : decode cX10_date 11 = .ok (.iload_n 2, 1) := by decide +kernel
theorem dX10_date_12 : decode cX10_date 12 = .ok (.iconst 2, 1) := by decide +kernel
theorem dX10_date_13 : decode cX10_date 13 = .ok (.if_icmp .le 10, 3) := by decide +kernel
theorem dX10_date_16 : decode cX10_date 16 = .ok (.aload_n 0, 1) := by decide +kernel
theorem dX10_date_17 : decode cX10_date 17 = .ok (.bipush (-2), 2) := by decide +kernel
theorem dX10_date_19 : decode cX10_date 19 = .ok (.invokevirtual 108, 3) := by decide +kernel
theorem dX10_date_22 : decode cX10_date 22 = .ok (.ireturn, 1) := by decide +kernel
theorem dX10_date_23 : decode cX10_date 23 = .ok (.iload_n 1, 1) := by decide +kernel
theorem dX10_date_24 : decode cX10_date 24 = .ok (.invokestatic 116, 3) := by decide +kernel
theorem dX10_date_27 : decode cX10_date 27 = .ok (.istore_n 3, 1) := by decide +kernel
theorem dX10_date_28 : decode cX10_date 28 = .ok (.iload_n 2, 1) := by decide +kernel
theorem dX10_date_29 : decode cX10_date 29 = .ok (.ifCond .ne 5, 3) := by decide +kernel
theorem dX10_date_32 : decode cX10_date 32 = .ok (.iload_n 3, 1) := by decide +kernel
theorem dX10_date_33 : decode cX10_date 33 = .ok (.ireturn, 1) := by decide +kernel
theorem dX10_date_34 : decode cX10_date 34 = .ok (.iload_n 1, 1) := by decide +kernel
theorem dX10_date_35 : decode cX10_date 35 = .ok (.iload_n 3, 1) := by decide +kernel
theorem dX10_date_36 : decode cX10_date 36 = .ok (.invokestatic 119, 3) := by decide +kernel
theorem dX10_date_39 : decode cX10_date 39 = .ok (.istore 4, 2) := by decide +kernel
theorem dX10_date_41 : decode cX10_date 41 = .ok (.iload 4, 2) := by decide +kernel
theorem dX10_date_43 : decode cX10_date 43 = .ok (.invokestatic 123, 3) := by decide +kernel
theorem dX10_date_46 : decode cX10_date 46 = .ok (.istore 5, 2) := by decide +kernel
theorem dX10_date_48 : decode cX10_date 48 = .ok (.iload_n 2, 1) := by decide +kernel
theorem dX10_date_49 : decode cX10_date 49 = .ok (.iconst 1, 1) := by decide +kernel
theorem dX10_date_50 : decode cX10_date 50 = .ok (.if_icmp .ne 8, 3) := by decide +kernel
theorem dX10_date_53 : decode cX10_date 53 = .ok (.iload 5, 2) := by decide +kernel
theorem dX10_date_55 : decode cX10_date 55 = .ok (.goto 13, 3) := by decide +kernel
theorem dX10_date_58 : decode cX10_date 58 = .ok (.iload 4, 2) := by decide +kernel
theorem dX10_date_60 : decode cX10_date 60 = .ok (.iload 5, 2) := by decide +kernel
theorem dX10_date_62 : decode cX10_date 62 = .ok (.invokestatic 126, 3) := by decide +kernel
theorem dX10_date_65 : decode cX10_date 65 = .ok (.isub, 1) := by decide +kernel
theorem dX10_date_66 : decode cX10_date 66 = .ok (.iconst 1, 1) := by decide +kernel
theorem dX10_date_67 : decode cX10_date 67 = .ok (.iadd, 1) := by decide +kernel
theorem dX10_date_68 : decode cX10_date 68 = .ok (.ireturn, 1) := by decide +kernel
theorem dX10_person_0 : decode cX10_person 0 = .ok (.iload_n 1, 1) := by decide +kernel
theorem dX10_person_1 : decode cX10_person 1 = .ok (.invokestatic 112, 3) := by decide +kernel
theorem dX10_person_4 : decode cX10_person 4 = .ok (.ifCond .ne 10, 3) := by decide +kernel
theorem dX10_person_7 : decode cX10_person 7 = .ok (.aload_n 0, 1) := by decide +kernel
theorem dX10_person_8 : decode cX10_person 8 = .ok (.bipush (-2), 2) := by decide +kernel
theorem dX10_person_10 : decode cX10_person 10 = .ok (.invokevirtual 108, 3) := by decide +kernel
theorem dX10_person_13 : decode cX10_person 13 = .ok (.ireturn, 1) := by decide +kernel
theorem dX10_person_14 : decode cX10_person 14 = .ok (.aload_n 0, 1) := by decide +kernel
theorem dX10_person_15 : decode cX10_person 15 = .ok (.getfield 10, 3) := by decide +kernel
theorem dX10_person_18 : decode cX10_person 18 = .ok (.getfield 46, 3) := by decide +kernel
theorem dX10_person_21 : decode cX10_person 21 = .ok (.getfield 129, 3) := by decide +kernel
theorem dX10_person_24 : decode cX10_person 24 = .ok (.bipush 8, 2) := by decide +kernel
theorem dX10_person_26 : decode cX10_person 26 = .ok (.if_icmp .ge 17, 3) := by decide +kernel
theorem dX10_person_29 : decode cX10_person 29 = .ok (.aload_n 0, 1) := by decide +kernel
theorem dX10_person_30 : decode cX10_person 30 = .ok (.getfield 10, 3) := by decide +kernel
theorem dX10_person_33 : decode cX10_person 33 = .ok (.getfield 46, 3) := by decide +kernel
theorem dX10_person_36 : decode cX10_person 36 = .ok (.iload_n 1, 1) := by decide +kernel
theorem dX10_person_37 : decode cX10_person 37 = .ok (.invokevirtual 132, 3) := by decide +kernel
theorem dX10_person_40 : decode cX10_person 40 = .ok (.goto 9, 3) := by decide +kernel
theorem dX10_person_43 : decode cX10_person 43 = .ok (.aload_n 0, 1) := by decide +kernel
theorem dX10_person_44 : decode cX10_person 44 = .ok (.bipush (-4), 2) := by decide +kernel
theorem dX10_person_46 : decode cX10_person 46 = .ok (.invokevirtual 108, 3) := by decide +kernel
theorem dX10_person_49 : decode cX10_person 49 = .ok (.ireturn, 1) := by decide +kernel
theorem dX10_gate_0 : decode cX10_gate 0 = .ok (.iload_n 1, 1) := by decide +kernel
theorem dX10_gate_1 : decode cX10_gate 1 = .ok (.invokestatic 135, 3) := by decide +kernel
theorem dX10_gate_4 : decode cX10_gate 4 = .ok (.ifCond .eq 10, 3) := by decide +kernel
theorem dX10_gate_7 : decode cX10_gate 7 = .ok (.iload_n 2, 1) := by decide +kernel
theorem dX10_gate_8 : decode cX10_gate 8 = .ok (.invokestatic 138, 3) := by decide +kernel
theorem dX10_gate_11 : decode cX10_gate 11 = .ok (.ifCond .ne 10, 3) := by decide +kernel
theorem dX10_gate_14 : decode cX10_gate 14 = .ok (.aload_n 0, 1) := by decide +kernel
theorem dX10_gate_15 : decode cX10_gate 15 = .ok (.bipush (-2), 2) := by decide +kernel
theorem dX10_gate_17 : decode cX10_gate 17 = .ok (.invokevirtual 108, 3) := by decide +kernel
theorem dX10_gate_20 : decode cX10_gate 20 = .ok (.ireturn, 1) := by decide +kernel
theorem dX10_gate_21 : decode cX10_gate 21 = .ok (.aload_n 0, 1) := by decide +kernel
theorem dX10_gate_22 : decode cX10_gate 22 = .ok (.getfield 10, 3) := by decide +kernel
theorem dX10_gate_25 : decode cX10_gate 25 = .ok (.getfield 46, 3) := by decide +kernel
theorem dX10_gate_28 : decode cX10_gate 28 = .ok (.getfield 141, 3) := by decide +kernel
theorem dX10_gate_31 : decode cX10_gate 31 = .ok (.iconst 4, 1) := by decide +kernel
theorem dX10_gate_32 : decode cX10_gate 32 = .ok (.if_icmp .ge 18, 3) := by decide +kernel
theorem dX10_gate_35 : decode cX10_gate 35 = .ok (.aload_n 0, 1) := by decide +kernel
theorem dX10_gate_36 : decode cX10_gate 36 = .ok (.getfield 10, 3) := by decide +kernel
theorem dX10_gate_39 : decode cX10_gate 39 = .ok (.getfield 46, 3) := by decide +kernel
theorem dX10_gate_42 : decode cX10_gate 42 = .ok (.iload_n 1, 1) := by decide +kernel
theorem dX10_gate_43 : decode cX10_gate 43 = .ok (.iload_n 2, 1) := by decide +kernel
theorem dX10_gate_44 : decode cX10_gate 44 = .ok (.invokevirtual 144, 3) := by decide +kernel
theorem dX10_gate_47 : decode cX10_gate 47 = .ok (.goto 9, 3) := by decide +kernel
theorem dX10_gate_50 : decode cX10_gate 50 = .ok (.aload_n 0, 1) := by decide +kernel
theorem dX10_gate_51 : decode cX10_gate 51 = .ok (.bipush (-4), 2) := by decide +kernel
theorem dX10_gate_53 : decode cX10_gate 53 = .ok (.invokevirtual 108, 3) := by decide +kernel
theorem dX10_gate_56 : decode cX10_gate 56 = .ok (.ireturn, 1) := by decide +kernel
theorem dX10_pair_0 : decode cX10_pair 0 = .ok (.aload_n 0, 1) := by decide +kernel
theorem dX10_pair_1 : decode cX10_pair 1 = .ok (.getfield 10, 3) := by decide +kernel
theorem dX10_pair_4 : decode cX10_pair 4 = .ok (.getfield 46, 3) := by decide +kernel
theorem dX10_pair_7 : decode cX10_pair 7 = .ok (.astore 4, 2) := by decide +kernel
theorem dX10_pair_9 : decode cX10_pair 9 = .ok (.aload 4, 2) := by decide +kernel
theorem dX10_pair_11 : decode cX10_pair 11 = .ok (.iload_n 1, 1) := by decide +kernel
theorem dX10_pair_12 : decode cX10_pair 12 = .ok (.invokevirtual 147, 3) := by decide +kernel
theorem dX10_pair_15 : decode cX10_pair 15 = .ok (.ifCond .eq 26, 3) := by decide +kernel
theorem dX10_pair_18 : decode cX10_pair 18 = .ok (.aload 4, 2) := by decide +kernel
theorem dX10_pair_20 : decode cX10_pair 20 = .ok (.iload_n 2, 1) := by decide +kernel
theorem dX10_pair_21 : decode cX10_pair 21 = .ok (.invokevirtual 147, 3) := by decide +kernel
theorem dX10_pair_24 : decode cX10_pair 24 = .ok (.ifCond .eq 17, 3) := by decide +kernel
theorem dX10_pair_27 : decode cX10_pair 27 = .ok (.iload_n 1, 1) := by decide +kernel
theorem dX10_pair_28 : decode cX10_pair 28 = .ok (.iload_n 2, 1) := by decide +kernel
theorem dX10_pair_29 : decode cX10_pair 29 = .ok (.if_icmp .eq 12, 3) := by decide +kernel
theorem dX10_pair_32 : decode cX10_pair 32 = .ok (.iload_n 3, 1) := by decide +kernel
theorem dX10_pair_33 : decode cX10_pair 33 = .ok (.ifCond .lt 8, 3) := by decide +kernel
theorem dX10_pair_36 : decode cX10_pair 36 = .ok (.iload_n 3, 1) := by decide +kernel
theorem dX10_pair_37 : decode cX10_pair 37 = .ok (.iconst 1, 1) := by decide +kernel
theorem dX10_pair_38 : decode cX10_pair 38 = .ok (.if_icmp .le 10, 3) := by decide +kernel
theorem dX10_pair_41 : decode cX10_pair 41 = .ok (.aload_n 0, 1) := by decide +kernel
theorem dX10_pair_42 : decode cX10_pair 42 = .ok (.bipush (-2), 2) := by decide +kernel
theorem dX10_pair_44 : decode cX10_pair 44 = .ok (.invokevirtual 108, 3) := by decide +kernel
theorem dX10_pair_47 : decode cX10_pair 47 = .ok (.ireturn, 1) := by decide +kernel
theorem dX10_pair_48 : decode cX10_pair 48 = .ok (.iload_n 3, 1) := by decide +kernel
theorem dX10_pair_49 : decode cX10_pair 49 = .ok (.ifCond .ne 11, 3) := by decide +kernel
theorem dX10_pair_52 : decode cX10_pair 52 = .ok (.aload 4, 2) := by decide +kernel
theorem dX10_pair_54 : decode cX10_pair 54 = .ok (.getfield 150, 3) := by decide +kernel
theorem dX10_pair_57 : decode cX10_pair 57 = .ok (.goto 8, 3) := by decide +kernel
theorem dX10_pair_60 : decode cX10_pair 60 = .ok (.aload 4, 2) := by decide +kernel
theorem dX10_pair_62 : decode cX10_pair 62 = .ok (.getfield 153, 3) := by decide +kernel
theorem dX10_pair_65 : decode cX10_pair 65 = .ok (.iload_n 1, 1) := by decide +kernel
theorem dX10_pair_66 : decode cX10_pair 66 = .ok (.iload_n 2, 1) := by decide +kernel
theorem dX10_pair_67 : decode cX10_pair 67 = .ok (.invokestatic 156, 3) := by decide +kernel
theorem dX10_pair_70 : decode cX10_pair 70 = .ok (.ifCond .eq 7, 3) := by decide +kernel
theorem dX10_pair_73 : decode cX10_pair 73 = .ok (.iconst 1, 1) := by decide +kernel
theorem dX10_pair_74 : decode cX10_pair 74 = .ok (.goto 9, 3) := by decide +kernel
theorem dX10_pair_77 : decode cX10_pair 77 = .ok (.aload_n 0, 1) := by decide +kernel
theorem dX10_pair_78 : decode cX10_pair 78 = .ok (.bipush (-3), 2) := by decide +kernel
theorem dX10_pair_80 : decode cX10_pair 80 = .ok (.invokevirtual 108, 3) := by decide +kernel
theorem dX10_pair_83 : decode cX10_pair 83 = .ok (.ireturn, 1) := by decide +kernel
theorem dX10_age_0 : decode cX10_age 0 = .ok (.aload_n 0, 1) := by decide +kernel
theorem dX10_age_1 : decode cX10_age 1 = .ok (.getfield 10, 3) := by decide +kernel
theorem dX10_age_4 : decode cX10_age 4 = .ok (.getfield 46, 3) := by decide +kernel
theorem dX10_age_7 : decode cX10_age 7 = .ok (.iload_n 1, 1) := by decide +kernel
theorem dX10_age_8 : decode cX10_age 8 = .ok (.invokevirtual 147, 3) := by decide +kernel
theorem dX10_age_11 : decode cX10_age 11 = .ok (.ifCond .eq 10, 3) := by decide +kernel
theorem dX10_age_14 : decode cX10_age 14 = .ok (.iload_n 2, 1) := by decide +kernel
theorem dX10_age_15 : decode cX10_age 15 = .ok (.invokestatic 112, 3) := by decide +kernel
theorem dX10_age_18 : decode cX10_age 18 = .ok (.ifCond .ne 10, 3) := by decide +kernel
theorem dX10_age_21 : decode cX10_age 21 = .ok (.aload_n 0, 1) := by decide +kernel
theorem dX10_age_22 : decode cX10_age 22 = .ok (.bipush (-2), 2) := by decide +kernel
theorem dX10_age_24 : decode cX10_age 24 = .ok (.invokevirtual 108, 3) := by decide +kernel
theorem dX10_age_27 : decode cX10_age 27 = .ok (.ireturn, 1) := by decide +kernel
theorem dX10_age_28 : decode cX10_age 28 = .ok (.aload_n 0, 1) := by decide +kernel
theorem dX10_age_29 : decode cX10_age 29 = .ok (.getfield 10, 3) := by decide +kernel
theorem dX10_age_32 : decode cX10_age 32 = .ok (.getfield 46, 3) := by decide +kernel
theorem dX10_age_35 : decode cX10_age 35 = .ok (.iload_n 1, 1) := by decide +kernel
theorem dX10_age_36 : decode cX10_age 36 = .ok (.iload_n 2, 1) := by decide +kernel
theorem dX10_age_37 : decode cX10_age 37 = .ok (.iload_n 2, 1) := by decide +kernel
theorem dX10_age_38 : decode cX10_age 38 = .ok (.invokestatic 116, 3) := by decide +kernel
theorem dX10_age_41 : decode cX10_age 41 = .ok (.invokevirtual 160, 3) := by decide +kernel
theorem dX10_age_44 : decode cX10_age 44 = .ok (.ireturn, 1) := by decide +kernel
theorem dX10_why_0 : decode cX10_why 0 = .ok (.aload_n 0, 1) := by decide +kernel
theorem dX10_why_1 : decode cX10_why 1 = .ok (.getfield 10, 3) := by decide +kernel
theorem dX10_why_4 : decode cX10_why 4 = .ok (.getfield 46, 3) := by decide +kernel
theorem dX10_why_7 : decode cX10_why 7 = .ok (.iload_n 1, 1) := by decide +kernel
theorem dX10_why_8 : decode cX10_why 8 = .ok (.invokevirtual 163, 3) := by decide +kernel
theorem dX10_why_11 : decode cX10_why 11 = .ok (.ifCond .eq 12, 3) := by decide +kernel
theorem dX10_why_14 : decode cX10_why 14 = .ok (.aload_n 0, 1) := by decide +kernel
theorem dX10_why_15 : decode cX10_why 15 = .ok (.iload_n 2, 1) := by decide +kernel
theorem dX10_why_16 : decode cX10_why 16 = .ok (.iload_n 3, 1) := by decide +kernel
theorem dX10_why_17 : decode cX10_why 17 = .ok (.invokevirtual 166, 3) := by decide +kernel
theorem dX10_why_20 : decode cX10_why 20 = .ok (.ifCond .ne 12, 3) := by decide +kernel
theorem dX10_why_23 : decode cX10_why 23 = .ok (.aload_n 0, 1) := by decide +kernel
theorem dX10_why_24 : decode cX10_why 24 = .ok (.bipush (-2), 2) := by decide +kernel
theorem dX10_why_26 : decode cX10_why 26 = .ok (.bipush (-10), 2) := by decide +kernel
theorem dX10_why_28 : decode cX10_why 28 = .ok (.invokevirtual 170, 3) := by decide +kernel
theorem dX10_why_31 : decode cX10_why 31 = .ok (.ireturn, 1) := by decide +kernel
theorem dX10_why_32 : decode cX10_why 32 = .ok (.aload_n 0, 1) := by decide +kernel
theorem dX10_why_33 : decode cX10_why 33 = .ok (.getfield 52, 3) := by decide +kernel
theorem dX10_why_36 : decode cX10_why 36 = .ok (.iload_n 3, 1) := by decide +kernel
theorem dX10_why_37 : decode cX10_why 37 = .ok (.invokevirtual 173, 3) := by decide +kernel
theorem dX10_why_40 : decode cX10_why 40 = .ok (.aload_n 0, 1) := by decide +kernel
theorem dX10_why_41 : decode cX10_why 41 = .ok (.getfield 52, 3) := by decide +kernel
theorem dX10_why_44 : decode cX10_why 44 = .ok (.iload_n 1, 1) := by decide +kernel
theorem dX10_why_45 : decode cX10_why 45 = .ok (.iload_n 2, 1) := by decide +kernel
theorem dX10_why_46 : decode cX10_why 46 = .ok (.invokevirtual 177, 3) := by decide +kernel
theorem dX10_why_49 : decode cX10_why 49 = .ok (.ireturn, 1) := by decide +kernel
theorem dX10_type_0 : decode cX10_type 0 = .ok (.iload_n 3, 1) := by decide +kernel
theorem dX10_type_1 : decode cX10_type 1 = .ok (.iconst 1, 1) := by decide +kernel
theorem dX10_type_2 : decode cX10_type 2 = .ok (.if_icmp .lt 9, 3) := by decide +kernel
theorem dX10_type_5 : decode cX10_type 5 = .ok (.iload_n 3, 1) := by decide +kernel
theorem dX10_type_6 : decode cX10_type 6 = .ok (.bipush 8, 2) := by decide +kernel
theorem dX10_type_8 : decode cX10_type 8 = .ok (.if_icmp .le 10, 3) := by decide +kernel
theorem dX10_type_11 : decode cX10_type 11 = .ok (.aload_n 0, 1) := by decide +kernel
theorem dX10_type_12 : decode cX10_type 12 = .ok (.bipush (-2), 2) := by decide +kernel
theorem dX10_type_14 : decode cX10_type 14 = .ok (.invokevirtual 108, 3) := by decide +kernel
theorem dX10_type_17 : decode cX10_type 17 = .ok (.ireturn, 1) := by decide +kernel
theorem dX10_type_18 : decode cX10_type 18 = .ok (.aload_n 0, 1) := by decide +kernel
theorem dX10_type_19 : decode cX10_type 19 = .ok (.getfield 10, 3) := by decide +kernel
theorem dX10_type_22 : decode cX10_type 22 = .ok (.getfield 33, 3) := by decide +kernel
theorem dX10_type_25 : decode cX10_type 25 = .ok (.getfield 180, 3) := by decide +kernel
theorem dX10_type_28 : decode cX10_type 28 = .ok (.iload_n 3, 1) := by decide +kernel
theorem dX10_type_29 : decode cX10_type 29 = .ok (.iadd, 1) := by decide +kernel
theorem dX10_type_30 : decode cX10_type 30 = .ok (.sipush 200, 3) := by decide +kernel
theorem dX10_type_33 : decode cX10_type 33 = .ok (.if_icmp .gt 18, 3) := by decide +kernel
theorem dX10_type_36 : decode cX10_type 36 = .ok (.aload_n 0, 1) := by decide +kernel
theorem dX10_type_37 : decode cX10_type 37 = .ok (.getfield 10, 3) := by decide +kernel
theorem dX10_type_40 : decode cX10_type 40 = .ok (.getfield 33, 3) := by decide +kernel
theorem dX10_type_43 : decode cX10_type 43 = .ok (.lload_n 1, 1) := by decide +kernel
theorem dX10_type_44 : decode cX10_type 44 = .ok (.iload_n 3, 1) := by decide +kernel
theorem dX10_type_45 : decode cX10_type 45 = .ok (.invokevirtual 185, 3) := by decide +kernel
theorem dX10_type_48 : decode cX10_type 48 = .ok (.goto 9, 3) := by decide +kernel
theorem dX10_type_51 : decode cX10_type 51 = .ok (.aload_n 0, 1) := by decide +kernel
theorem dX10_type_52 : decode cX10_type 52 = .ok (.bipush (-4), 2) := by decide +kernel
theorem dX10_type_54 : decode cX10_type 54 = .ok (.invokevirtual 108, 3) := by decide +kernel
theorem dX10_type_57 : decode cX10_type 57 = .ok (.ireturn, 1) := by decide +kernel
theorem dX10_clear_0 : decode cX10_clear 0 = .ok (.aload_n 0, 1) := by decide +kernel
theorem dX10_clear_1 : decode cX10_clear 1 = .ok (.getfield 10, 3) := by decide +kernel
theorem dX10_clear_4 : decode cX10_clear 4 = .ok (.getfield 33, 3) := by decide +kernel
theorem dX10_clear_7 : decode cX10_clear 7 = .ok (.getfield 180, 3) := by decide +kernel
theorem dX10_clear_10 : decode cX10_clear 10 = .ok (.istore_n 1, 1) := by decide +kernel
theorem dX10_clear_11 : decode cX10_clear 11 = .ok (.aload_n 0, 1) := by decide +kernel
theorem dX10_clear_12 : decode cX10_clear 12 = .ok (.getfield 10, 3) := by decide +kernel
theorem dX10_clear_15 : decode cX10_clear 15 = .ok (.getfield 33, 3) := by decide +kernel
theorem dX10_clear_18 : decode cX10_clear 18 = .ok (.iconst 0, 1) := by decide +kernel
theorem dX10_clear_19 : decode cX10_clear 19 = .ok (.putfield 180, 3) := by decide +kernel
theorem dX10_clear_22 : decode cX10_clear 22 = .ok (.iload_n 1, 1) := by decide +kernel
theorem dX10_clear_23 : decode cX10_clear 23 = .ok (.ireturn, 1) := by decide +kernel
theorem dX10_read_0 : decode cX10_read 0 = .ok (.aload_n 0, 1) := by decide +kernel
theorem dX10_read_1 : decode cX10_read 1 = .ok (.getfield 40, 3) := by decide +kernel
theorem dX10_read_4 : decode cX10_read 4 = .ok (.invokevirtual 189, 3) := by decide +kernel
theorem dX10_read_7 : decode cX10_read 7 = .ok (.istore_n 1, 1) := by decide +kernel
theorem dX10_read_8 : decode cX10_read 8 = .ok (.iload_n 1, 1) := by decide +kernel
theorem dX10_read_9 : decode cX10_read 9 = .ok (.ifCond .lt 17, 3) := by decide +kernel
theorem dX10_read_12 : decode cX10_read 12 = .ok (.aload_n 0, 1) := by decide +kernel
theorem dX10_read_13 : decode cX10_read 13 = .ok (.getfield 10, 3) := by decide +kernel
theorem dX10_read_16 : decode cX10_read 16 = .ok (.getfield 46, 3) := by decide +kernel
theorem dX10_read_19 : decode cX10_read 19 = .ok (.aload_n 0, 1) := by decide +kernel
theorem dX10_read_20 : decode cX10_read 20 = .ok (.getfield 27, 3) := by decide +kernel
theorem dX10_read_23 : decode cX10_read 23 = .ok (.invokevirtual 193, 3) := by decide +kernel
theorem dX10_read_26 : decode cX10_read 26 = .ok (.iload_n 1, 1) := by decide +kernel
theorem dX10_read_27 : decode cX10_read 27 = .ok (.ireturn, 1) := by decide +kernel
theorem dX10_can_0 : decode cX10_can 0 = .ok (.aload_n 0, 1) := by decide +kernel
theorem dX10_can_1 : decode cX10_can 1 = .ok (.iload_n 1, 1) := by decide +kernel
theorem dX10_can_2 : decode cX10_can 2 = .ok (.iload_n 2, 1) := by decide +kernel
theorem dX10_can_3 : decode cX10_can 3 = .ok (.invokevirtual 166, 3) := by decide +kernel
theorem dX10_can_6 : decode cX10_can 6 = .ok (.ifCond .eq 19, 3) := by decide +kernel
theorem dX10_can_9 : decode cX10_can 9 = .ok (.iload_n 3, 1) := by decide +kernel
theorem dX10_can_10 : decode cX10_can 10 = .ok (.ifCond .lt 15, 3) := by decide +kernel
theorem dX10_can_13 : decode cX10_can 13 = .ok (.iload_n 3, 1) := by decide +kernel
theorem dX10_can_14 : decode cX10_can 14 = .ok (.bipush 8, 2) := by decide +kernel
theorem dX10_can_16 : decode cX10_can 16 = .ok (.if_icmp .gt 9, 3) := by decide +kernel
theorem dX10_can_19 : decode cX10_can 19 = .ok (.iload 4, 2) := by decide +kernel
theorem dX10_can_21 : decode cX10_can 21 = .ok (.iconst (-1), 1) := by decide +kernel
theorem dX10_can_22 : decode cX10_can 22 = .ok (.if_icmp .ge 12, 3) := by decide +kernel
theorem dX10_can_25 : decode cX10_can 25 = .ok (.aload_n 0, 1) := by decide +kernel
theorem dX10_can_26 : decode cX10_can 26 = .ok (.bipush (-2), 2) := by decide +kernel
theorem dX10_can_28 : decode cX10_can 28 = .ok (.bipush (-10), 2) := by decide +kernel
theorem dX10_can_30 : decode cX10_can 30 = .ok (.invokevirtual 170, 3) := by decide +kernel
theorem dX10_can_33 : decode cX10_can 33 = .ok (.ireturn, 1) := by decide +kernel
theorem dX10_can_34 : decode cX10_can 34 = .ok (.aload_n 0, 1) := by decide +kernel
theorem dX10_can_35 : decode cX10_can 35 = .ok (.getfield 52, 3) := by decide +kernel
theorem dX10_can_38 : decode cX10_can 38 = .ok (.iload_n 2, 1) := by decide +kernel
theorem dX10_can_39 : decode cX10_can 39 = .ok (.invokevirtual 173, 3) := by decide +kernel
theorem dX10_can_42 : decode cX10_can 42 = .ok (.iconst 0, 1) := by decide +kernel
theorem dX10_can_43 : decode cX10_can 43 = .ok (.istore 5, 2) := by decide +kernel
theorem dX10_can_45 : decode cX10_can 45 = .ok (.iconst 1, 1) := by decide +kernel
theorem dX10_can_46 : decode cX10_can 46 = .ok (.istore 6, 2) := by decide +kernel
theorem dX10_can_48 : decode cX10_can 48 = .ok (.iload 6, 2) := by decide +kernel
theorem dX10_can_50 : decode cX10_can 50 = .ok (.aload_n 0, 1) := by decide +kernel
theorem dX10_can_51 : decode cX10_can 51 = .ok (.getfield 10, 3) := by decide +kernel
theorem dX10_can_54 : decode cX10_can 54 = .ok (.getfield 46, 3) := by decide +kernel
theorem dX10_can_57 : decode cX10_can 57 = .ok (.invokevirtual 196, 3) := by decide +kernel
theorem dX10_can_60 : decode cX10_can 60 = .ok (.if_icmp .gt 48, 3) := by decide +kernel
theorem dX10_can_63 : decode cX10_can 63 = .ok (.iload_n 3, 1) := by decide +kernel
theorem dX10_can_64 : decode cX10_can 64 = .ok (.ifCond .eq 12, 3) := by decide +kernel
theorem dX10_can_67 : decode cX10_can 67 = .ok (.iload 6, 2) := by decide +kernel
theorem dX10_can_69 : decode cX10_can 69 = .ok (.invokestatic 199, 3) := by decide +kernel
theorem dX10_can_72 : decode cX10_can 72 = .ok (.iload_n 3, 1) := by decide +kernel
theorem dX10_can_73 : decode cX10_can 73 = .ok (.if_icmp .ne 29, 3) := by decide +kernel
theorem dX10_can_76 : decode cX10_can 76 = .ok (.aload_n 0, 1) := by decide +kernel
theorem dX10_can_77 : decode cX10_can 77 = .ok (.getfield 52, 3) := by decide +kernel
theorem dX10_can_80 : decode cX10_can 80 = .ok (.iload 6, 2) := by decide +kernel
theorem dX10_can_82 : decode cX10_can 82 = .ok (.iload_n 1, 1) := by decide +kernel
theorem dX10_can_83 : decode cX10_can 83 = .ok (.invokevirtual 177, 3) := by decide +kernel
theorem dX10_can_86 : decode cX10_can 86 = .ok (.ifCond .ne 16, 3) := by decide +kernel
theorem dX10_can_89 : decode cX10_can 89 = .ok (.iload 5, 2) := by decide +kernel
theorem dX10_can_91 : decode cX10_can 91 = .ok (.iload 4, 2) := by decide +kernel
theorem dX10_can_93 : decode cX10_can 93 = .ok (.if_icmp .ne 6, 3) := by decide +kernel
theorem dX10_can_96 : decode cX10_can 96 = .ok (.iload 6, 2) := by decide +kernel
theorem dX10_can_98 : decode cX10_can 98 = .ok (.ireturn, 1) := by decide +kernel
theorem dX10_can_99 : decode cX10_can 99 = .ok (.iinc 5 1, 3) := by decide +kernel
theorem dX10_can_102 : decode cX10_can 102 = .ok (.iinc 6 1, 3) := by decide +kernel
theorem dX10_can_105 : decode cX10_can 105 = .ok (.goto (-57), 3) := by decide +kernel
theorem dX10_can_108 : decode cX10_can 108 = .ok (.iload 4, 2) := by decide +kernel
theorem dX10_can_110 : decode cX10_can 110 = .ok (.iconst (-1), 1) := by decide +kernel
theorem dX10_can_111 : decode cX10_can 111 = .ok (.if_icmp .ne 8, 3) := by decide +kernel
theorem dX10_can_114 : decode cX10_can 114 = .ok (.iload 5, 2) := by decide +kernel
theorem dX10_can_116 : decode cX10_can 116 = .ok (.goto 5, 3) := by decide +kernel
theorem dX10_can_119 : decode cX10_can 119 = .ok (.bipush (-5), 2) := by decide +kernel
theorem dX10_can_121 : decode cX10_can 121 = .ok (.ireturn, 1) := by decide +kernel
theorem dX10_over_0 : decode cX10_over 0 = .ok (.aload_n 0, 1) := by decide +kernel
theorem dX10_over_1 : decode cX10_over 1 = .ok (.getfield 10, 3) := by decide +kernel
theorem dX10_over_4 : decode cX10_over 4 = .ok (.getfield 46, 3) := by decide +kernel
theorem dX10_over_7 : decode cX10_over 7 = .ok (.iload_n 1, 1) := by decide +kernel
theorem dX10_over_8 : decode cX10_over 8 = .ok (.invokevirtual 204, 3) := by decide +kernel
theorem dX10_over_11 : decode cX10_over 11 = .ok (.ifCond .eq 23, 3) := by decide +kernel
theorem dX10_over_14 : decode cX10_over 14 = .ok (.aload_n 0, 1) := by decide +kernel
theorem dX10_over_15 : decode cX10_over 15 = .ok (.iload_n 2, 1) := by decide +kernel
theorem dX10_over_16 : decode cX10_over 16 = .ok (.iload_n 3, 1) := by decide +kernel
theorem dX10_over_17 : decode cX10_over 17 = .ok (.invokevirtual 166, 3) := by decide +kernel
theorem dX10_over_20 : decode cX10_over 20 = .ok (.ifCond .eq 14, 3) := by decide +kernel
theorem dX10_over_23 : decode cX10_over 23 = .ok (.iload 4, 2) := by decide +kernel
theorem dX10_over_25 : decode cX10_over 25 = .ok (.ifCond .lt 9, 3) := by decide +kernel
theorem dX10_over_28 : decode cX10_over 28 = .ok (.iload 4, 2) := by decide +kernel
theorem dX10_over_30 : decode cX10_over 30 = .ok (.iconst 2, 1) := by decide +kernel
theorem dX10_over_31 : decode cX10_over 31 = .ok (.if_icmp .le 10, 3) := by decide +kernel
theorem dX10_over_34 : decode cX10_over 34 = .ok (.aload_n 0, 1) := by decide +kernel
theorem dX10_over_35 : decode cX10_over 35 = .ok (.bipush (-2), 2) := by decide +kernel
theorem dX10_over_37 : decode cX10_over 37 = .ok (.invokevirtual 108, 3) := by decide +kernel
theorem dX10_over_40 : decode cX10_over 40 = .ok (.ireturn, 1) := by decide +kernel
theorem dX10_over_41 : decode cX10_over 41 = .ok (.aload_n 0, 1) := by decide +kernel
theorem dX10_over_42 : decode cX10_over 42 = .ok (.getfield 52, 3) := by decide +kernel
theorem dX10_over_45 : decode cX10_over 45 = .ok (.iload_n 3, 1) := by decide +kernel
theorem dX10_over_46 : decode cX10_over 46 = .ok (.invokevirtual 173, 3) := by decide +kernel
theorem dX10_over_49 : decode cX10_over 49 = .ok (.aload_n 0, 1) := by decide +kernel
theorem dX10_over_50 : decode cX10_over 50 = .ok (.getfield 61, 3) := by decide +kernel
theorem dX10_over_53 : decode cX10_over 53 = .ok (.iload_n 1, 1) := by decide +kernel
theorem dX10_over_54 : decode cX10_over 54 = .ok (.iload_n 2, 1) := by decide +kernel
theorem dX10_over_55 : decode cX10_over 55 = .ok (.invokevirtual 207, 3) := by decide +kernel
theorem dX10_over_58 : decode cX10_over 58 = .ok (.iload 4, 2) := by decide +kernel
theorem dX10_over_60 : decode cX10_over 60 = .ok (.ifCond .ne 14, 3) := by decide +kernel
theorem dX10_over_63 : decode cX10_over 63 = .ok (.aload_n 0, 1) := by decide +kernel
theorem dX10_over_64 : decode cX10_over 64 = .ok (.getfield 61, 3) := by decide +kernel
theorem dX10_over_67 : decode cX10_over 67 = .ok (.getfield 211, 3) := by decide +kernel
theorem dX10_over_70 : decode cX10_over 70 = .ok (.invokestatic 199, 3) := by decide +kernel
theorem dX10_over_73 : decode cX10_over 73 = .ok (.ireturn, 1) := by decide +kernel
theorem dX10_over_74 : decode cX10_over 74 = .ok (.iload 4, 2) := by decide +kernel
theorem dX10_over_76 : decode cX10_over 76 = .ok (.iconst 1, 1) := by decide +kernel
theorem dX10_over_77 : decode cX10_over 77 = .ok (.if_icmp .ne 13, 3) := by decide +kernel
theorem dX10_over_80 : decode cX10_over 80 = .ok (.aload_n 0, 1) := by decide +kernel
theorem dX10_over_81 : decode cX10_over 81 = .ok (.getfield 61, 3) := by decide +kernel
theorem dX10_over_84 : decode cX10_over 84 = .ok (.getfield 214, 3) := by decide +kernel
theorem dX10_over_87 : decode cX10_over 87 = .ok (.goto 10, 3) := by decide +kernel
theorem dX10_over_90 : decode cX10_over 90 = .ok (.aload_n 0, 1) := by decide +kernel
theorem dX10_over_91 : decode cX10_over 91 = .ok (.getfield 61, 3) := by decide +kernel
theorem dX10_over_94 : decode cX10_over 94 = .ok (.getfield 211, 3) := by decide +kernel
theorem dX10_over_97 : decode cX10_over 97 = .ok (.ireturn, 1) := by decide +kernel
theorem dX10_parts_0 : decode cX10_parts 0 = .ok (.aload_n 0, 1) := by decide +kernel
theorem dX10_parts_1 : decode cX10_parts 1 = .ok (.getfield 10, 3) := by decide +kernel
theorem dX10_parts_4 : decode cX10_parts 4 = .ok (.getfield 46, 3) := by decide +kernel
theorem dX10_parts_7 : decode cX10_parts 7 = .ok (.iload_n 1, 1) := by decide +kernel
theorem dX10_parts_8 : decode cX10_parts 8 = .ok (.invokevirtual 204, 3) := by decide +kernel
theorem dX10_parts_11 : decode cX10_parts 11 = .ok (.ifCond .eq 17, 3) := by decide +kernel
theorem dX10_parts_14 : decode cX10_parts 14 = .ok (.aload_n 0, 1) := by decide +kernel
theorem dX10_parts_15 : decode cX10_parts 15 = .ok (.iload_n 2, 1) := by decide +kernel
theorem dX10_parts_16 : decode cX10_parts 16 = .ok (.iload_n 3, 1) := by decide +kernel
theorem dX10_parts_17 : decode cX10_parts 17 = .ok (.invokevirtual 166, 3) := by decide +kernel
theorem dX10_parts_20 : decode cX10_parts 20 = .ok (.ifCond .eq 8, 3) := by decide +kernel
theorem dX10_parts_23 : decode cX10_parts 23 = .ok (.iload 4, 2) := by decide +kernel
theorem dX10_parts_25 : decode cX10_parts 25 = .ok (.ifCond .ge 12, 3) := by decide +kernel
theorem dX10_parts_28 : decode cX10_parts 28 = .ok (.aload_n 0, 1) := by decide +kernel
theorem dX10_parts_29 : decode cX10_parts 29 = .ok (.bipush (-2), 2) := by decide +kernel
theorem dX10_parts_31 : decode cX10_parts 31 = .ok (.bipush (-10), 2) := by decide +kernel
theorem dX10_parts_33 : decode cX10_parts 33 = .ok (.invokevirtual 170, 3) := by decide +kernel
theorem dX10_parts_36 : decode cX10_parts 36 = .ok (.ireturn, 1) := by decide +kernel
theorem dX10_parts_37 : decode cX10_parts 37 = .ok (.aload_n 0, 1) := by decide +kernel
theorem dX10_parts_38 : decode cX10_parts 38 = .ok (.getfield 52, 3) := by decide +kernel
theorem dX10_parts_41 : decode cX10_parts 41 = .ok (.iload_n 3, 1) := by decide +kernel
theorem dX10_parts_42 : decode cX10_parts 42 = .ok (.invokevirtual 173, 3) := by decide +kernel
theorem dX10_parts_45 : decode cX10_parts 45 = .ok (.aload_n 0, 1) := by decide +kernel
theorem dX10_parts_46 : decode cX10_parts 46 = .ok (.getfield 61, 3) := by decide +kernel
theorem dX10_parts_49 : decode cX10_parts 49 = .ok (.iload_n 1, 1) := by decide +kernel
theorem dX10_parts_50 : decode cX10_parts 50 = .ok (.iload_n 2, 1) := by decide +kernel
theorem dX10_parts_51 : decode cX10_parts 51 = .ok (.invokevirtual 207, 3) := by decide +kernel
theorem dX10_parts_54 : decode cX10_parts 54 = .ok (.iload 4, 2) := by decide +kernel
theorem dX10_parts_56 : decode cX10_parts 56 = .ok (.aload_n 0, 1) := by decide +kernel
theorem dX10_parts_57 : decode cX10_parts 57 = .ok (.getfield 61, 3) := by decide +kernel
theorem dX10_parts_60 : decode cX10_parts 60 = .ok (.getfield 214, 3) := by decide +kernel
theorem dX10_parts_63 : decode cX10_parts 63 = .ok (.if_icmp .ge 16, 3) := by decide +kernel
theorem dX10_parts_66 : decode cX10_parts 66 = .ok (.aload_n 0, 1) := by decide +kernel
theorem dX10_parts_67 : decode cX10_parts 67 = .ok (.getfield 61, 3) := by decide +kernel
theorem dX10_parts_70 : decode cX10_parts 70 = .ok (.getfield 217, 3) := by decide +kernel
theorem dX10_parts_73 : decode cX10_parts 73 = .ok (.iload 4, 2) := by decide +kernel
theorem dX10_parts_75 : decode cX10_parts 75 = .ok (.iaload, 1) := by decide +kernel
theorem dX10_parts_76 : decode cX10_parts 76 = .ok (.goto 5, 3) := by decide +kernel
theorem dX10_parts_79 : decode cX10_parts 79 = .ok (.bipush (-5), 2) := by decide +kernel
theorem dX10_parts_81 : decode cX10_parts 81 = .ok (.ireturn, 1) := by decide +kernel
theorem dX10_lent_0 : decode cX10_lent 0 = .ok (.aload_n 0, 1) := by decide +kernel
theorem dX10_lent_1 : decode cX10_lent 1 = .ok (.getfield 10, 3) := by decide +kernel
theorem dX10_lent_4 : decode cX10_lent 4 = .ok (.getfield 46, 3) := by decide +kernel
theorem dX10_lent_7 : decode cX10_lent 7 = .ok (.iload_n 1, 1) := by decide +kernel
theorem dX10_lent_8 : decode cX10_lent 8 = .ok (.invokevirtual 204, 3) := by decide +kernel
theorem dX10_lent_11 : decode cX10_lent 11 = .ok (.ifCond .eq 12, 3) := by decide +kernel
theorem dX10_lent_14 : decode cX10_lent 14 = .ok (.aload_n 0, 1) := by decide +kernel
theorem dX10_lent_15 : decode cX10_lent 15 = .ok (.iload_n 2, 1) := by decide +kernel
theorem dX10_lent_16 : decode cX10_lent 16 = .ok (.iload_n 3, 1) := by decide +kernel
theorem dX10_lent_17 : decode cX10_lent 17 = .ok (.invokevirtual 166, 3) := by decide +kernel
theorem dX10_lent_20 : decode cX10_lent 20 = .ok (.ifCond .ne 10, 3) := by decide +kernel
theorem dX10_lent_23 : decode cX10_lent 23 = .ok (.aload_n 0, 1) := by decide +kernel
theorem dX10_lent_24 : decode cX10_lent 24 = .ok (.bipush (-2), 2) := by decide +kernel
theorem dX10_lent_26 : decode cX10_lent 26 = .ok (.invokevirtual 108, 3) := by decide +kernel
theorem dX10_lent_29 : decode cX10_lent 29 = .ok (.ireturn, 1) := by decide +kernel
theorem dX10_lent_30 : decode cX10_lent 30 = .ok (.aload_n 0, 1) := by decide +kernel
theorem dX10_lent_31 : decode cX10_lent 31 = .ok (.getfield 52, 3) := by decide +kernel
theorem dX10_lent_34 : decode cX10_lent 34 = .ok (.iload_n 3, 1) := by decide +kernel
theorem dX10_lent_35 : decode cX10_lent 35 = .ok (.invokevirtual 173, 3) := by decide +kernel
theorem dX10_lent_38 : decode cX10_lent 38 = .ok (.iconst (-1), 1) := by decide +kernel
theorem dX10_lent_39 : decode cX10_lent 39 = .ok (.istore 4, 2) := by decide +kernel
theorem dX10_lent_41 : decode cX10_lent 41 = .ok (.bipush 9, 2) := by decide +kernel
theorem dX10_lent_43 : decode cX10_lent 43 = .ok (.istore 5, 2) := by decide +kernel
theorem dX10_lent_45 : decode cX10_lent 45 = .ok (.iconst 1, 1) := by decide +kernel
theorem dX10_lent_46 : decode cX10_lent 46 = .ok (.istore 6, 2) := by decide +kernel
theorem dX10_lent_48 : decode cX10_lent 48 = .ok (.iload 6, 2) := by decide +kernel
theorem dX10_lent_50 : decode cX10_lent 50 = .ok (.aload_n 0, 1) := by decide +kernel
theorem dX10_lent_51 : decode cX10_lent 51 = .ok (.getfield 10, 3) := by decide +kernel
theorem dX10_lent_54 : decode cX10_lent 54 = .ok (.getfield 46, 3) := by decide +kernel
theorem dX10_lent_57 : decode cX10_lent 57 = .ok (.invokevirtual 196, 3) := by decide +kernel
theorem dX10_lent_60 : decode cX10_lent 60 = .ok (.if_icmp .gt 71, 3) := by decide +kernel
theorem dX10_lent_63 : decode cX10_lent 63 = .ok (.iload 6, 2) := by decide +kernel
theorem dX10_lent_65 : decode cX10_lent 65 = .ok (.iload_n 1, 1) := by decide +kernel
theorem dX10_lent_66 : decode cX10_lent 66 = .ok (.iconst (-1), 1) := by decide +kernel
theorem dX10_lent_67 : decode cX10_lent 67 = .ok (.ixor, 1) := by decide +kernel
