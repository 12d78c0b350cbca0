theorem dX11_read_5 : decode cX11_read 5 = .ok (.if_icmp .ge 16, 3) := by decide +kernel
theorem dX11_read_8 : decode cX11_read 8 = .ok (.aload_n 0, 1) := by decide +kernel
theorem dX11_read_9 : decode cX11_read 9 = .ok (.getfield 35, 3) := by decide +kernel
theorem dX11_read_12 : decode cX11_read 12 = .ok (.iload_n 1, 1) := by decide +kernel
theorem dX11_read_13 : decode cX11_read 13 = .ok (.iconst 0, 1) := by decide +kernel
theorem dX11_read_14 : decode cX11_read 14 = .ok (.iastore, 1) := by decide +kernel
theorem dX11_read_15 : decode cX11_read 15 = .ok (.iinc 1 1, 3) := by decide +kernel
theorem dX11_read_18 : decode cX11_read 18 = .ok (.goto (-16), 3) := by decide +kernel
theorem dX11_read_21 : decode cX11_read 21 = .ok (.aload_n 0, 1) := by decide +kernel
theorem dX11_read_22 : decode cX11_read 22 = .ok (.iconst 0, 1) := by decide +kernel
theorem dX11_read_23 : decode cX11_read 23 = .ok (.putfield 159, 3) := by decide +kernel
theorem dX11_read_26 : decode cX11_read 26 = .ok (.iconst 0, 1) := by decide +kernel
theorem dX11_read_27 : decode cX11_read 27 = .ok (.istore_n 1, 1) := by decide +kernel
theorem dX11_read_28 : decode cX11_read 28 = .ok (.aload_n 0, 1) := by decide +kernel
theorem dX11_read_29 : decode cX11_read 29 = .ok (.invokevirtual 190, 3) := by decide +kernel
theorem dX11_read_32 : decode cX11_read 32 = .ok (.aload_n 0, 1) := by decide +kernel
theorem dX11_read_33 : decode cX11_read 33 = .ok (.getfield 171, 3) := by decide +kernel
theorem dX11_read_36 : decode cX11_read 36 = .ok (.ifCond .eq 36, 3) := by decide +kernel
theorem dX11_read_39 : decode cX11_read 39 = .ok (.aload_n 0, 1) := by decide +kernel
theorem dX11_read_40 : decode cX11_read 40 = .ok (.getfield 171, 3) := by decide +kernel
theorem dX11_read_43 : decode cX11_read 43 = .ok (.iconst 1, 1) := by decide +kernel
theorem dX11_read_44 : decode cX11_read 44 = .ok (.if_icmp .ne 10, 3) := by decide +kernel
theorem dX11_read_47 : decode cX11_read 47 = .ok (.aload_n 0, 1) := by decide +kernel
theorem dX11_read_48 : decode cX11_read 48 = .ok (.invokevirtual 214, 3) := by decide +kernel
theorem dX11_read_51 : decode cX11_read 51 = .ok (.ifCond .ne 11, 3) := by decide +kernel
theorem dX11_read_54 : decode cX11_read 54 = .ok (.bipush (-10), 2) := by decide +kernel
theorem dX11_read_56 : decode cX11_read 56 = .ok (.aload_n 0, 1) := by decide +kernel
theorem dX11_read_57 : decode cX11_read 57 = .ok (.getfield 162, 3) := by decide +kernel
theorem dX11_read_60 : decode cX11_read 60 = .ok (.isub, 1) := by decide +kernel
theorem dX11_read_61 : decode cX11_read 61 = .ok (.ireturn, 1) := by decide +kernel
theorem dX11_read_62 : decode cX11_read 62 = .ok (.iinc 1 1, 3) := by decide +kernel
theorem dX11_read_65 : decode cX11_read 65 = .ok (.aload_n 0, 1) := by decide +kernel
theorem dX11_read_66 : decode cX11_read 66 = .ok (.invokevirtual 190, 3) := by decide +kernel
theorem dX11_read_69 : decode cX11_read 69 = .ok (.goto (-37), 3) := by decide +kernel
theorem dX11_read_72 : decode cX11_read 72 = .ok (.aload_n 0, 1) := by decide +kernel
theorem dX11_read_73 : decode cX11_read 73 = .ok (.getfield 7, 3) := by decide +kernel
theorem dX11_read_76 : decode cX11_read 76 = .ok (.iconst 0, 1) := by decide +kernel
theorem dX11_read_77 : decode cX11_read 77 = .ok (.aload_n 0, 1) := by decide +kernel
theorem dX11_read_78 : decode cX11_read 78 = .ok (.getfield 35, 3) := by decide +kernel
theorem dX11_read_81 : decode cX11_read 81 = .ok (.iconst 0, 1) := by decide +kernel
theorem dX11_read_82 : decode cX11_read 82 = .ok (.iaload, 1) := by decide +kernel
theorem dX11_read_83 : decode cX11_read 83 = .ok (.iastore, 1) := by decide +kernel
theorem dX11_read_84 : decode cX11_read 84 = .ok (.aload_n 0, 1) := by decide +kernel
theorem dX11_read_85 : decode cX11_read 85 = .ok (.getfield 7, 3) := by decide +kernel
theorem dX11_read_88 : decode cX11_read 88 = .ok (.iconst 1, 1) := by decide +kernel
theorem dX11_read_89 : decode cX11_read 89 = .ok (.aload_n 0, 1) := by decide +kernel
theorem dX11_read_90 : decode cX11_read 90 = .ok (.getfield 35, 3) := by decide +kernel
theorem dX11_read_93 : decode cX11_read 93 = .ok (.iconst 1, 1) := by decide +kernel
theorem dX11_read_94 : decode cX11_read 94 = .ok (.iaload, 1) := by decide +kernel
theorem dX11_read_95 : decode cX11_read 95 = .ok (.iastore, 1) := by decide +kernel
theorem dX11_read_96 : decode cX11_read 96 = .ok (.iconst 5, 1) := by decide +kernel
theorem dX11_read_97 : decode cX11_read 97 = .ok (.istore_n 2, 1) := by decide +kernel
theorem dX11_read_98 : decode cX11_read 98 = .ok (.iload_n 2, 1) := by decide +kernel
theorem dX11_read_99 : decode cX11_read 99 = .ok (.bipush 37, 2) := by decide +kernel
theorem dX11_read_101 : decode cX11_read 101 = .ok (.if_icmp .ge 21, 3) := by decide +kernel
theorem dX11_read_104 : decode cX11_read 104 = .ok (.aload_n 0, 1) := by decide +kernel
theorem dX11_read_105 : decode cX11_read 105 = .ok (.getfield 7, 3) := by decide +kernel
theorem dX11_read_108 : decode cX11_read 108 = .ok (.iload_n 2, 1) := by decide +kernel
theorem dX11_read_109 : decode cX11_read 109 = .ok (.aload_n 0, 1) := by decide +kernel
theorem dX11_read_110 : decode cX11_read 110 = .ok (.getfield 35, 3) := by decide +kernel
theorem dX11_read_113 : decode cX11_read 113 = .ok (.iload_n 2, 1) := by decide +kernel
theorem dX11_read_114 : decode cX11_read 114 = .ok (.iaload, 1) := by decide +kernel
theorem dX11_read_115 : decode cX11_read 115 = .ok (.iastore, 1) := by decide +kernel
theorem dX11_read_116 : decode cX11_read 116 = .ok (.iinc 2 1, 3) := by decide +kernel
theorem dX11_read_119 : decode cX11_read 119 = .ok (.goto (-21), 3) := by decide +kernel
theorem dX11_read_122 : decode cX11_read 122 = .ok (.iload_n 1, 1) := by decide +kernel
theorem dX11_read_123 : decode cX11_read 123 = .ok (.ireturn, 1) := by decide +kernel
theorem dX11_can_0 : decode cX11_can 0 = .ok (.aload_n 0, 1) := by decide +kernel
theorem dX11_can_1 : decode cX11_can 1 = .ok (.iload_n 1, 1) := by decide +kernel
theorem dX11_can_2 : decode cX11_can 2 = .ok (.invokevirtual 151, 3) := by decide +kernel
theorem dX11_can_5 : decode cX11_can 5 = .ok (.ifCond .eq 28, 3) := by decide +kernel
theorem dX11_can_8 : decode cX11_can 8 = .ok (.iload_n 2, 1) := by decide +kernel
theorem dX11_can_9 : decode cX11_can 9 = .ok (.invokestatic 106, 3) := by decide +kernel
theorem dX11_can_12 : decode cX11_can 12 = .ok (.ifCond .eq 21, 3) := by decide +kernel
theorem dX11_can_15 : decode cX11_can 15 = .ok (.iload_n 3, 1) := by decide +kernel
theorem dX11_can_16 : decode cX11_can 16 = .ok (.i2l, 1) := by decide +kernel
theorem dX11_can_17 : decode cX11_can 17 = .ok (.lconst 0, 1) := by decide +kernel
theorem dX11_can_18 : decode cX11_can 18 = .ok (.ldc2_w 121, 3) := by decide +kernel
theorem dX11_can_21 : decode cX11_can 21 = .ok (.invokestatic 66, 3) := by decide +kernel
theorem dX11_can_24 : decode cX11_can 24 = .ok (.ifCond .eq 9, 3) := by decide +kernel
theorem dX11_can_27 : decode cX11_can 27 = .ok (.iload 4, 2) := by decide +kernel
theorem dX11_can_29 : decode cX11_can 29 = .ok (.iconst (-1), 1) := by decide +kernel
theorem dX11_can_30 : decode cX11_can 30 = .ok (.if_icmp .ge 10, 3) := by decide +kernel
theorem dX11_can_33 : decode cX11_can 33 = .ok (.aload_n 0, 1) := by decide +kernel
theorem dX11_can_34 : decode cX11_can 34 = .ok (.bipush (-10), 2) := by decide +kernel
theorem dX11_can_36 : decode cX11_can 36 = .ok (.invokevirtual 103, 3) := by decide +kernel
theorem dX11_can_39 : decode cX11_can 39 = .ok (.ireturn, 1) := by decide +kernel
theorem dX11_can_40 : decode cX11_can 40 = .ok (.aload_n 0, 1) := by decide +kernel
theorem dX11_can_41 : decode cX11_can 41 = .ok (.iload_n 2, 1) := by decide +kernel
theorem dX11_can_42 : decode cX11_can 42 = .ok (.invokevirtual 139, 3) := by decide +kernel
theorem dX11_can_45 : decode cX11_can 45 = .ok (.iconst 0, 1) := by decide +kernel
theorem dX11_can_46 : decode cX11_can 46 = .ok (.istore 5, 2) := by decide +kernel
theorem dX11_can_48 : decode cX11_can 48 = .ok (.iconst 1, 1) := by decide +kernel
theorem dX11_can_49 : decode cX11_can 49 = .ok (.istore 6, 2) := by decide +kernel
theorem dX11_can_51 : decode cX11_can 51 = .ok (.iload 6, 2) := by decide +kernel
theorem dX11_can_53 : decode cX11_can 53 = .ok (.iconst 1, 1) := by decide +kernel
theorem dX11_can_54 : decode cX11_can 54 = .ok (.aload_n 0, 1) := by decide +kernel
theorem dX11_can_55 : decode cX11_can 55 = .ok (.getfield 7, 3) := by decide +kernel
theorem dX11_can_58 : decode cX11_can 58 = .ok (.iconst 0, 1) := by decide +kernel
theorem dX11_can_59 : decode cX11_can 59 = .ok (.iaload, 1) := by decide +kernel
theorem dX11_can_60 : decode cX11_can 60 = .ok (.ishl, 1) := by decide +kernel
theorem dX11_can_61 : decode cX11_can 61 = .ok (.if_icmp .ge 45, 3) := by decide +kernel
theorem dX11_can_64 : decode cX11_can 64 = .ok (.iload_n 3, 1) := by decide +kernel
theorem dX11_can_65 : decode cX11_can 65 = .ok (.ifCond .eq 12, 3) := by decide +kernel
theorem dX11_can_68 : decode cX11_can 68 = .ok (.iload 6, 2) := by decide +kernel
theorem dX11_can_70 : decode cX11_can 70 = .ok (.invokestatic 142, 3) := by decide +kernel
theorem dX11_can_73 : decode cX11_can 73 = .ok (.iload_n 3, 1) := by decide +kernel
theorem dX11_can_74 : decode cX11_can 74 = .ok (.if_icmp .ne 26, 3) := by decide +kernel
theorem dX11_can_77 : decode cX11_can 77 = .ok (.aload_n 0, 1) := by decide +kernel
theorem dX11_can_78 : decode cX11_can 78 = .ok (.iload 6, 2) := by decide +kernel
theorem dX11_can_80 : decode cX11_can 80 = .ok (.iload_n 1, 1) := by decide +kernel
theorem dX11_can_81 : decode cX11_can 81 = .ok (.invokevirtual 154, 3) := by decide +kernel
theorem dX11_can_84 : decode cX11_can 84 = .ok (.ifCond .ne 16, 3) := by decide +kernel
theorem dX11_can_87 : decode cX11_can 87 = .ok (.iload 5, 2) := by decide +kernel
theorem dX11_can_89 : decode cX11_can 89 = .ok (.iload 4, 2) := by decide +kernel
theorem dX11_can_91 : decode cX11_can 91 = .ok (.if_icmp .ne 6, 3) := by decide +kernel
theorem dX11_can_94 : decode cX11_can 94 = .ok (.iload 6, 2) := by decide +kernel
theorem dX11_can_96 : decode cX11_can 96 = .ok (.ireturn, 1) := by decide +kernel
theorem dX11_can_97 : decode cX11_can 97 = .ok (.iinc 5 1, 3) := by decide +kernel
theorem dX11_can_100 : decode cX11_can 100 = .ok (.iinc 6 1, 3) := by decide +kernel
theorem dX11_can_103 : decode cX11_can 103 = .ok (.goto (-52), 3) := by decide +kernel
theorem dX11_can_106 : decode cX11_can 106 = .ok (.iload 4, 2) := by decide +kernel
theorem dX11_can_108 : decode cX11_can 108 = .ok (.iconst (-1), 1) := by decide +kernel
theorem dX11_can_109 : decode cX11_can 109 = .ok (.if_icmp .ne 8, 3) := by decide +kernel
theorem dX11_can_112 : decode cX11_can 112 = .ok (.iload 5, 2) := by decide +kernel
theorem dX11_can_114 : decode cX11_can 114 = .ok (.goto 5, 3) := by decide +kernel
theorem dX11_can_117 : decode cX11_can 117 = .ok (.bipush (-5), 2) := by decide +kernel
theorem dX11_can_119 : decode cX11_can 119 = .ok (.ireturn, 1) := by decide +kernel
theorem dX11_least_0 : decode cX11_least 0 = .ok (.iconst 0, 1) := by decide +kernel
theorem dX11_least_1 : decode cX11_least 1 = .ok (.istore_n 1, 1) := by decide +kernel
theorem dX11_least_2 : decode cX11_least 2 = .ok (.iload_n 0, 1) := by decide +kernel
theorem dX11_least_3 : decode cX11_least 3 = .ok (.iload_n 1, 1) := by decide +kernel
theorem dX11_least_4 : decode cX11_least 4 = .ok (.invokestatic 126, 3) := by decide +kernel
theorem dX11_least_7 : decode cX11_least 7 = .ok (.ifCond .ne 9, 3) := by decide +kernel
theorem dX11_least_10 : decode cX11_least 10 = .ok (.iinc 1 1, 3) := by decide +kernel
theorem dX11_least_13 : decode cX11_least 13 = .ok (.goto (-11), 3) := by decide +kernel
theorem dX11_least_16 : decode cX11_least 16 = .ok (.iload_n 1, 1) := by decide +kernel
theorem dX11_least_17 : decode cX11_least 17 = .ok (.ireturn, 1) := by decide +kernel
theorem dX11_isPart_0 : decode cX11_isPart 0 = .ok (.iload_n 0, 1) := by decide +kernel
theorem dX11_isPart_1 : decode cX11_isPart 1 = .ok (.iload_n 1, 1) := by decide +kernel
theorem dX11_isPart_2 : decode cX11_isPart 2 = .ok (.iconst (-1), 1) := by decide +kernel
theorem dX11_isPart_3 : decode cX11_isPart 3 = .ok (.ixor, 1) := by decide +kernel
theorem dX11_isPart_4 : decode cX11_isPart 4 = .ok (.iand, 1) := by decide +kernel
theorem dX11_isPart_5 : decode cX11_isPart 5 = .ok (.ifCond .ne 7, 3) := by decide +kernel
theorem dX11_isPart_8 : decode cX11_isPart 8 = .ok (.iconst 1, 1) := by decide +kernel
theorem dX11_isPart_9 : decode cX11_isPart 9 = .ok (.goto 4, 3) := by decide +kernel
theorem dX11_isPart_12 : decode cX11_isPart 12 = .ok (.iconst 0, 1) := by decide +kernel
theorem dX11_isPart_13 : decode cX11_isPart 13 = .ok (.ireturn, 1) := by decide +kernel
theorem dX11_layParts_0 : decode cX11_layParts 0 = .ok (.iconst 1, 1) := by decide +kernel
theorem dX11_layParts_1 : decode cX11_layParts 1 = .ok (.istore_n 3, 1) := by decide +kernel
theorem dX11_layParts_2 : decode cX11_layParts 2 = .ok (.iload_n 3, 1) := by decide +kernel
theorem dX11_layParts_3 : decode cX11_layParts 3 = .ok (.iload_n 1, 1) := by decide +kernel
theorem dX11_layParts_4 : decode cX11_layParts 4 = .ok (.if_icmp .gt 37, 3) := by decide +kernel
theorem dX11_layParts_7 : decode cX11_layParts 7 = .ok (.aload_n 0, 1) := by decide +kernel
theorem dX11_layParts_8 : decode cX11_layParts 8 = .ok (.getfield 38, 3) := by decide +kernel
theorem dX11_layParts_11 : decode cX11_layParts 11 = .ok (.iload_n 3, 1) := by decide +kernel
theorem dX11_layParts_12 : decode cX11_layParts 12 = .ok (.iload_n 3, 1) := by decide +kernel
theorem dX11_layParts_13 : decode cX11_layParts 13 = .ok (.iload_n 1, 1) := by decide +kernel
theorem dX11_layParts_14 : decode cX11_layParts 14 = .ok (.invokestatic 217, 3) := by decide +kernel
theorem dX11_layParts_17 : decode cX11_layParts 17 = .ok (.ifCond .eq 16, 3) := by decide +kernel
theorem dX11_layParts_20 : decode cX11_layParts 20 = .ok (.aload_n 0, 1) := by decide +kernel
theorem dX11_layParts_21 : decode cX11_layParts 21 = .ok (.iload_n 3, 1) := by decide +kernel
theorem dX11_layParts_22 : decode cX11_layParts 22 = .ok (.iload_n 2, 1) := by decide +kernel
theorem dX11_layParts_23 : decode cX11_layParts 23 = .ok (.invokevirtual 154, 3) := by decide +kernel
theorem dX11_layParts_26 : decode cX11_layParts 26 = .ok (.ifCond .ne 7, 3) := by decide +kernel
theorem dX11_layParts_29 : decode cX11_layParts 29 = .ok (.iconst 1, 1) := by decide +kernel
theorem dX11_layParts_30 : decode cX11_layParts 30 = .ok (.goto 4, 3) := by decide +kernel
theorem dX11_layParts_33 : decode cX11_layParts 33 = .ok (.iconst 0, 1) := by decide +kernel
theorem dX11_layParts_34 : decode cX11_layParts 34 = .ok (.bastore, 1) := by decide +kernel
theorem dX11_layParts_35 : decode cX11_layParts 35 = .ok (.iinc 3 1, 3) := by decide +kernel
theorem dX11_layParts_38 : decode cX11_layParts 38 = .ok (.goto (-36), 3) := by decide +kernel
theorem dX11_layParts_41 : decode cX11_layParts 41 = .ok (.aload_n 0, 1) := by decide +kernel
theorem dX11_layParts_42 : decode cX11_layParts 42 = .ok (.getfield 42, 3) := by decide +kernel
theorem dX11_layParts_45 : decode cX11_layParts 45 = .ok (.iconst 0, 1) := by decide +kernel
theorem dX11_layParts_46 : decode cX11_layParts 46 = .ok (.iconst 0, 1) := by decide +kernel
theorem dX11_layParts_47 : decode cX11_layParts 47 = .ok (.iastore, 1) := by decide +kernel
theorem dX11_layParts_48 : decode cX11_layParts 48 = .ok (.iconst 1, 1) := by decide +kernel
theorem dX11_layParts_49 : decode cX11_layParts 49 = .ok (.istore_n 3, 1) := by decide +kernel
theorem dX11_layParts_50 : decode cX11_layParts 50 = .ok (.iload_n 3, 1) := by decide +kernel
theorem dX11_layParts_51 : decode cX11_layParts 51 = .ok (.iload_n 1, 1) := by decide +kernel
theorem dX11_layParts_52 : decode cX11_layParts 52 = .ok (.if_icmp .gt 130, 3) := by decide +kernel
theorem dX11_layParts_55 : decode cX11_layParts 55 = .ok (.iload_n 3, 1) := by decide +kernel
theorem dX11_layParts_56 : decode cX11_layParts 56 = .ok (.iload_n 1, 1) := by decide +kernel
theorem dX11_layParts_57 : decode cX11_layParts 57 = .ok (.invokestatic 217, 3) := by decide +kernel
theorem dX11_layParts_60 : decode cX11_layParts 60 = .ok (.ifCond .eq 116, 3) := by decide +kernel
theorem dX11_layParts_63 : decode cX11_layParts 63 = .ok (.iload_n 3, 1) := by decide +kernel
theorem dX11_layParts_64 : decode cX11_layParts 64 = .ok (.invokestatic 220, 3) := by decide +kernel
theorem dX11_layParts_67 : decode cX11_layParts 67 = .ok (.istore 4, 2) := by decide +kernel
theorem dX11_layParts_69 : decode cX11_layParts 69 = .ok (.aload_n 0, 1) := by decide +kernel
theorem dX11_layParts_70 : decode cX11_layParts 70 = .ok (.getfield 42, 3) := by decide +kernel
theorem dX11_layParts_73 : decode cX11_layParts 73 = .ok (.iload_n 3, 1) := by decide +kernel
theorem dX11_layParts_74 : decode cX11_layParts 74 = .ok (.aload_n 0, 1) := by decide +kernel
theorem dX11_layParts_75 : decode cX11_layParts 75 = .ok (.getfield 42, 3) := by decide +kernel
theorem dX11_layParts_78 : decode cX11_layParts 78 = .ok (.iload_n 3, 1) := by decide +kernel
theorem dX11_layParts_79 : decode cX11_layParts 79 = .ok (.iconst 1, 1) := by decide +kernel
theorem dX11_layParts_80 : decode cX11_layParts 80 = .ok (.iload 4, 2) := by decide +kernel
theorem dX11_layParts_82 : decode cX11_layParts 82 = .ok (.ishl, 1) := by decide +kernel
theorem dX11_layParts_83 : decode cX11_layParts 83 = .ok (.iconst (-1), 1) := by decide +kernel
theorem dX11_layParts_84 : decode cX11_layParts 84 = .ok (.ixor, 1) := by decide +kernel
theorem dX11_layParts_85 : decode cX11_layParts 85 = .ok (.iand, 1) := by decide +kernel
theorem dX11_layParts_86 : decode cX11_layParts 86 = .ok (.iaload, 1) := by decide +kernel
theorem dX11_layParts_87 : decode cX11_layParts 87 = .ok (.bipush 16, 2) := by decide +kernel
theorem dX11_layParts_89 : decode cX11_layParts 89 = .ok (.iadd, 1) := by decide +kernel
theorem dX11_layParts_90 : decode cX11_layParts 90 = .ok (.iastore, 1) := by decide +kernel
theorem dX11_layParts_91 : decode cX11_layParts 91 = .ok (.iconst 1, 1) := by decide +kernel
theorem dX11_layParts_92 : decode cX11_layParts 92 = .ok (.istore 5, 2) := by decide +kernel
theorem dX11_layParts_94 : decode cX11_layParts 94 = .ok (.iload 5, 2) := by decide +kernel
theorem dX11_layParts_96 : decode cX11_layParts 96 = .ok (.iload_n 3, 1) := by decide +kernel
theorem dX11_layParts_97 : decode cX11_layParts 97 = .ok (.if_icmp .gt 79, 3) := by decide +kernel
theorem dX11_layParts_100 : decode cX11_layParts 100 = .ok (.iload 5, 2) := by decide +kernel
theorem dX11_layParts_102 : decode cX11_layParts 102 = .ok (.iload_n 3, 1) := by decide +kernel
theorem dX11_layParts_103 : decode cX11_layParts 103 = .ok (.invokestatic 217, 3) := by decide +kernel
theorem dX11_layParts_106 : decode cX11_layParts 106 = .ok (.ifCond .eq 64, 3) := by decide +kernel
theorem dX11_layParts_109 : decode cX11_layParts 109 = .ok (.iload 5, 2) := by decide +kernel
theorem dX11_layParts_111 : decode cX11_layParts 111 = .ok (.iload 4, 2) := by decide +kernel
theorem dX11_layParts_113 : decode cX11_layParts 113 = .ok (.invokestatic 126, 3) := by decide +kernel
theorem dX11_layParts_116 : decode cX11_layParts 116 = .ok (.ifCond .eq 54, 3) := by decide +kernel
theorem dX11_layParts_119 : decode cX11_layParts 119 = .ok (.aload_n 0, 1) := by decide +kernel
theorem dX11_layParts_120 : decode cX11_layParts 120 = .ok (.getfield 38, 3) := by decide +kernel
theorem dX11_layParts_123 : decode cX11_layParts 123 = .ok (.iload 5, 2) := by decide +kernel
theorem dX11_layParts_125 : decode cX11_layParts 125 = .ok (.baload, 1) := by decide +kernel
theorem dX11_layParts_126 : decode cX11_layParts 126 = .ok (.ifCond .eq 44, 3) := by decide +kernel
theorem dX11_layParts_129 : decode cX11_layParts 129 = .ok (.aload_n 0, 1) := by decide +kernel
theorem dX11_layParts_130 : decode cX11_layParts 130 = .ok (.getfield 42, 3) := by decide +kernel
theorem dX11_layParts_133 : decode cX11_layParts 133 = .ok (.iload_n 3, 1) := by decide +kernel
theorem dX11_layParts_134 : decode cX11_layParts 134 = .ok (.iload 5, 2) := by decide +kernel
theorem dX11_layParts_136 : decode cX11_layParts 136 = .ok (.iconst (-1), 1) := by decide +kernel
theorem dX11_layParts_137 : decode cX11_layParts 137 = .ok (.ixor, 1) := by decide +kernel
theorem dX11_layParts_138 : decode cX11_layParts 138 = .ok (.iand, 1) := by decide +kernel
theorem dX11_layParts_139 : decode cX11_layParts 139 = .ok (.iaload, 1) := by decide +kernel
theorem dX11_layParts_140 : decode cX11_layParts 140 = .ok (.iconst 1, 1) := by decide +kernel
theorem dX11_layParts_141 : decode cX11_layParts 141 = .ok (.iadd, 1) := by decide +kernel
theorem dX11_layParts_142 : decode cX11_layParts 142 = .ok (.aload_n 0, 1) := by decide +kernel
theorem dX11_layParts_143 : decode cX11_layParts 143 = .ok (.getfield 42, 3) := by decide +kernel
theorem dX11_layParts_146 : decode cX11_layParts 146 = .ok (.iload_n 3, 1) := by decide +kernel
theorem dX11_layParts_147 : decode cX11_layParts 147 = .ok (.iaload, 1) := by decide +kernel
theorem dX11_layParts_148 : decode cX11_layParts 148 = .ok (.if_icmp .ge 22, 3) := by decide +kernel
theorem dX11_layParts_151 : decode cX11_layParts 151 = .ok (.aload_n 0, 1) := by decide +kernel
theorem dX11_layParts_152 : decode cX11_layParts 152 = .ok (.getfield 42, 3) := by decide +kernel
theorem dX11_layParts_155 : decode cX11_layParts 155 = .ok (.iload_n 3, 1) := by decide +kernel
theorem dX11_layParts_156 : decode cX11_layParts 156 = .ok (.aload_n 0, 1) := by decide +kernel
theorem dX11_layParts_157 : decode cX11_layParts 157 = .ok (.getfield 42, 3) := by decide +kernel
theorem dX11_layParts_160 : decode cX11_layParts 160 = .ok (.iload_n 3, 1) := by decide +kernel
theorem dX11_layParts_161 : decode cX11_layParts 161 = .ok (.iload 5, 2) := by decide +kernel
theorem dX11_layParts_163 : decode cX11_layParts 163 = .ok (.iconst (-1), 1) := by decide +kernel
theorem dX11_layParts_164 : decode cX11_layParts 164 = .ok (.ixor, 1) := by decide +kernel
theorem dX11_layParts_165 : decode cX11_layParts 165 = .ok (.iand, 1) := by decide +kernel
theorem dX11_layParts_166 : decode cX11_layParts 166 = .ok (.iaload, 1) := by decide +kernel
theorem dX11_layParts_167 : decode cX11_layParts 167 = .ok (.iconst 1, 1) := by decide +kernel
theorem dX11_layParts_168 : decode cX11_layParts 168 = .ok (.iadd, 1) := by decide +kernel
theorem dX11_layParts_169 : decode cX11_layParts 169 = .ok (.iastore, 1) := by decide +kernel
theorem dX11_layParts_170 : decode cX11_layParts 170 = .ok (.iinc 5 1, 3) := by decide +kernel
theorem dX11_layParts_173 : decode cX11_layParts 173 = .ok (.goto (-79), 3) := by decide +kernel
theorem dX11_layParts_176 : decode cX11_layParts 176 = .ok (.iinc 3 1, 3) := by decide +kernel
theorem dX11_layParts_179 : decode cX11_layParts 179 = .ok (.goto (-129), 3) := by decide +kernel
theorem dX11_layParts_182 : decode cX11_layParts 182 = .ok (.return_, 1) := by decide +kernel
theorem dX11_takeParts_0 : decode cX11_takeParts 0 = .ok (.iload_n 1, 1) := by decide +kernel
theorem dX11_takeParts_1 : decode cX11_takeParts 1 = .ok (.istore_n 2, 1) := by decide +kernel
theorem dX11_takeParts_2 : decode cX11_takeParts 2 = .ok (.aload_n 0, 1) := by decide +kernel
theorem dX11_takeParts_3 : decode cX11_takeParts 3 = .ok (.iconst 0, 1) := by decide +kernel
theorem dX11_takeParts_4 : decode cX11_takeParts 4 = .ok (.putfield 223, 3) := by decide +kernel
theorem dX11_takeParts_7 : decode cX11_takeParts 7 = .ok (.aload_n 0, 1) := by decide +kernel
theorem dX11_takeParts_8 : decode cX11_takeParts 8 = .ok (.iconst 0, 1) := by decide +kernel
theorem dX11_takeParts_9 : decode cX11_takeParts 9 = .ok (.putfield 226, 3) := by decide +kernel
theorem dX11_takeParts_12 : decode cX11_takeParts 12 = .ok (.iload_n 2, 1) := by decide +kernel
theorem dX11_takeParts_13 : decode cX11_takeParts 13 = .ok (.ifCond .eq 144, 3) := by decide +kernel
theorem dX11_takeParts_16 : decode cX11_takeParts 16 = .ok (.iload_n 2, 1) := by decide +kernel
theorem dX11_takeParts_17 : decode cX11_takeParts 17 = .ok (.invokestatic 220, 3) := by decide +kernel
theorem dX11_takeParts_20 : decode cX11_takeParts 20 = .ok (.istore_n 3, 1) := by decide +kernel
theorem dX11_takeParts_21 : decode cX11_takeParts 21 = .ok (.iconst 0, 1) := by decide +kernel
theorem dX11_takeParts_22 : decode cX11_takeParts 22 = .ok (.istore 4, 2) := by decide +kernel
theorem dX11_takeParts_24 : decode cX11_takeParts 24 = .ok (.iload_n 2, 1) := by decide +kernel
theorem dX11_takeParts_25 : decode cX11_takeParts 25 = .ok (.istore 5, 2) := by decide +kernel
theorem dX11_takeParts_27 : decode cX11_takeParts 27 = .ok (.iload 5, 2) := by decide +kernel
theorem dX11_takeParts_29 : decode cX11_takeParts 29 = .ok (.iconst 1, 1) := by decide +kernel
theorem dX11_takeParts_30 : decode cX11_takeParts 30 = .ok (.if_icmp .lt 68, 3) := by decide +kernel
theorem dX11_takeParts_33 : decode cX11_takeParts 33 = .ok (.iload 5, 2) := by decide +kernel
theorem dX11_takeParts_35 : decode cX11_takeParts 35 = .ok (.iload_n 2, 1) := by decide +kernel
theorem dX11_takeParts_36 : decode cX11_takeParts 36 = .ok (.invokestatic 217, 3) := by decide +kernel
theorem dX11_takeParts_39 : decode cX11_takeParts 39 = .ok (.ifCond .eq 49, 3) := by decide +kernel
theorem dX11_takeParts_42 : decode cX11_takeParts 42 = .ok (.iload 5, 2) := by decide +kernel
theorem dX11_takeParts_44 : decode cX11_takeParts 44 = .ok (.iload_n 3, 1) := by decide +kernel
theorem dX11_takeParts_45 : decode cX11_takeParts 45 = .ok (.invokestatic 126, 3) := by decide +kernel
theorem dX11_takeParts_48 : decode cX11_takeParts 48 = .ok (.ifCond .eq 40, 3) := by decide +kernel
theorem dX11_takeParts_51 : decode cX11_takeParts 51 = .ok (.aload_n 0, 1) := by decide +kernel
theorem dX11_takeParts_52 : decode cX11_takeParts 52 = .ok (.getfield 38, 3) := by decide +kernel
theorem dX11_takeParts_55 : decode cX11_takeParts 55 = .ok (.iload 5, 2) := by decide +kernel
theorem dX11_takeParts_57 : decode cX11_takeParts 57 = .ok (.baload, 1) := by decide +kernel
theorem dX11_takeParts_58 : decode cX11_takeParts 58 = .ok (.ifCond .eq 30, 3) := by decide +kernel
theorem dX11_takeParts_61 : decode cX11_takeParts 61 = .ok (.aload_n 0, 1) := by decide +kernel
theorem dX11_takeParts_62 : decode cX11_takeParts 62 = .ok (.getfield 42, 3) := by decide +kernel
theorem dX11_takeParts_65 : decode cX11_takeParts 65 = .ok (.iload_n 2, 1) := by decide +kernel
theorem dX11_takeParts_66 : decode cX11_takeParts 66 = .ok (.iload 5, 2) := by decide +kernel
theorem dX11_takeParts_68 : decode cX11_takeParts 68 = .ok (.iconst (-1), 1) := by decide +kernel
theorem dX11_takeParts_69 : decode cX11_takeParts 69 = .ok (.ixor, 1) := by decide +kernel
theorem dX11_takeParts_70 : decode cX11_takeParts 70 = .ok (.iand, 1) := by decide +kernel
theorem dX11_takeParts_71 : decode cX11_takeParts 71 = .ok (.iaload, 1) := by decide +kernel
theorem dX11_takeParts_72 : decode cX11_takeParts 72 = .ok (.iconst 1, 1) := by decide +kernel
theorem dX11_takeParts_73 : decode cX11_takeParts 73 = .ok (.iadd, 1) := by decide +kernel
theorem dX11_takeParts_74 : decode cX11_takeParts 74 = .ok (.aload_n 0, 1) := by decide +kernel
theorem dX11_takeParts_75 : decode cX11_takeParts 75 = .ok (.getfield 42, 3) := by decide +kernel
theorem dX11_takeParts_78 : decode cX11_takeParts 78 = .ok (.iload_n 2, 1) := by decide +kernel
theorem dX11_takeParts_79 : decode cX11_takeParts 79 = .ok (.iaload, 1) := by decide +kernel
theorem dX11_takeParts_80 : decode cX11_takeParts 80 = .ok (.if_icmp .ne 8, 3) := by decide +kernel
theorem dX11_takeParts_83 : decode cX11_takeParts 83 = .ok (.iload 5, 2) := by decide +kernel
theorem dX11_takeParts_85 : decode cX11_takeParts 85 = .ok (.goto 5, 3) := by decide +kernel
theorem dX11_takeParts_88 : decode cX11_takeParts 88 = .ok (.iload 4, 2) := by decide +kernel
theorem dX11_takeParts_90 : decode cX11_takeParts 90 = .ok (.istore 4, 2) := by decide +kernel
theorem dX11_takeParts_92 : decode cX11_takeParts 92 = .ok (.iinc 5 (-1), 3) := by decide +kernel
theorem dX11_takeParts_95 : decode cX11_takeParts 95 = .ok (.goto (-68), 3) := by decide +kernel
theorem dX11_takeParts_98 : decode cX11_takeParts 98 = .ok (.iload 4, 2) := by decide +kernel
theorem dX11_takeParts_100 : decode cX11_takeParts 100 = .ok (.ifCond .ne 26, 3) := by decide +kernel
theorem dX11_takeParts_103 : decode cX11_takeParts 103 = .ok (.aload_n 0, 1) := by decide +kernel
theorem dX11_takeParts_104 : decode cX11_takeParts 104 = .ok (.dup, 1) := by decide +kernel
theorem dX11_takeParts_105 : decode cX11_takeParts 105 = .ok (.getfield 223, 3) := by decide +kernel
theorem dX11_takeParts_108 : decode cX11_takeParts 108 = .ok (.iconst 1, 1) := by decide +kernel
theorem dX11_takeParts_109 : decode cX11_takeParts 109 = .ok (.iload_n 3, 1) := by decide +kernel
theorem dX11_takeParts_110 : decode cX11_takeParts 110 = .ok (.ishl, 1) := by decide +kernel
theorem dX11_takeParts_111 : decode cX11_takeParts 111 = .ok (.ior, 1) := by decide +kernel
theorem dX11_takeParts_112 : decode cX11_takeParts 112 = .ok (.putfield 223, 3) := by decide +kernel
theorem dX11_takeParts_115 : decode cX11_takeParts 115 = .ok (.iload_n 2, 1) := by decide +kernel
theorem dX11_takeParts_116 : decode cX11_takeParts 116 = .ok (.iconst 1, 1) := by decide +kernel
theorem dX11_takeParts_117 : decode cX11_takeParts 117 = .ok (.iload_n 3, 1) := by decide +kernel
theorem dX11_takeParts_118 : decode cX11_takeParts 118 = .ok (.ishl, 1) := by decide +kernel
theorem dX11_takeParts_119 : decode cX11_takeParts 119 = .ok (.iconst (-1), 1) := by decide +kernel
theorem dX11_takeParts_120 : decode cX11_takeParts 120 = .ok (.ixor, 1) := by decide +kernel
theorem dX11_takeParts_121 : decode cX11_takeParts 121 = .ok (.iand, 1) := by decide +kernel
theorem dX11_takeParts_122 : decode cX11_takeParts 122 = .ok (.istore_n 2, 1) := by decide +kernel
theorem dX11_takeParts_123 : decode cX11_takeParts 123 = .ok (.goto 31, 3) := by decide +kernel
theorem dX11_takeParts_126 : decode cX11_takeParts 126 = .ok (.aload_n 0, 1) := by decide +kernel
theorem dX11_takeParts_127 : decode cX11_takeParts 127 = .ok (.getfield 45, 3) := by decide +kernel
theorem dX11_takeParts_130 : decode cX11_takeParts 130 = .ok (.aload_n 0, 1) := by decide +kernel
theorem dX11_takeParts_131 : decode cX11_takeParts 131 = .ok (.getfield 226, 3) := by decide +kernel
theorem dX11_takeParts_134 : decode cX11_takeParts 134 = .ok (.iload 4, 2) := by decide +kernel
theorem dX11_takeParts_136 : decode cX11_takeParts 136 = .ok (.iastore, 1) := by decide +kernel
theorem dX11_takeParts_137 : decode cX11_takeParts 137 = .ok (.aload_n 0, 1) := by decide +kernel
theorem dX11_takeParts_138 : decode cX11_takeParts 138 = .ok (.dup, 1) := by decide +kernel
theorem dX11_takeParts_139 : decode cX11_takeParts 139 = .ok (.getfield 226, 3) := by decide +kernel
theorem dX11_takeParts_142 : decode cX11_takeParts 142 = .ok (.iconst 1, 1) := by decide +kernel
theorem dX11_takeParts_143 : decode cX11_takeParts 143 = .ok (.iadd, 1) := by decide +kernel
theorem dX11_takeParts_144 : decode cX11_takeParts 144 = .ok (.putfield 226, 3) := by decide +kernel
theorem dX11_takeParts_147 : decode cX11_takeParts 147 = .ok (.iload_n 2, 1) := by decide +kernel
theorem dX11_takeParts_148 : decode cX11_takeParts 148 = .ok (.iload 4, 2) := by decide +kernel
theorem dX11_takeParts_150 : decode cX11_takeParts 150 = .ok (.iconst (-1), 1) := by decide +kernel
theorem dX11_takeParts_151 : decode cX11_takeParts 151 = .ok (.ixor, 1) := by decide +kernel
theorem dX11_takeParts_152 : decode cX11_takeParts 152 = .ok (.iand, 1) := by decide +kernel
theorem dX11_takeParts_153 : decode cX11_takeParts 153 = .ok (.istore_n 2, 1) := by decide +kernel
theorem dX11_takeParts_154 : decode cX11_takeParts 154 = .ok (.goto (-142), 3) := by decide +kernel
theorem dX11_takeParts_157 : decode cX11_takeParts 157 = .ok (.return_, 1) := by decide +kernel
theorem dX11_isSet_0 : decode cX11_isSet 0 = .ok (.iload_n 1, 1) := by decide +kernel
theorem dX11_isSet_1 : decode cX11_isSet 1 = .ok (.ifCond .eq 11, 3) := by decide +kernel
theorem dX11_isSet_4 : decode cX11_isSet 4 = .ok (.aload_n 0, 1) := by decide +kernel
theorem dX11_isSet_5 : decode cX11_isSet 5 = .ok (.iload_n 1, 1) := by decide +kernel
theorem dX11_isSet_6 : decode cX11_isSet 6 = .ok (.invokevirtual 148, 3) := by decide +kernel
theorem dX11_isSet_9 : decode cX11_isSet 9 = .ok (.ifCond .eq 7, 3) := by decide +kernel
theorem dX11_isSet_12 : decode cX11_isSet 12 = .ok (.iconst 1, 1) := by decide +kernel
theorem dX11_isSet_13 : decode cX11_isSet 13 = .ok (.goto 4, 3) := by decide +kernel
theorem dX11_isSet_16 : decode cX11_isSet 16 = .ok (.iconst 0, 1) := by decide +kernel
theorem dX11_isSet_17 : decode cX11_isSet 17 = .ok (.ireturn, 1) := by decide +kernel
theorem dX11_isLook_0 : decode cX11_isLook 0 = .ok (.aload_n 0, 1) := by decide +kernel
theorem dX11_isLook_1 : decode cX11_isLook 1 = .ok (.iload_n 1, 1) := by decide +kernel
theorem dX11_isLook_2 : decode cX11_isLook 2 = .ok (.invokevirtual 229, 3) := by decide +kernel
theorem dX11_isLook_5 : decode cX11_isLook 5 = .ok (.ifCond .eq 22, 3) := by decide +kernel
theorem dX11_isLook_8 : decode cX11_isLook 8 = .ok (.aload_n 0, 1) := by decide +kernel
theorem dX11_isLook_9 : decode cX11_isLook 9 = .ok (.iload_n 2, 1) := by decide +kernel
theorem dX11_isLook_10 : decode cX11_isLook 10 = .ok (.invokevirtual 151, 3) := by decide +kernel
theorem dX11_isLook_13 : decode cX11_isLook 13 = .ok (.ifCond .eq 14, 3) := by decide +kernel
theorem dX11_isLook_16 : decode cX11_isLook 16 = .ok (.iload_n 3, 1) := by decide +kernel
theorem dX11_isLook_17 : decode cX11_isLook 17 = .ok (.invokestatic 106, 3) := by decide +kernel
theorem dX11_isLook_20 : decode cX11_isLook 20 = .ok (.ifCond .eq 7, 3) := by decide +kernel
theorem dX11_isLook_23 : decode cX11_isLook 23 = .ok (.iconst 1, 1) := by decide +kernel
theorem dX11_isLook_24 : decode cX11_isLook 24 = .ok (.goto 4, 3) := by decide +kernel
theorem dX11_isLook_27 : decode cX11_isLook 27 = .ok (.iconst 0, 1) := by decide +kernel
theorem dX11_isLook_28 : decode cX11_isLook 28 = .ok (.ireturn, 1) := by decide +kernel
theorem dX11_over_0 : decode cX11_over 0 = .ok (.aload_n 0, 1) := by decide +kernel
theorem dX11_over_1 : decode cX11_over 1 = .ok (.iload_n 1, 1) := by decide +kernel
theorem dX11_over_2 : decode cX11_over 2 = .ok (.iload_n 2, 1) := by decide +kernel
theorem dX11_over_3 : decode cX11_over 3 = .ok (.iload_n 3, 1) := by decide +kernel
theorem dX11_over_4 : decode cX11_over 4 = .ok (.invokevirtual 232, 3) := by decide +kernel
theorem dX11_over_7 : decode cX11_over 7 = .ok (.ifCond .eq 16, 3) := by decide +kernel
theorem dX11_over_10 : decode cX11_over 10 = .ok (.iload 4, 2) := by decide +kernel
theorem dX11_over_12 : decode cX11_over 12 = .ok (.i2l, 1) := by decide +kernel
theorem dX11_over_13 : decode cX11_over 13 = .ok (.lconst 0, 1) := by decide +kernel
theorem dX11_over_14 : decode cX11_over 14 = .ok (.ldc2_w 109, 3) := by decide +kernel
theorem dX11_over_17 : decode cX11_over 17 = .ok (.invokestatic 66, 3) := by decide +kernel
theorem dX11_over_20 : decode cX11_over 20 = .ok (.ifCond .ne 10, 3) := by decide +kernel
theorem dX11_over_23 : decode cX11_over 23 = .ok (.aload_n 0, 1) := by decide +kernel
theorem dX11_over_24 : decode cX11_over 24 = .ok (.bipush (-2), 2) := by decide +kernel
theorem dX11_over_26 : decode cX11_over 26 = .ok (.invokevirtual 103, 3) := by decide +kernel
theorem dX11_over_29 : decode cX11_over 29 = .ok (.ireturn, 1) := by decide +kernel
theorem dX11_over_30 : decode cX11_over 30 = .ok (.aload_n 0, 1) := by decide +kernel
theorem dX11_over_31 : decode cX11_over 31 = .ok (.iload_n 3, 1) := by decide +kernel
theorem dX11_over_32 : decode cX11_over 32 = .ok (.invokevirtual 139, 3) := by decide +kernel
theorem dX11_over_35 : decode cX11_over 35 = .ok (.aload_n 0, 1) := by decide +kernel
theorem dX11_over_36 : decode cX11_over 36 = .ok (.iload_n 1, 1) := by decide +kernel
theorem dX11_over_37 : decode cX11_over 37 = .ok (.iload_n 2, 1) := by decide +kernel
theorem dX11_over_38 : decode cX11_over 38 = .ok (.invokevirtual 235, 3) := by decide +kernel
theorem dX11_over_41 : decode cX11_over 41 = .ok (.aload_n 0, 1) := by decide +kernel
theorem dX11_over_42 : decode cX11_over 42 = .ok (.iload_n 1, 1) := by decide +kernel
theorem dX11_over_43 : decode cX11_over 43 = .ok (.invokevirtual 239, 3) := by decide +kernel
theorem dX11_over_46 : decode cX11_over 46 = .ok (.iload 4, 2) := by decide +kernel
theorem dX11_over_48 : decode cX11_over 48 = .ok (.ifCond .ne 15, 3) := by decide +kernel
theorem dX11_over_51 : decode cX11_over 51 = .ok (.aload_n 0, 1) := by decide +kernel
theorem dX11_over_52 : decode cX11_over 52 = .ok (.getfield 42, 3) := by decide +kernel
theorem dX11_over_55 : decode cX11_over 55 = .ok (.iload_n 1, 1) := by decide +kernel
theorem dX11_over_56 : decode cX11_over 56 = .ok (.iaload, 1) := by decide +kernel
theorem dX11_over_57 : decode cX11_over 57 = .ok (.bipush 16, 2) := by decide +kernel
theorem dX11_over_59 : decode cX11_over 59 = .ok (.idiv, 1) := by decide +kernel
theorem dX11_over_60 : decode cX11_over 60 = .ok (.goto 25, 3) := by decide +kernel
theorem dX11_over_63 : decode cX11_over 63 = .ok (.iload 4, 2) := by decide +kernel
theorem dX11_over_65 : decode cX11_over 65 = .ok (.iconst 1, 1) := by decide +kernel
theorem dX11_over_66 : decode cX11_over 66 = .ok (.if_icmp .ne 15, 3) := by decide +kernel
theorem dX11_over_69 : decode cX11_over 69 = .ok (.aload_n 0, 1) := by decide +kernel
theorem dX11_over_70 : decode cX11_over 70 = .ok (.getfield 42, 3) := by decide +kernel
theorem dX11_over_73 : decode cX11_over 73 = .ok (.iload_n 1, 1) := by decide +kernel
theorem dX11_over_74 : decode cX11_over 74 = .ok (.iaload, 1) := by decide +kernel
theorem dX11_over_75 : decode cX11_over 75 = .ok (.bipush 16, 2) := by decide +kernel
theorem dX11_over_77 : decode cX11_over 77 = .ok (.irem, 1) := by decide +kernel
theorem dX11_over_78 : decode cX11_over 78 = .ok (.goto 7, 3) := by decide +kernel
theorem dX11_over_81 : decode cX11_over 81 = .ok (.aload_n 0, 1) := by decide +kernel
theorem dX11_over_82 : decode cX11_over 82 = .ok (.getfield 223, 3) := by decide +kernel
theorem dX11_over_85 : decode cX11_over 85 = .ok (.ireturn, 1) := by decide +kernel
theorem dX11_parts_0 : decode cX11_parts 0 = .ok (.aload_n 0, 1) := by decide +kernel
theorem dX11_parts_1 : decode cX11_parts 1 = .ok (.iload_n 1, 1) := by decide +kernel
theorem dX11_parts_2 : decode cX11_parts 2 = .ok (.iload_n 2, 1) := by decide +kernel
theorem dX11_parts_3 : decode cX11_parts 3 = .ok (.iload_n 3, 1) := by decide +kernel
theorem dX11_parts_4 : decode cX11_parts 4 = .ok (.invokevirtual 232, 3) := by decide +kernel
theorem dX11_parts_7 : decode cX11_parts 7 = .ok (.ifCond .eq 8, 3) := by decide +kernel
theorem dX11_parts_10 : decode cX11_parts 10 = .ok (.iload 4, 2) := by decide +kernel
theorem dX11_parts_12 : decode cX11_parts 12 = .ok (.ifCond .ge 10, 3) := by decide +kernel
theorem dX11_parts_15 : decode cX11_parts 15 = .ok (.aload_n 0, 1) := by decide +kernel
theorem dX11_parts_16 : decode cX11_parts 16 = .ok (.bipush (-10), 2) := by decide +kernel
theorem dX11_parts_18 : decode cX11_parts 18 = .ok (.invokevirtual 103, 3) := by decide +kernel
theorem dX11_parts_21 : decode cX11_parts 21 = .ok (.ireturn, 1) := by decide +kernel
theorem dX11_parts_22 : decode cX11_parts 22 = .ok (.aload_n 0, 1) := by decide +kernel
theorem dX11_parts_23 : decode cX11_parts 23 = .ok (.iload_n 3, 1) := by decide +kernel
theorem dX11_parts_24 : decode cX11_parts 24 = .ok (.invokevirtual 139, 3) := by decide +kernel
theorem dX11_parts_27 : decode cX11_parts 27 = .ok (.aload_n 0, 1) := by decide +kernel
theorem dX11_parts_28 : decode cX11_parts 28 = .ok (.iload_n 1, 1) := by decide +kernel
theorem dX11_parts_29 : decode cX11_parts 29 = .ok (.iload_n 2, 1) := by decide +kernel
theorem dX11_parts_30 : decode cX11_parts 30 = .ok (.invokevirtual 235, 3) := by decide +kernel
theorem dX11_parts_33 : decode cX11_parts 33 = .ok (.aload_n 0, 1) := by decide +kernel
theorem dX11_parts_34 : decode cX11_parts 34 = .ok (.iload_n 1, 1) := by decide +kernel
theorem dX11_parts_35 : decode cX11_parts 35 = .ok (.invokevirtual 239, 3) := by decide +kernel
theorem dX11_parts_38 : decode cX11_parts 38 = .ok (.iload 4, 2) := by decide +kernel
theorem dX11_parts_40 : decode cX11_parts 40 = .ok (.aload_n 0, 1) := by decide +kernel
theorem dX11_parts_41 : decode cX11_parts 41 = .ok (.getfield 226, 3) := by decide +kernel
theorem dX11_parts_44 : decode cX11_parts 44 = .ok (.if_icmp .ge 13, 3) := by decide +kernel
theorem dX11_parts_47 : decode cX11_parts 47 = .ok (.aload_n 0, 1) := by decide +kernel
theorem dX11_parts_48 : decode cX11_parts 48 = .ok (.getfield 45, 3) := by decide +kernel
theorem dX11_parts_51 : decode cX11_parts 51 = .ok (.iload 4, 2) := by decide +kernel
theorem dX11_parts_53 : decode cX11_parts 53 = .ok (.iaload, 1) := by decide +kernel
theorem dX11_parts_54 : decode cX11_parts 54 = .ok (.goto 5, 3) := by decide +kernel
theorem dX11_parts_57 : decode cX11_parts 57 = .ok (.bipush (-5), 2) := by decide +kernel
theorem dX11_parts_59 : decode cX11_parts 59 = .ok (.ireturn, 1) := by decide +kernel
theorem dX11_lent_0 : decode cX11_lent 0 = .ok (.aload_n 0, 1) := by decide +kernel
theorem dX11_lent_1 : decode cX11_lent 1 = .ok (.iload_n 1, 1) := by decide +kernel
theorem dX11_lent_2 : decode cX11_lent 2 = .ok (.iload_n 2, 1) := by decide +kernel
theorem dX11_lent_3 : decode cX11_lent 3 = .ok (.iload_n 3, 1) := by decide +kernel
theorem dX11_lent_4 : decode cX11_lent 4 = .ok (.invokevirtual 232, 3) := by decide +kernel
theorem dX11_lent_7 : decode cX11_lent 7 = .ok (.ifCond .ne 10, 3) := by decide +kernel
theorem dX11_lent_10 : decode cX11_lent 10 = .ok (.aload_n 0, 1) := by decide +kernel
theorem dX11_lent_11 : decode cX11_lent 11 = .ok (.bipush (-2), 2) := by decide +kernel
theorem dX11_lent_13 : decode cX11_lent 13 = .ok (.invokevirtual 103, 3) := by decide +kernel
theorem dX11_lent_16 : decode cX11_lent 16 = .ok (.ireturn, 1) := by decide +kernel
theorem dX11_lent_17 : decode cX11_lent 17 = .ok (.aload_n 0, 1) := by decide +kernel
theorem dX11_lent_18 : decode cX11_lent 18 = .ok (.iload_n 3, 1) := by decide +kernel
theorem dX11_lent_19 : decode cX11_lent 19 = .ok (.invokevirtual 139, 3) := by decide +kernel
theorem dX11_lent_22 : decode cX11_lent 22 = .ok (.iconst (-1), 1) := by decide +kernel
theorem dX11_lent_23 : decode cX11_lent 23 = .ok (.istore 4, 2) := by decide +kernel
theorem dX11_lent_25 : decode cX11_lent 25 = .ok (.iconst 0, 1) := by decide +kernel
theorem dX11_lent_26 : decode cX11_lent 26 = .ok (.istore 5, 2) := by decide +kernel
theorem dX11_lent_28 : decode cX11_lent 28 = .ok (.iload 5, 2) := by decide +kernel
theorem dX11_lent_30 : decode cX11_lent 30 = .ok (.iconst 1, 1) := by decide +kernel
theorem dX11_lent_31 : decode cX11_lent 31 = .ok (.aload_n 0, 1) := by decide +kernel
theorem dX11_lent_32 : decode cX11_lent 32 = .ok (.getfield 7, 3) := by decide +kernel
theorem dX11_lent_35 : decode cX11_lent 35 = .ok (.iconst 0, 1) := by decide +kernel
theorem dX11_lent_36 : decode cX11_lent 36 = .ok (.iaload, 1) := by decide +kernel
theorem dX11_lent_37 : decode cX11_lent 37 = .ok (.ishl, 1) := by decide +kernel
theorem dX11_lent_38 : decode cX11_lent 38 = .ok (.if_icmp .ge 74, 3) := by decide +kernel
theorem dX11_lent_41 : decode cX11_lent 41 = .ok (.iload 5, 2) := by decide +kernel
theorem dX11_lent_43 : decode cX11_lent 43 = .ok (.iload_n 1, 1) := by decide +kernel
theorem dX11_lent_44 : decode cX11_lent 44 = .ok (.iand, 1) := by decide +kernel
theorem dX11_lent_45 : decode cX11_lent 45 = .ok (.ifCond .ne 44, 3) := by decide +kernel
theorem dX11_lent_48 : decode cX11_lent 48 = .ok (.iload 5, 2) := by decide +kernel
theorem dX11_lent_50 : decode cX11_lent 50 = .ok (.iload_n 1, 1) := by decide +kernel
theorem dX11_lent_51 : decode cX11_lent 51 = .ok (.ior, 1) := by decide +kernel
theorem dX11_lent_52 : decode cX11_lent 52 = .ok (.ifCond .eq 37, 3) := by decide +kernel
theorem dX11_lent_55 : decode cX11_lent 55 = .ok (.iload 4, 2) := by decide +kernel
theorem dX11_lent_57 : decode cX11_lent 57 = .ok (.ifCond .lt 16, 3) := by decide +kernel
theorem dX11_lent_60 : decode cX11_lent 60 = .ok (.iload 5, 2) := by decide +kernel
theorem dX11_lent_62 : decode cX11_lent 62 = .ok (.invokestatic 142, 3) := by decide +kernel
theorem dX11_lent_65 : decode cX11_lent 65 = .ok (.iload 4, 2) := by decide +kernel
theorem dX11_lent_67 : decode cX11_lent 67 = .ok (.invokestatic 142, 3) := by decide +kernel
theorem dX11_lent_70 : decode cX11_lent 70 = .ok (.if_icmp .ge 19, 3) := by decide +kernel
theorem dX11_lent_73 : decode cX11_lent 73 = .ok (.aload_n 0, 1) := by decide +kernel
theorem dX11_lent_74 : decode cX11_lent 74 = .ok (.iload_n 1, 1) := by decide +kernel
theorem dX11_lent_75 : decode cX11_lent 75 = .ok (.iload 5, 2) := by decide +kernel
theorem dX11_lent_77 : decode cX11_lent 77 = .ok (.ior, 1) := by decide +kernel
theorem dX11_lent_78 : decode cX11_lent 78 = .ok (.iload_n 2, 1) := by decide +kernel
theorem dX11_lent_79 : decode cX11_lent 79 = .ok (.invokevirtual 154, 3) := by decide +kernel
theorem dX11_lent_82 : decode cX11_lent 82 = .ok (.ifCond .ne 7, 3) := by decide +kernel
theorem dX11_lent_85 : decode cX11_lent 85 = .ok (.iconst 1, 1) := by decide +kernel
theorem dX11_lent_86 : decode cX11_lent 86 = .ok (.goto 4, 3) := by decide +kernel
theorem dX11_lent_89 : decode cX11_lent 89 = .ok (.iconst 0, 1) := by decide +kernel
theorem dX11_lent_90 : decode cX11_lent 90 = .ok (.istore 6, 2) := by decide +kernel
theorem dX11_lent_92 : decode cX11_lent 92 = .ok (.iload 6, 2) := by decide +kernel
theorem dX11_lent_94 : decode cX11_lent 94 = .ok (.ifCond .eq 8, 3) := by decide +kernel
theorem dX11_lent_97 : decode cX11_lent 97 = .ok (.iload 5, 2) := by decide +kernel
theorem dX11_lent_99 : decode cX11_lent 99 = .ok (.goto 5, 3) := by decide +kernel
theorem dX11_lent_102 : decode cX11_lent 102 = .ok (.iload 4, 2) := by decide +kernel
theorem dX11_lent_104 : decode cX11_lent 104 = .ok (.istore 4, 2) := by decide +kernel
theorem dX11_lent_106 : decode cX11_lent 106 = .ok (.iinc 5 1, 3) := by decide +kernel
theorem dX11_lent_109 : decode cX11_lent 109 = .ok (.goto (-81), 3) := by decide +kernel
theorem dX11_lent_112 : decode cX11_lent 112 = .ok (.iload 4, 2) := by decide +kernel
theorem dX11_lent_114 : decode cX11_lent 114 = .ok (.ireturn, 1) := by decide +kernel
theorem dX11_worth_0 : decode cX11_worth 0 = .ok (.aload_n 0, 1) := by decide +kernel
theorem dX11_worth_1 : decode cX11_worth 1 = .ok (.iload_n 1, 1) := by decide +kernel
theorem dX11_worth_2 : decode cX11_worth 2 = .ok (.invokevirtual 123, 3) := by decide +kernel
theorem dX11_worth_5 : decode cX11_worth 5 = .ok (.ifCond .eq 18, 3) := by decide +kernel
theorem dX11_worth_8 : decode cX11_worth 8 = .ok (.aload_n 0, 1) := by decide +kernel
theorem dX11_worth_9 : decode cX11_worth 9 = .ok (.iload_n 2, 1) := by decide +kernel
theorem dX11_worth_10 : decode cX11_worth 10 = .ok (.invokevirtual 151, 3) := by decide +kernel
theorem dX11_worth_13 : decode cX11_worth 13 = .ok (.ifCond .eq 10, 3) := by decide +kernel
theorem dX11_worth_16 : decode cX11_worth 16 = .ok (.iload_n 3, 1) := by decide +kernel
theorem dX11_worth_17 : decode cX11_worth 17 = .ok (.invokestatic 106, 3) := by decide +kernel
theorem dX11_worth_20 : decode cX11_worth 20 = .ok (.ifCond .ne 10, 3) := by decide +kernel
theorem dX11_worth_23 : decode cX11_worth 23 = .ok (.aload_n 0, 1) := by decide +kernel
theorem dX11_worth_24 : decode cX11_worth 24 = .ok (.bipush (-2), 2) := by decide +kernel
theorem dX11_worth_26 : decode cX11_worth 26 = .ok (.invokevirtual 103, 3) := by decide +kernel
theorem dX11_worth_29 : decode cX11_worth 29 = .ok (.ireturn, 1) := by decide +kernel
theorem dX11_worth_30 : decode cX11_worth 30 = .ok (.aload_n 0, 1) := by decide +kernel
theorem dX11_worth_31 : decode cX11_worth 31 = .ok (.iload_n 3, 1) := by decide +kernel
theorem dX11_worth_32 : decode cX11_worth 32 = .ok (.invokevirtual 139, 3) := by decide +kernel
theorem dX11_worth_35 : decode cX11_worth 35 = .ok (.iconst 0, 1) := by decide +kernel
theorem dX11_worth_36 : decode cX11_worth 36 = .ok (.istore 4, 2) := by decide +kernel
theorem dX11_worth_38 : decode cX11_worth 38 = .ok (.iconst 1, 1) := by decide +kernel
theorem dX11_worth_39 : decode cX11_worth 39 = .ok (.istore 5, 2) := by decide +kernel
theorem dX11_worth_41 : decode cX11_worth 41 = .ok (.iload 5, 2) := by decide +kernel
theorem dX11_worth_43 : decode cX11_worth 43 = .ok (.iconst 1, 1) := by decide +kernel
theorem dX11_worth_44 : decode cX11_worth 44 = .ok (.aload_n 0, 1) := by decide +kernel
theorem dX11_worth_45 : decode cX11_worth 45 = .ok (.getfield 7, 3) := by decide +kernel
theorem dX11_worth_48 : decode cX11_worth 48 = .ok (.iconst 0, 1) := by decide +kernel
theorem dX11_worth_49 : decode cX11_worth 49 = .ok (.iaload, 1) := by decide +kernel
theorem dX11_worth_50 : decode cX11_worth 50 = .ok (.ishl, 1) := by decide +kernel
theorem dX11_worth_51 : decode cX11_worth 51 = .ok (.if_icmp .ge 38, 3) := by decide +kernel
theorem dX11_worth_54 : decode cX11_worth 54 = .ok (.iload 4, 2) := by decide +kernel
theorem dX11_worth_56 : decode cX11_worth 56 = .ok (.iload 5, 2) := by decide +kernel
theorem dX11_worth_58 : decode cX11_worth 58 = .ok (.iload_n 1, 1) := by decide +kernel
theorem dX11_worth_59 : decode cX11_worth 59 = .ok (.invokestatic 126, 3) := by decide +kernel
theorem dX11_worth_62 : decode cX11_worth 62 = .ok (.ifCond .eq 17, 3) := by decide +kernel
theorem dX11_worth_65 : decode cX11_worth 65 = .ok (.aload_n 0, 1) := by decide +kernel
theorem dX11_worth_66 : decode cX11_worth 66 = .ok (.iload 5, 2) := by decide +kernel
theorem dX11_worth_68 : decode cX11_worth 68 = .ok (.iload_n 2, 1) := by decide +kernel
theorem dX11_worth_69 : decode cX11_worth 69 = .ok (.invokevirtual 154, 3) := by decide +kernel
theorem dX11_worth_72 : decode cX11_worth 72 = .ok (.ifCond .ne 7, 3) := by decide +kernel
theorem dX11_worth_75 : decode cX11_worth 75 = .ok (.iconst 1, 1) := by decide +kernel
theorem dX11_worth_76 : decode cX11_worth 76 = .ok (.goto 4, 3) := by decide +kernel
theorem dX11_worth_79 : decode cX11_worth 79 = .ok (.iconst 0, 1) := by decide +kernel
theorem dX11_worth_80 : decode cX11_worth 80 = .ok (.iadd, 1) := by decide +kernel
theorem dX11_worth_81 : decode cX11_worth 81 = .ok (.istore 4, 2) := by decide +kernel
theorem dX11_worth_83 : decode cX11_worth 83 = .ok (.iinc 5 1, 3) := by decide +kernel
theorem dX11_worth_86 : decode cX11_worth 86 = .ok (.goto (-45), 3) := by decide +kernel
theorem dX11_worth_89 : decode cX11_worth 89 = .ok (.iload 4, 2) := by decide +kernel
theorem dX11_worth_91 : decode cX11_worth 91 = .ok (.ireturn, 1) := by decide +kernel
theorem dX11_dates_0 : decode cX11_dates 0 = .ok (.aload_n 0, 1) := by decide +kernel
theorem dX11_dates_1 : decode cX11_dates 1 = .ok (.iload_n 1, 1) := by decide +kernel
theorem dX11_dates_2 : decode cX11_dates 2 = .ok (.invokevirtual 148, 3) := by decide +kernel
theorem dX11_dates_5 : decode cX11_dates 5 = .ok (.ifCond .eq 25, 3) := by decide +kernel
theorem dX11_dates_8 : decode cX11_dates 8 = .ok (.aload_n 0, 1) := by decide +kernel
theorem dX11_dates_9 : decode cX11_dates 9 = .ok (.iload_n 2, 1) := by decide +kernel
theorem dX11_dates_10 : decode cX11_dates 10 = .ok (.invokevirtual 151, 3) := by decide +kernel
theorem dX11_dates_13 : decode cX11_dates 13 = .ok (.ifCond .eq 17, 3) := by decide +kernel
theorem dX11_dates_16 : decode cX11_dates 16 = .ok (.iload_n 3, 1) := by decide +kernel
theorem dX11_dates_17 : decode cX11_dates 17 = .ok (.i2l, 1) := by decide +kernel
theorem dX11_dates_18 : decode cX11_dates 18 = .ok (.ldc2_w 62, 3) := by decide +kernel
theorem dX11_dates_21 : decode cX11_dates 21 = .ok (.ldc2_w 64, 3) := by decide +kernel
theorem dX11_dates_24 : decode cX11_dates 24 = .ok (.invokestatic 66, 3) := by decide +kernel
theorem dX11_dates_27 : decode cX11_dates 27 = .ok (.ifCond .ne 10, 3) := by decide +kernel
theorem dX11_dates_30 : decode cX11_dates 30 = .ok (.aload_n 0, 1) := by decide +kernel
theorem dX11_dates_31 : decode cX11_dates 31 = .ok (.bipush (-2), 2) := by decide +kernel
theorem dX11_dates_33 : decode cX11_dates 33 = .ok (.invokevirtual 103, 3) := by decide +kernel
theorem dX11_dates_36 : decode cX11_dates 36 = .ok (.ireturn, 1) := by decide +kernel
theorem dX11_dates_37 : decode cX11_dates 37 = .ok (.aload_n 0, 1) := by decide +kernel
theorem dX11_dates_38 : decode cX11_dates 38 = .ok (.invokevirtual 133, 3) := by decide +kernel
theorem dX11_dates_41 : decode cX11_dates 41 = .ok (.iconst 0, 1) := by decide +kernel
theorem dX11_dates_42 : decode cX11_dates 42 = .ok (.istore 4, 2) := by decide +kernel
theorem dX11_dates_44 : decode cX11_dates 44 = .ok (.iload_n 3, 1) := by decide +kernel
theorem dX11_dates_45 : decode cX11_dates 45 = .ok (.invokestatic 76, 3) := by decide +kernel
theorem dX11_dates_48 : decode cX11_dates 48 = .ok (.iload_n 3, 1) := by decide +kernel
theorem dX11_dates_49 : decode cX11_dates 49 = .ok (.invokestatic 58, 3) := by decide +kernel
theorem dX11_dates_52 : decode cX11_dates 52 = .ok (.ifCond .eq 9, 3) := by decide +kernel
theorem dX11_dates_55 : decode cX11_dates 55 = .ok (.sipush 366, 3) := by decide +kernel
theorem dX11_dates_58 : decode cX11_dates 58 = .ok (.goto 6, 3) := by decide +kernel
theorem dX11_dates_61 : decode cX11_dates 61 = .ok (.sipush 365, 3) := by decide +kernel
theorem dX11_dates_64 : decode cX11_dates 64 = .ok (.iadd, 1) := by decide +kernel
theorem dX11_dates_65 : decode cX11_dates 65 = .ok (.istore 5, 2) := by decide +kernel
theorem dX11_dates_67 : decode cX11_dates 67 = .ok (.iload_n 3, 1) := by decide +kernel
theorem dX11_dates_68 : decode cX11_dates 68 = .ok (.invokestatic 76, 3) := by decide +kernel
theorem dX11_dates_71 : decode cX11_dates 71 = .ok (.istore 6, 2) := by decide +kernel
theorem dX11_dates_73 : decode cX11_dates 73 = .ok (.iload 6, 2) := by decide +kernel
theorem dX11_dates_75 : decode cX11_dates 75 = .ok (.iload 5, 2) := by decide +kernel
theorem dX11_dates_77 : decode cX11_dates 77 = .ok (.if_icmp .ge 34, 3) := by decide +kernel
theorem dX11_dates_80 : decode cX11_dates 80 = .ok (.aload_n 0, 1) := by decide +kernel
theorem dX11_dates_81 : decode cX11_dates 81 = .ok (.iload 6, 2) := by decide +kernel
theorem dX11_dates_83 : decode cX11_dates 83 = .ok (.invokevirtual 136, 3) := by decide +kernel
theorem dX11_dates_86 : decode cX11_dates 86 = .ok (.iload 4, 2) := by decide +kernel
theorem dX11_dates_88 : decode cX11_dates 88 = .ok (.aload_n 0, 1) := by decide +kernel
theorem dX11_dates_89 : decode cX11_dates 89 = .ok (.iload_n 1, 1) := by decide +kernel
theorem dX11_dates_90 : decode cX11_dates 90 = .ok (.iload_n 2, 1) := by decide +kernel
theorem dX11_dates_91 : decode cX11_dates 91 = .ok (.invokevirtual 154, 3) := by decide +kernel
theorem dX11_dates_94 : decode cX11_dates 94 = .ok (.ifCond .ne 7, 3) := by decide +kernel
theorem dX11_dates_97 : decode cX11_dates 97 = .ok (.iconst 1, 1) := by decide +kernel
theorem dX11_dates_98 : decode cX11_dates 98 = .ok (.goto 4, 3) := by decide +kernel
theorem dX11_dates_101 : decode cX11_dates 101 = .ok (.iconst 0, 1) := by decide +kernel
theorem dX11_dates_102 : decode cX11_dates 102 = .ok (.iadd, 1) := by decide +kernel
theorem dX11_dates_103 : decode cX11_dates 103 = .ok (.istore 4, 2) := by decide +kernel
theorem dX11_dates_105 : decode cX11_dates 105 = .ok (.iinc 6 1, 3) := by decide +kernel
theorem dX11_dates_108 : decode cX11_dates 108 = .ok (.goto (-35), 3) := by decide +kernel
theorem dX11_dates_111 : decode cX11_dates 111 = .ok (.iload 4, 2) := by decide +kernel
theorem dX11_dates_113 : decode cX11_dates 113 = .ok (.ireturn, 1) := by decide +kernel
theorem dX11_next_0 : decode cX11_next 0 = .ok (.aload_n 0, 1) := by decide +kernel
theorem dX11_next_1 : decode cX11_next 1 = .ok (.iload_n 1, 1) := by decide +kernel
theorem dX11_next_2 : decode cX11_next 2 = .ok (.invokevirtual 148, 3) := by decide +kernel
theorem dX11_next_5 : decode cX11_next 5 = .ok (.ifCond .eq 13, 3) := by decide +kernel
theorem dX11_next_8 : decode cX11_next 8 = .ok (.aload_n 0, 1) := by decide +kernel
theorem dX11_next_9 : decode cX11_next 9 = .ok (.iload_n 1, 1) := by decide +kernel
theorem dX11_next_10 : decode cX11_next 10 = .ok (.iload_n 2, 1) := by decide +kernel
theorem dX11_next_11 : decode cX11_next 11 = .ok (.iload_n 3, 1) := by decide +kernel
theorem dX11_next_12 : decode cX11_next 12 = .ok (.invokevirtual 232, 3) := by decide +kernel
theorem dX11_next_15 : decode cX11_next 15 = .ok (.ifCond .ne 10, 3) := by decide +kernel
theorem dX11_next_18 : decode cX11_next 18 = .ok (.aload_n 0, 1) := by decide +kernel
theorem dX11_next_19 : decode cX11_next 19 = .ok (.bipush (-2), 2) := by decide +kernel
theorem dX11_next_21 : decode cX11_next 21 = .ok (.invokevirtual 103, 3) := by decide +kernel
theorem dX11_next_24 : decode cX11_next 24 = .ok (.ireturn, 1) := by decide +kernel
theorem dX11_next_25 : decode cX11_next 25 = .ok (.aload_n 0, 1) := by decide +kernel
theorem dX11_next_26 : decode cX11_next 26 = .ok (.invokevirtual 133, 3) := by decide +kernel
theorem dX11_next_29 : decode cX11_next 29 = .ok (.iload_n 3, 1) := by decide +kernel
theorem dX11_next_30 : decode cX11_next 30 = .ok (.istore 4, 2) := by decide +kernel
theorem dX11_next_32 : decode cX11_next 32 = .ok (.iload 4, 2) := by decide +kernel
theorem dX11_next_34 : decode cX11_next 34 = .ok (.ldc 242, 2) := by decide +kernel
theorem dX11_next_36 : decode cX11_next 36 = .ok (.if_icmp .ge 27, 3) := by decide +kernel
theorem dX11_next_39 : decode cX11_next 39 = .ok (.aload_n 0, 1) := by decide +kernel
theorem dX11_next_40 : decode cX11_next 40 = .ok (.iload 4, 2) := by decide +kernel
theorem dX11_next_42 : decode cX11_next 42 = .ok (.invokevirtual 136, 3) := by decide +kernel
theorem dX11_next_45 : decode cX11_next 45 = .ok (.aload_n 0, 1) := by decide +kernel
theorem dX11_next_46 : decode cX11_next 46 = .ok (.iload_n 1, 1) := by decide +kernel
theorem dX11_next_47 : decode cX11_next 47 = .ok (.iload_n 2, 1) := by decide +kernel
theorem dX11_next_48 : decode cX11_next 48 = .ok (.invokevirtual 154, 3) := by decide +kernel
theorem dX11_next_51 : decode cX11_next 51 = .ok (.ifCond .ne 6, 3) := by decide +kernel
theorem dX11_next_54 : decode cX11_next 54 = .ok (.iload 4, 2) := by decide +kernel
theorem dX11_next_56 : decode cX11_next 56 = .ok (.ireturn, 1) := by decide +kernel
theorem dX11_next_57 : decode cX11_next 57 = .ok (.iinc 4 1, 3) := by decide +kernel
theorem dX11_next_60 : decode cX11_next 60 = .ok (.goto (-28), 3) := by decide +kernel
theorem dX11_next_63 : decode cX11_next 63 = .ok (.iconst (-1), 1) := by decide +kernel
theorem dX11_next_64 : decode cX11_next 64 = .ok (.ireturn, 1) := by decide +kernel
theorem dX11_areOther_0 : decode cX11_areOther 0 = .ok (.iconst 0, 1) := by decide +kernel
theorem dX11_areOther_1 : decode cX11_areOther 1 = .ok (.istore_n 1, 1) := by decide +kernel
theorem dX11_areOther_2 : decode cX11_areOther 2 = .ok (.iconst 0, 1) := by decide +kernel
theorem dX11_areOther_3 : decode cX11_areOther 3 = .ok (.istore_n 2, 1) := by decide +kernel
theorem dX11_areOther_4 : decode cX11_areOther 4 = .ok (.iload_n 2, 1) := by decide +kernel
theorem dX11_areOther_5 : decode cX11_areOther 5 = .ok (.aload_n 0, 1) := by decide +kernel
theorem dX11_areOther_6 : decode cX11_areOther 6 = .ok (.getfield 7, 3) := by decide +kernel
theorem dX11_areOther_9 : decode cX11_areOther 9 = .ok (.iconst 0, 1) := by decide +kernel
theorem dX11_areOther_10 : decode cX11_areOther 10 = .ok (.iaload, 1) := by decide +kernel
theorem dX11_areOther_11 : decode cX11_areOther 11 = .ok (.if_icmp .ge 46, 3) := by decide +kernel
theorem dX11_areOther_14 : decode cX11_areOther 14 = .ok (.iload_n 1, 1) := by decide +kernel
theorem dX11_areOther_15 : decode cX11_areOther 15 = .ok (.ifCond .ne 18, 3) := by decide +kernel
theorem dX11_areOther_18 : decode cX11_areOther 18 = .ok (.aload_n 0, 1) := by decide +kernel
theorem dX11_areOther_19 : decode cX11_areOther 19 = .ok (.getfield 32, 3) := by decide +kernel
theorem dX11_areOther_22 : decode cX11_areOther 22 = .ok (.iload_n 2, 1) := by decide +kernel
theorem dX11_areOther_23 : decode cX11_areOther 23 = .ok (.iaload, 1) := by decide +kernel
theorem dX11_areOther_24 : decode cX11_areOther 24 = .ok (.aload_n 0, 1) := by decide +kernel
theorem dX11_areOther_25 : decode cX11_areOther 25 = .ok (.getfield 48, 3) := by decide +kernel
theorem dX11_areOther_28 : decode cX11_areOther 28 = .ok (.iload_n 2, 1) := by decide +kernel
theorem dX11_areOther_29 : decode cX11_areOther 29 = .ok (.iaload, 1) := by decide +kernel
theorem dX11_areOther_30 : decode cX11_areOther 30 = .ok (.if_icmp .eq 7, 3) := by decide +kernel
theorem dX11_areOther_33 : decode cX11_areOther 33 = .ok (.iconst 1, 1) := by decide +kernel
theorem dX11_areOther_34 : decode cX11_areOther 34 = .ok (.goto 4, 3) := by decide +kernel
theorem dX11_areOther_37 : decode cX11_areOther 37 = .ok (.iconst 0, 1) := by decide +kernel
theorem dX11_areOther_38 : decode cX11_areOther 38 = .ok (.istore_n 1, 1) := by decide +kernel
theorem dX11_areOther_39 : decode cX11_areOther 39 = .ok (.aload_n 0, 1) := by decide +kernel
theorem dX11_areOther_40 : decode cX11_areOther 40 = .ok (.getfield 48, 3) := by decide +kernel
theorem dX11_areOther_43 : decode cX11_areOther 43 = .ok (.iload_n 2, 1) := by decide +kernel
theorem dX11_areOther_44 : decode cX11_areOther 44 = .ok (.aload_n 0, 1) := by decide +kernel
theorem dX11_areOther_45 : decode cX11_areOther 45 = .ok (.getfield 32, 3) := by decide +kernel
theorem dX11_areOther_48 : decode cX11_areOther 48 = .ok (.iload_n 2, 1) := by decide +kernel
theorem dX11_areOther_49 : decode cX11_areOther 49 = .ok (.iaload, 1) := by decide +kernel
theorem dX11_areOther_50 : decode cX11_areOther 50 = .ok (.iastore, 1) := by decide +kernel
theorem dX11_areOther_51 : decode cX11_areOther 51 = .ok (.iinc 2 1, 3) := by decide +kernel
theorem dX11_areOther_54 : decode cX11_areOther 54 = .ok (.goto (-50), 3) := by decide +kernel
theorem dX11_areOther_57 : decode cX11_areOther 57 = .ok (.iload_n 1, 1) := by decide +kernel
theorem dX11_areOther_58 : decode cX11_areOther 58 = .ok (.ireturn, 1) := by decide +kernel
theorem dX11_leavesNobody_0 : decode cX11_leavesNobody 0 = .ok (.aload_n 0, 1) := by decide +kernel
theorem dX11_leavesNobody_1 : decode cX11_leavesNobody 1 = .ok (.iload_n 1, 1) := by decide +kernel
theorem dX11_leavesNobody_2 : decode cX11_leavesNobody 2 = .ok (.iload_n 2, 1) := by decide +kernel
theorem dX11_leavesNobody_3 : decode cX11_leavesNobody 3 = .ok (.invokevirtual 235, 3) := by decide +kernel
theorem dX11_leavesNobody_6 : decode cX11_leavesNobody 6 = .ok (.aload_n 0, 1) := by decide +kernel
theorem dX11_leavesNobody_7 : decode cX11_leavesNobody 7 = .ok (.getfield 42, 3) := by decide +kernel
theorem dX11_leavesNobody_10 : decode cX11_leavesNobody 10 = .ok (.iload_n 1, 1) := by decide +kernel
theorem dX11_leavesNobody_11 : decode cX11_leavesNobody 11 = .ok (.iaload, 1) := by decide +kernel
theorem dX11_leavesNobody_12 : decode cX11_leavesNobody 12 = .ok (.bipush 16, 2) := by decide +kernel
theorem dX11_leavesNobody_14 : decode cX11_leavesNobody 14 = .ok (.if_icmp .ge 7, 3) := by decide +kernel
theorem dX11_leavesNobody_17 : decode cX11_leavesNobody 17 = .ok (.iconst 1, 1) := by decide +kernel
theorem dX11_leavesNobody_18 : decode cX11_leavesNobody 18 = .ok (.goto 4, 3) := by decide +kernel
theorem dX11_leavesNobody_21 : decode cX11_leavesNobody 21 = .ok (.iconst 0, 1) := by decide +kernel
theorem dX11_leavesNobody_22 : decode cX11_leavesNobody 22 = .ok (.ireturn, 1) := by decide +kernel
theorem dX11_wedding_0 : decode cX11_wedding 0 = .ok (.aload_n 0, 1) := by decide +kernel
theorem dX11_wedding_1 : decode cX11_wedding 1 = .ok (.iload_n 1, 1) := by decide +kernel
theorem dX11_wedding_2 : decode cX11_wedding 2 = .ok (.iload_n 3, 1) := by decide +kernel
theorem dX11_wedding_3 : decode cX11_wedding 3 = .ok (.iload 4, 2) := by decide +kernel
theorem dX11_wedding_5 : decode cX11_wedding 5 = .ok (.invokevirtual 232, 3) := by decide +kernel
theorem dX11_wedding_8 : decode cX11_wedding 8 = .ok (.ifCond .eq 17, 3) := by decide +kernel
theorem dX11_wedding_11 : decode cX11_wedding 11 = .ok (.aload_n 0, 1) := by decide +kernel
theorem dX11_wedding_12 : decode cX11_wedding 12 = .ok (.iload_n 2, 1) := by decide +kernel
theorem dX11_wedding_13 : decode cX11_wedding 13 = .ok (.invokevirtual 229, 3) := by decide +kernel
theorem dX11_wedding_16 : decode cX11_wedding 16 = .ok (.ifCond .eq 9, 3) := by decide +kernel
theorem dX11_wedding_19 : decode cX11_wedding 19 = .ok (.iload_n 1, 1) := by decide +kernel
theorem dX11_wedding_20 : decode cX11_wedding 20 = .ok (.iload_n 2, 1) := by decide +kernel
theorem dX11_wedding_21 : decode cX11_wedding 21 = .ok (.iand, 1) := by decide +kernel
theorem dX11_wedding_22 : decode cX11_wedding 22 = .ok (.ifCond .eq 10, 3) := by decide +kernel
theorem dX11_wedding_25 : decode cX11_wedding 25 = .ok (.aload_n 0, 1) := by decide +kernel
theorem dX11_wedding_26 : decode cX11_wedding 26 = .ok (.bipush (-2), 2) := by decide +kernel
theorem dX11_wedding_28 : decode cX11_wedding 28 = .ok (.invokevirtual 103, 3) := by decide +kernel
theorem dX11_wedding_31 : decode cX11_wedding 31 = .ok (.ireturn, 1) := by decide +kernel
theorem dX11_wedding_32 : decode cX11_wedding 32 = .ok (.aload_n 0, 1) := by decide +kernel
theorem dX11_wedding_33 : decode cX11_wedding 33 = .ok (.invokevirtual 133, 3) := by decide +kernel
theorem dX11_wedding_36 : decode cX11_wedding 36 = .ok (.iload 4, 2) := by decide +kernel
theorem dX11_wedding_38 : decode cX11_wedding 38 = .ok (.istore 5, 2) := by decide +kernel
theorem dX11_wedding_40 : decode cX11_wedding 40 = .ok (.iload 5, 2) := by decide +kernel
theorem dX11_wedding_42 : decode cX11_wedding 42 = .ok (.iload 4, 2) := by decide +kernel
theorem dX11_wedding_44 : decode cX11_wedding 44 = .ok (.sipush 1500, 3) := by decide +kernel
theorem dX11_wedding_47 : decode cX11_wedding 47 = .ok (.iadd, 1) := by decide +kernel
theorem dX11_wedding_48 : decode cX11_wedding 48 = .ok (.if_icmp .gt 69, 3) := by decide +kernel
theorem dX11_wedding_51 : decode cX11_wedding 51 = .ok (.iload 5, 2) := by decide +kernel
theorem dX11_wedding_53 : decode cX11_wedding 53 = .ok (.ldc 242, 2) := by decide +kernel
theorem dX11_wedding_55 : decode cX11_wedding 55 = .ok (.if_icmp .ge 62, 3) := by decide +kernel
theorem dX11_wedding_58 : decode cX11_wedding 58 = .ok (.aload_n 0, 1) := by decide +kernel
theorem dX11_wedding_59 : decode cX11_wedding 59 = .ok (.iload 5, 2) := by decide +kernel
theorem dX11_wedding_61 : decode cX11_wedding 61 = .ok (.invokevirtual 136, 3) := by decide +kernel
theorem dX11_wedding_64 : decode cX11_wedding 64 = .ok (.aload_n 0, 1) := by decide +kernel
theorem dX11_wedding_65 : decode cX11_wedding 65 = .ok (.invokevirtual 243, 3) := by decide +kernel
theorem dX11_wedding_68 : decode cX11_wedding 68 = .ok (.ifCond .ne 10, 3) := by decide +kernel
theorem dX11_wedding_71 : decode cX11_wedding 71 = .ok (.iload 5, 2) := by decide +kernel
theorem dX11_wedding_73 : decode cX11_wedding 73 = .ok (.iload 4, 2) := by decide +kernel
theorem dX11_wedding_75 : decode cX11_wedding 75 = .ok (.if_icmp .ne 7, 3) := by decide +kernel
theorem dX11_wedding_78 : decode cX11_wedding 78 = .ok (.iconst 1, 1) := by decide +kernel
theorem dX11_wedding_79 : decode cX11_wedding 79 = .ok (.goto 4, 3) := by decide +kernel
theorem dX11_wedding_82 : decode cX11_wedding 82 = .ok (.iconst 0, 1) := by decide +kernel
theorem dX11_wedding_83 : decode cX11_wedding 83 = .ok (.istore 6, 2) := by decide +kernel
theorem dX11_wedding_85 : decode cX11_wedding 85 = .ok (.iload 6, 2) := by decide +kernel
theorem dX11_wedding_87 : decode cX11_wedding 87 = .ok (.ifCond .eq 24, 3) := by decide +kernel
theorem dX11_wedding_90 : decode cX11_wedding 90 = .ok (.aload_n 0, 1) := by decide +kernel
theorem dX11_wedding_91 : decode cX11_wedding 91 = .ok (.iload_n 1, 1) := by decide +kernel
theorem dX11_wedding_92 : decode cX11_wedding 92 = .ok (.iload_n 3, 1) := by decide +kernel
theorem dX11_wedding_93 : decode cX11_wedding 93 = .ok (.invokevirtual 246, 3) := by decide +kernel
theorem dX11_wedding_96 : decode cX11_wedding 96 = .ok (.ifCond .eq 15, 3) := by decide +kernel
theorem dX11_wedding_99 : decode cX11_wedding 99 = .ok (.aload_n 0, 1) := by decide +kernel
theorem dX11_wedding_100 : decode cX11_wedding 100 = .ok (.iload_n 2, 1) := by decide +kernel
theorem dX11_wedding_101 : decode cX11_wedding 101 = .ok (.iload_n 3, 1) := by decide +kernel
theorem dX11_wedding_102 : decode cX11_wedding 102 = .ok (.invokevirtual 246, 3) := by decide +kernel
theorem dX11_wedding_105 : decode cX11_wedding 105 = .ok (.ifCond .eq 6, 3) := by decide +kernel
theorem dX11_wedding_108 : decode cX11_wedding 108 = .ok (.iload 5, 2) := by decide +kernel
theorem dX11_wedding_110 : decode cX11_wedding 110 = .ok (.ireturn, 1) := by decide +kernel
theorem dX11_wedding_111 : decode cX11_wedding 111 = .ok (.iinc 5 1, 3) := by decide +kernel
theorem dX11_wedding_114 : decode cX11_wedding 114 = .ok (.goto (-74), 3) := by decide +kernel
theorem dX11_wedding_117 : decode cX11_wedding 117 = .ok (.iconst (-1), 1) := by decide +kernel
theorem dX11_wedding_118 : decode cX11_wedding 118 = .ok (.ireturn, 1) := by decide +kernel
theorem dX11_crowd_0 : decode cX11_crowd 0 = .ok (.iload_n 1, 1) := by decide +kernel
theorem dX11_crowd_1 : decode cX11_crowd 1 = .ok (.i2l, 1) := by decide +kernel
theorem dX11_crowd_2 : decode cX11_crowd 2 = .ok (.lconst 0, 1) := by decide +kernel
theorem dX11_crowd_3 : decode cX11_crowd 3 = .ok (.ldc2_w 249, 3) := by decide +kernel
theorem dX11_crowd_6 : decode cX11_crowd 6 = .ok (.invokestatic 66, 3) := by decide +kernel
theorem dX11_crowd_9 : decode cX11_crowd 9 = .ok (.ifCond .eq 15, 3) := by decide +kernel
theorem dX11_crowd_12 : decode cX11_crowd 12 = .ok (.iload_n 2, 1) := by decide +kernel
theorem dX11_crowd_13 : decode cX11_crowd 13 = .ok (.i2l, 1) := by decide +kernel
theorem dX11_crowd_14 : decode cX11_crowd 14 = .ok (.lconst 0, 1) := by decide +kernel
theorem dX11_crowd_15 : decode cX11_crowd 15 = .ok (.ldc2_w 251, 3) := by decide +kernel
theorem dX11_crowd_18 : decode cX11_crowd 18 = .ok (.invokestatic 66, 3) := by decide +kernel
theorem dX11_crowd_21 : decode cX11_crowd 21 = .ok (.ifCond .ne 10, 3) := by decide +kernel
theorem dX11_crowd_24 : decode cX11_crowd 24 = .ok (.aload_n 0, 1) := by decide +kernel
theorem dX11_crowd_25 : decode cX11_crowd 25 = .ok (.bipush (-2), 2) := by decide +kernel
theorem dX11_crowd_27 : decode cX11_crowd 27 = .ok (.invokevirtual 103, 3) := by decide +kernel
theorem dX11_crowd_30 : decode cX11_crowd 30 = .ok (.ireturn, 1) := by decide +kernel
theorem dX11_crowd_31 : decode cX11_crowd 31 = .ok (.aload_n 0, 1) := by decide +kernel
theorem dX11_crowd_32 : decode cX11_crowd 32 = .ok (.getfield 7, 3) := by decide +kernel
theorem dX11_crowd_35 : decode cX11_crowd 35 = .ok (.bipush 37, 2) := by decide +kernel
theorem dX11_crowd_37 : decode cX11_crowd 37 = .ok (.iload_n 1, 1) := by decide +kernel
theorem dX11_crowd_38 : decode cX11_crowd 38 = .ok (.iadd, 1) := by decide +kernel
theorem dX11_crowd_39 : decode cX11_crowd 39 = .ok (.iaload, 1) := by decide +kernel
theorem dX11_crowd_40 : decode cX11_crowd 40 = .ok (.istore_n 3, 1) := by decide +kernel
theorem dX11_crowd_41 : decode cX11_crowd 41 = .ok (.aload_n 0, 1) := by decide +kernel
theorem dX11_crowd_42 : decode cX11_crowd 42 = .ok (.getfield 7, 3) := by decide +kernel
theorem dX11_crowd_45 : decode cX11_crowd 45 = .ok (.bipush 37, 2) := by decide +kernel
theorem dX11_crowd_47 : decode cX11_crowd 47 = .ok (.iload_n 1, 1) := by decide +kernel
theorem dX11_crowd_48 : decode cX11_crowd 48 = .ok (.iadd, 1) := by decide +kernel
theorem dX11_crowd_49 : decode cX11_crowd 49 = .ok (.iload_n 2, 1) := by decide +kernel
theorem dX11_crowd_50 : decode cX11_crowd 50 = .ok (.iastore, 1) := by decide +kernel
theorem dX11_crowd_51 : decode cX11_crowd 51 = .ok (.iload_n 3, 1) := by decide +kernel
theorem dX11_crowd_52 : decode cX11_crowd 52 = .ok (.ireturn, 1) := by decide +kernel
theorem dX11_choose_0 : decode cX11_choose 0 = .ok (.iconst 1, 1) := by decide +kernel
theorem dX11_choose_1 : decode cX11_choose 1 = .ok (.istore_n 2, 1) := by decide +kernel
theorem dX11_choose_2 : decode cX11_choose 2 = .ok (.iconst 1, 1) := by decide +kernel
theorem dX11_choose_3 : decode cX11_choose 3 = .ok (.istore_n 3, 1) := by decide +kernel
theorem dX11_choose_4 : decode cX11_choose 4 = .ok (.iload_n 3, 1) := by decide +kernel
theorem dX11_choose_5 : decode cX11_choose 5 = .ok (.iload_n 1, 1) := by decide +kernel
theorem dX11_choose_6 : decode cX11_choose 6 = .ok (.if_icmp .gt 19, 3) := by decide +kernel
theorem dX11_choose_9 : decode cX11_choose 9 = .ok (.iload_n 2, 1) := by decide +kernel
theorem dX11_choose_10 : decode cX11_choose 10 = .ok (.iload_n 0, 1) := by decide +kernel
theorem dX11_choose_11 : decode cX11_choose 11 = .ok (.iload_n 3, 1) := by decide +kernel
theorem dX11_choose_12 : decode cX11_choose 12 = .ok (.isub, 1) := by decide +kernel
theorem dX11_choose_13 : decode cX11_choose 13 = .ok (.iconst 1, 1) := by decide +kernel
theorem dX11_choose_14 : decode cX11_choose 14 = .ok (.iadd, 1) := by decide +kernel
theorem dX11_choose_15 : decode cX11_choose 15 = .ok (.imul, 1) := by decide +kernel
theorem dX11_choose_16 : decode cX11_choose 16 = .ok (.iload_n 3, 1) := by decide +kernel
theorem dX11_choose_17 : decode cX11_choose 17 = .ok (.idiv, 1) := by decide +kernel
theorem dX11_choose_18 : decode cX11_choose 18 = .ok (.istore_n 2, 1) := by decide +kernel
theorem dX11_choose_19 : decode cX11_choose 19 = .ok (.iinc 3 1, 3) := by decide +kernel
theorem dX11_choose_22 : decode cX11_choose 22 = .ok (.goto (-18), 3) := by decide +kernel
theorem dX11_choose_25 : decode cX11_choose 25 = .ok (.iload_n 2, 1) := by decide +kernel
theorem dX11_choose_26 : decode cX11_choose 26 = .ok (.ireturn, 1) := by decide +kernel
theorem dX11_layWays_0 : decode cX11_layWays 0 = .ok (.iconst 0, 1) := by decide +kernel
theorem dX11_layWays_1 : decode cX11_layWays 1 = .ok (.istore_n 1, 1) := by decide +kernel
theorem dX11_layWays_2 : decode cX11_layWays 2 = .ok (.iload_n 1, 1) := by decide +kernel
theorem dX11_layWays_3 : decode cX11_layWays 3 = .ok (.sipush 610, 3) := by decide +kernel
theorem dX11_layWays_6 : decode cX11_layWays 6 = .ok (.if_icmp .ge 24, 3) := by decide +kernel
theorem dX11_layWays_9 : decode cX11_layWays 9 = .ok (.aload_n 0, 1) := by decide +kernel
theorem dX11_layWays_10 : decode cX11_layWays 10 = .ok (.getfield 51, 3) := by decide +kernel
theorem dX11_layWays_13 : decode cX11_layWays 13 = .ok (.iload_n 1, 1) := by decide +kernel
theorem dX11_layWays_14 : decode cX11_layWays 14 = .ok (.iload_n 1, 1) := by decide +kernel
theorem dX11_layWays_15 : decode cX11_layWays 15 = .ok (.ifCond .ne 7, 3) := by decide +kernel
theorem dX11_layWays_18 : decode cX11_layWays 18 = .ok (.lconst 1, 1) := by decide +kernel
theorem dX11_layWays_19 : decode cX11_layWays 19 = .ok (.goto 4, 3) := by decide +kernel
theorem dX11_layWays_22 : decode cX11_layWays 22 = .ok (.lconst 0, 1) := by decide +kernel
theorem dX11_layWays_23 : decode cX11_layWays 23 = .ok (.lastore, 1) := by decide +kernel
theorem dX11_layWays_24 : decode cX11_layWays 24 = .ok (.iinc 1 1, 3) := by decide +kernel
theorem dX11_layWays_27 : decode cX11_layWays 27 = .ok (.goto (-25), 3) := by decide +kernel
theorem dX11_layWays_30 : decode cX11_layWays 30 = .ok (.iconst 0, 1) := by decide +kernel
theorem dX11_layWays_31 : decode cX11_layWays 31 = .ok (.istore_n 1, 1) := by decide +kernel
theorem dX11_layWays_32 : decode cX11_layWays 32 = .ok (.iload_n 1, 1) := by decide +kernel
theorem dX11_layWays_33 : decode cX11_layWays 33 = .ok (.bipush 10, 2) := by decide +kernel
theorem dX11_layWays_35 : decode cX11_layWays 35 = .ok (.if_icmp .ge 162, 3) := by decide +kernel
theorem dX11_layWays_38 : decode cX11_layWays 38 = .ok (.iconst 0, 1) := by decide +kernel
theorem dX11_layWays_39 : decode cX11_layWays 39 = .ok (.istore_n 2, 1) := by decide +kernel
theorem dX11_layWays_40 : decode cX11_layWays 40 = .ok (.iload_n 2, 1) := by decide +kernel
theorem dX11_layWays_41 : decode cX11_layWays 41 = .ok (.sipush 610, 3) := by decide +kernel
theorem dX11_layWays_44 : decode cX11_layWays 44 = .ok (.if_icmp .ge 16, 3) := by decide +kernel
theorem dX11_layWays_47 : decode cX11_layWays 47 = .ok (.aload_n 0, 1) := by decide +kernel
theorem dX11_layWays_48 : decode cX11_layWays 48 = .ok (.getfield 55, 3) := by decide +kernel
theorem dX11_layWays_51 : decode cX11_layWays 51 = .ok (.iload_n 2, 1) := by decide +kernel
theorem dX11_layWays_52 : decode cX11_layWays 52 = .ok (.lconst 0, 1) := by decide +kernel
theorem dX11_layWays_53 : decode cX11_layWays 53 = .ok (.lastore, 1) := by decide +kernel
theorem dX11_layWays_54 : decode cX11_layWays 54 = .ok (.iinc 2 1, 3) := by decide +kernel
theorem dX11_layWays_57 : decode cX11_layWays 57 = .ok (.goto (-17), 3) := by decide +kernel
theorem dX11_layWays_60 : decode cX11_layWays 60 = .ok (.iconst 0, 1) := by decide +kernel
theorem dX11_layWays_61 : decode cX11_layWays 61 = .ok (.istore_n 2, 1) := by decide +kernel
theorem dX11_layWays_62 : decode cX11_layWays 62 = .ok (.iload_n 2, 1) := by decide +kernel
theorem dX11_layWays_63 : decode cX11_layWays 63 = .ok (.aload_n 0, 1) := by decide +kernel
theorem dX11_layWays_64 : decode cX11_layWays 64 = .ok (.getfield 7, 3) := by decide +kernel
theorem dX11_layWays_67 : decode cX11_layWays 67 = .ok (.bipush 37, 2) := by decide +kernel
theorem dX11_layWays_69 : decode cX11_layWays 69 = .ok (.iload_n 1, 1) := by decide +kernel
theorem dX11_layWays_70 : decode cX11_layWays 70 = .ok (.iadd, 1) := by decide +kernel
theorem dX11_layWays_71 : decode cX11_layWays 71 = .ok (.iaload, 1) := by decide +kernel
theorem dX11_layWays_72 : decode cX11_layWays 72 = .ok (.if_icmp .gt 92, 3) := by decide +kernel
theorem dX11_layWays_75 : decode cX11_layWays 75 = .ok (.iconst 0, 1) := by decide +kernel
theorem dX11_layWays_76 : decode cX11_layWays 76 = .ok (.istore_n 3, 1) := by decide +kernel
theorem dX11_layWays_77 : decode cX11_layWays 77 = .ok (.iload_n 3, 1) := by decide +kernel
theorem dX11_layWays_78 : decode cX11_layWays 78 = .ok (.iload_n 2, 1) := by decide +kernel
theorem dX11_layWays_79 : decode cX11_layWays 79 = .ok (.iadd, 1) := by decide +kernel
theorem dX11_layWays_80 : decode cX11_layWays 80 = .ok (.bipush 60, 2) := by decide +kernel
theorem dX11_layWays_82 : decode cX11_layWays 82 = .ok (.if_icmp .gt 76, 3) := by decide +kernel
theorem dX11_layWays_85 : decode cX11_layWays 85 = .ok (.iconst 0, 1) := by decide +kernel
theorem dX11_layWays_86 : decode cX11_layWays 86 = .ok (.istore 4, 2) := by decide +kernel
theorem dX11_layWays_88 : decode cX11_layWays 88 = .ok (.iload 4, 2) := by decide +kernel
theorem dX11_layWays_90 : decode cX11_layWays 90 = .ok (.bipush 10, 2) := by decide +kernel
theorem dX11_layWays_92 : decode cX11_layWays 92 = .ok (.if_icmp .ge 60, 3) := by decide +kernel
theorem dX11_layWays_95 : decode cX11_layWays 95 = .ok (.aload_n 0, 1) := by decide +kernel
theorem dX11_layWays_96 : decode cX11_layWays 96 = .ok (.getfield 55, 3) := by decide +kernel
theorem dX11_layWays_99 : decode cX11_layWays 99 = .ok (.bipush 10, 2) := by decide +kernel
theorem dX11_layWays_101 : decode cX11_layWays 101 = .ok (.iload_n 3, 1) := by decide +kernel
theorem dX11_layWays_102 : decode cX11_layWays 102 = .ok (.iload_n 2, 1) := by decide +kernel
theorem dX11_layWays_103 : decode cX11_layWays 103 = .ok (.iadd, 1) := by decide +kernel
theorem dX11_layWays_104 : decode cX11_layWays 104 = .ok (.imul, 1) := by decide +kernel
theorem dX11_layWays_105 : decode cX11_layWays 105 = .ok (.iload 4, 2) := by decide +kernel
theorem dX11_layWays_107 : decode cX11_layWays 107 = .ok (.iload_n 2, 1) := by decide +kernel
theorem dX11_layWays_108 : decode cX11_layWays 108 = .ok (.iload_n 1, 1) := by decide +kernel
theorem dX11_layWays_109 : decode cX11_layWays 109 = .ok (.imul, 1) := by decide +kernel
theorem dX11_layWays_110 : decode cX11_layWays 110 = .ok (.iadd, 1) := by decide +kernel
theorem dX11_layWays_111 : decode cX11_layWays 111 = .ok (.bipush 10, 2) := by decide +kernel
theorem dX11_layWays_113 : decode cX11_layWays 113 = .ok (.irem, 1) := by decide +kernel
theorem dX11_layWays_114 : decode cX11_layWays 114 = .ok (.iadd, 1) := by decide +kernel
theorem dX11_layWays_115 : decode cX11_layWays 115 = .ok (.dup2, 1) := by decide +kernel
theorem dX11_layWays_116 : decode cX11_layWays 116 = .ok (.laload, 1) := by decide +kernel
theorem dX11_layWays_117 : decode cX11_layWays 117 = .ok (.aload_n 0, 1) := by decide +kernel
theorem dX11_layWays_118 : decode cX11_layWays 118 = .ok (.getfield 51, 3) := by decide +kernel
theorem dX11_layWays_121 : decode cX11_layWays 121 = .ok (.bipush 10, 2) := by decide +kernel
theorem dX11_layWays_123 : decode cX11_layWays 123 = .ok (.iload_n 3, 1) := by decide +kernel
theorem dX11_layWays_124 : decode cX11_layWays 124 = .ok (.imul, 1) := by decide +kernel
theorem dX11_layWays_125 : decode cX11_layWays 125 = .ok (.iload 4, 2) := by decide +kernel
theorem dX11_layWays_127 : decode cX11_layWays 127 = .ok (.iadd, 1) := by decide +kernel
theorem dX11_layWays_128 : decode cX11_layWays 128 = .ok (.laload, 1) := by decide +kernel
theorem dX11_layWays_129 : decode cX11_layWays 129 = .ok (.aload_n 0, 1) := by decide +kernel
theorem dX11_layWays_130 : decode cX11_layWays 130 = .ok (.getfield 7, 3) := by decide +kernel
theorem dX11_layWays_133 : decode cX11_layWays 133 = .ok (.bipush 37, 2) := by decide +kernel
theorem dX11_layWays_135 : decode cX11_layWays 135 = .ok (.iload_n 1, 1) := by decide +kernel
theorem dX11_layWays_136 : decode cX11_layWays 136 = .ok (.iadd, 1) := by decide +kernel
theorem dX11_layWays_137 : decode cX11_layWays 137 = .ok (.iaload, 1) := by decide +kernel
theorem dX11_layWays_138 : decode cX11_layWays 138 = .ok (.iload_n 2, 1) := by decide +kernel
theorem dX11_layWays_139 : decode cX11_layWays 139 = .ok (.invokestatic 253, 3) := by decide +kernel
theorem dX11_layWays_142 : decode cX11_layWays 142 = .ok (.i2l, 1) := by decide +kernel
theorem dX11_layWays_143 : decode cX11_layWays 143 = .ok (.lmul, 1) := by decide +kernel
theorem dX11_layWays_144 : decode cX11_layWays 144 = .ok (.ladd, 1) := by decide +kernel
theorem dX11_layWays_145 : decode cX11_layWays 145 = .ok (.lastore, 1) := by decide +kernel
theorem dX11_layWays_146 : decode cX11_layWays 146 = .ok (.iinc 4 1, 3) := by decide +kernel
theorem dX11_layWays_149 : decode cX11_layWays 149 = .ok (.goto (-61), 3) := by decide +kernel
theorem dX11_layWays_152 : decode cX11_layWays 152 = .ok (.iinc 3 1, 3) := by decide +kernel
theorem dX11_layWays_155 : decode cX11_layWays 155 = .ok (.goto (-78), 3) := by decide +kernel
theorem dX11_layWays_158 : decode cX11_layWays 158 = .ok (.iinc 2 1, 3) := by decide +kernel
theorem dX11_layWays_161 : decode cX11_layWays 161 = .ok (.goto (-99), 3) := by decide +kernel
theorem dX11_layWays_164 : decode cX11_layWays 164 = .ok (.iconst 0, 1) := by decide +kernel
theorem dX11_layWays_165 : decode cX11_layWays 165 = .ok (.istore_n 2, 1) := by decide +kernel
theorem dX11_layWays_166 : decode cX11_layWays 166 = .ok (.iload_n 2, 1) := by decide +kernel
theorem dX11_layWays_167 : decode cX11_layWays 167 = .ok (.sipush 610, 3) := by decide +kernel
theorem dX11_layWays_170 : decode cX11_layWays 170 = .ok (.if_icmp .ge 21, 3) := by decide +kernel
theorem dX11_layWays_173 : decode cX11_layWays 173 = .ok (.aload_n 0, 1) := by decide +kernel
theorem dX11_layWays_174 : decode cX11_layWays 174 = .ok (.getfield 51, 3) := by decide +kernel
theorem dX11_layWays_177 : decode cX11_layWays 177 = .ok (.iload_n 2, 1) := by decide +kernel
theorem dX11_layWays_178 : decode cX11_layWays 178 = .ok (.aload_n 0, 1) := by decide +kernel
theorem dX11_layWays_179 : decode cX11_layWays 179 = .ok (.getfield 55, 3) := by decide +kernel
theorem dX11_layWays_182 : decode cX11_layWays 182 = .ok (.iload_n 2, 1) := by decide +kernel
theorem dX11_layWays_183 : decode cX11_layWays 183 = .ok (.laload, 1) := by decide +kernel
theorem dX11_layWays_184 : decode cX11_layWays 184 = .ok (.lastore, 1) := by decide +kernel
theorem dX11_layWays_185 : decode cX11_layWays 185 = .ok (.iinc 2 1, 3) := by decide +kernel
theorem dX11_layWays_188 : decode cX11_layWays 188 = .ok (.goto (-22), 3) := by decide +kernel
theorem dX11_layWays_191 : decode cX11_layWays 191 = .ok (.iinc 1 1, 3) := by decide +kernel
theorem dX11_layWays_194 : decode cX11_layWays 194 = .ok (.goto (-162), 3) := by decide +kernel
theorem dX11_layWays_197 : decode cX11_layWays 197 = .ok (.return_, 1) := by decide +kernel
theorem dX11_tens_0 : decode cX11_tens 0 = .ok (.iload_n 1, 1) := by decide +kernel
theorem dX11_tens_1 : decode cX11_tens 1 = .ok (.i2l, 1) := by decide +kernel
theorem dX11_tens_2 : decode cX11_tens 2 = .ok (.lconst 0, 1) := by decide +kernel
theorem dX11_tens_3 : decode cX11_tens 3 = .ok (.ldc2_w 256, 3) := by decide +kernel
theorem dX11_tens_6 : decode cX11_tens 6 = .ok (.invokestatic 66, 3) := by decide +kernel
theorem dX11_tens_9 : decode cX11_tens 9 = .ok (.ifCond .ne 11, 3) := by decide +kernel
theorem dX11_tens_12 : decode cX11_tens 12 = .ok (.aload_n 0, 1) := by decide +kernel
theorem dX11_tens_13 : decode cX11_tens 13 = .ok (.bipush (-2), 2) := by decide +kernel
theorem dX11_tens_15 : decode cX11_tens 15 = .ok (.invokevirtual 103, 3) := by decide +kernel
theorem dX11_tens_18 : decode cX11_tens 18 = .ok (.i2l, 1) := by decide +kernel
theorem dX11_tens_19 : decode cX11_tens 19 = .ok (.lreturn, 1) := by decide +kernel
theorem dX11_tens_20 : decode cX11_tens 20 = .ok (.aload_n 0, 1) := by decide +kernel
theorem dX11_tens_21 : decode cX11_tens 21 = .ok (.invokevirtual 258, 3) := by decide +kernel
theorem dX11_tens_24 : decode cX11_tens 24 = .ok (.aload_n 0, 1) := by decide +kernel
theorem dX11_tens_25 : decode cX11_tens 25 = .ok (.getfield 51, 3) := by decide +kernel
theorem dX11_tens_28 : decode cX11_tens 28 = .ok (.bipush 10, 2) := by decide +kernel
theorem dX11_tens_30 : decode cX11_tens 30 = .ok (.iload_n 1, 1) := by decide +kernel
theorem dX11_tens_31 : decode cX11_tens 31 = .ok (.imul, 1) := by decide +kernel
theorem dX11_tens_32 : decode cX11_tens 32 = .ok (.laload, 1) := by decide +kernel
theorem dX11_tens_33 : decode cX11_tens 33 = .ok (.lreturn, 1) := by decide +kernel
theorem dX11_spare_0 : decode cX11_spare 0 = .ok (.aload_n 0, 1) := by decide +kernel
theorem dX11_spare_1 : decode cX11_spare 1 = .ok (.invokevirtual 258, 3) := by decide +kernel
theorem dX11_spare_4 : decode cX11_spare 4 = .ok (.iconst 0, 1) := by decide +kernel
theorem dX11_spare_5 : decode cX11_spare 5 = .ok (.istore_n 1, 1) := by decide +kernel
theorem dX11_spare_6 : decode cX11_spare 6 = .ok (.iconst 0, 1) := by decide +kernel
theorem dX11_spare_7 : decode cX11_spare 7 = .ok (.istore_n 2, 1) := by decide +kernel
theorem dX11_spare_8 : decode cX11_spare 8 = .ok (.iload_n 2, 1) := by decide +kernel
theorem dX11_spare_9 : decode cX11_spare 9 = .ok (.bipush 10, 2) := by decide +kernel
theorem dX11_spare_11 : decode cX11_spare 11 = .ok (.if_icmp .ge 21, 3) := by decide +kernel
theorem dX11_spare_14 : decode cX11_spare 14 = .ok (.iload_n 1, 1) := by decide +kernel
theorem dX11_spare_15 : decode cX11_spare 15 = .ok (.aload_n 0, 1) := by decide +kernel
theorem dX11_spare_16 : decode cX11_spare 16 = .ok (.getfield 7, 3) := by decide +kernel
theorem dX11_spare_19 : decode cX11_spare 19 = .ok (.bipush 37, 2) := by decide +kernel
theorem dX11_spare_21 : decode cX11_spare 21 = .ok (.iload_n 2, 1) := by decide +kernel
theorem dX11_spare_22 : decode cX11_spare 22 = .ok (.iadd, 1) := by decide +kernel
theorem dX11_spare_23 : decode cX11_spare 23 = .ok (.iaload, 1) := by decide +kernel
theorem dX11_spare_24 : decode cX11_spare 24 = .ok (.iadd, 1) := by decide +kernel
theorem dX11_spare_25 : decode cX11_spare 25 = .ok (.istore_n 1, 1) := by decide +kernel
theorem dX11_spare_26 : decode cX11_spare 26 = .ok (.iinc 2 1, 3) := by decide +kernel
theorem dX11_spare_29 : decode cX11_spare 29 = .ok (.goto (-21), 3) := by decide +kernel
theorem dX11_spare_32 : decode cX11_spare 32 = .ok (.iload_n 1, 1) := by decide +kernel
theorem dX11_spare_33 : decode cX11_spare 33 = .ok (.istore_n 2, 1) := by decide +kernel
theorem dX11_spare_34 : decode cX11_spare 34 = .ok (.iload_n 2, 1) := by decide +kernel
theorem dX11_spare_35 : decode cX11_spare 35 = .ok (.ifCond .le 23, 3) := by decide +kernel
theorem dX11_spare_38 : decode cX11_spare 38 = .ok (.aload_n 0, 1) := by decide +kernel
theorem dX11_spare_39 : decode cX11_spare 39 = .ok (.getfield 51, 3) := by decide +kernel
theorem dX11_spare_42 : decode cX11_spare 42 = .ok (.bipush 10, 2) := by decide +kernel
theorem dX11_spare_44 : decode cX11_spare 44 = .ok (.iload_n 2, 1) := by decide +kernel
theorem dX11_spare_45 : decode cX11_spare 45 = .ok (.imul, 1) := by decide +kernel
theorem dX11_spare_46 : decode cX11_spare 46 = .ok (.laload, 1) := by decide +kernel
theorem dX11_spare_47 : decode cX11_spare 47 = .ok (.lconst 0, 1) := by decide +kernel
theorem dX11_spare_48 : decode cX11_spare 48 = .ok (.lcmp, 1) := by decide +kernel
theorem dX11_spare_49 : decode cX11_spare 49 = .ok (.ifCond .ne 9, 3) := by decide +kernel
theorem dX11_spare_52 : decode cX11_spare 52 = .ok (.iinc 2 (-1), 3) := by decide +kernel
theorem dX11_spare_55 : decode cX11_spare 55 = .ok (.goto (-21), 3) := by decide +kernel
theorem dX11_spare_58 : decode cX11_spare 58 = .ok (.iload_n 1, 1) := by decide +kernel
theorem dX11_spare_59 : decode cX11_spare 59 = .ok (.iload_n 2, 1) := by decide +kernel
theorem dX11_spare_60 : decode cX11_spare 60 = .ok (.isub, 1) := by decide +kernel
theorem dX11_spare_61 : decode cX11_spare 61 = .ok (.ireturn, 1) := by decide +kernel
theorem dX11_passing_0 : decode cX11_passing 0 = .ok (.iload_n 1, 1) := by decide +kernel
theorem dX11_passing_1 : decode cX11_passing 1 = .ok (.i2l, 1) := by decide +kernel
theorem dX11_passing_2 : decode cX11_passing 2 = .ok (.lconst 1, 1) := by decide +kernel
theorem dX11_passing_3 : decode cX11_passing 3 = .ok (.ldc2_w 261, 3) := by decide +kernel
