theorem dX11_gate_47 : decode cX11_gate 47 = .ok (.getfield 7, 3) := by decide +kernel
theorem dX11_gate_50 : decode cX11_gate 50 = .ok (.bipush 29, 2) := by decide +kernel
theorem dX11_gate_52 : decode cX11_gate 52 = .ok (.aload_n 0, 1) := by decide +kernel
theorem dX11_gate_53 : decode cX11_gate 53 = .ok (.getfield 7, 3) := by decide +kernel
theorem dX11_gate_56 : decode cX11_gate 56 = .ok (.iconst 1, 1) := by decide +kernel
theorem dX11_gate_57 : decode cX11_gate 57 = .ok (.iaload, 1) := by decide +kernel
theorem dX11_gate_58 : decode cX11_gate 58 = .ok (.iadd, 1) := by decide +kernel
theorem dX11_gate_59 : decode cX11_gate 59 = .ok (.iload_n 1, 1) := by decide +kernel
theorem dX11_gate_60 : decode cX11_gate 60 = .ok (.iastore, 1) := by decide +kernel
theorem dX11_gate_61 : decode cX11_gate 61 = .ok (.aload_n 0, 1) := by decide +kernel
theorem dX11_gate_62 : decode cX11_gate 62 = .ok (.getfield 7, 3) := by decide +kernel
theorem dX11_gate_65 : decode cX11_gate 65 = .ok (.bipush 33, 2) := by decide +kernel
theorem dX11_gate_67 : decode cX11_gate 67 = .ok (.aload_n 0, 1) := by decide +kernel
theorem dX11_gate_68 : decode cX11_gate 68 = .ok (.getfield 7, 3) := by decide +kernel
theorem dX11_gate_71 : decode cX11_gate 71 = .ok (.iconst 1, 1) := by decide +kernel
theorem dX11_gate_72 : decode cX11_gate 72 = .ok (.iaload, 1) := by decide +kernel
theorem dX11_gate_73 : decode cX11_gate 73 = .ok (.iadd, 1) := by decide +kernel
theorem dX11_gate_74 : decode cX11_gate 74 = .ok (.iload_n 2, 1) := by decide +kernel
theorem dX11_gate_75 : decode cX11_gate 75 = .ok (.iastore, 1) := by decide +kernel
theorem dX11_gate_76 : decode cX11_gate 76 = .ok (.aload_n 0, 1) := by decide +kernel
theorem dX11_gate_77 : decode cX11_gate 77 = .ok (.getfield 7, 3) := by decide +kernel
theorem dX11_gate_80 : decode cX11_gate 80 = .ok (.iconst 1, 1) := by decide +kernel
theorem dX11_gate_81 : decode cX11_gate 81 = .ok (.dup2, 1) := by decide +kernel
theorem dX11_gate_82 : decode cX11_gate 82 = .ok (.iaload, 1) := by decide +kernel
theorem dX11_gate_83 : decode cX11_gate 83 = .ok (.iconst 1, 1) := by decide +kernel
theorem dX11_gate_84 : decode cX11_gate 84 = .ok (.iadd, 1) := by decide +kernel
theorem dX11_gate_85 : decode cX11_gate 85 = .ok (.iastore, 1) := by decide +kernel
theorem dX11_gate_86 : decode cX11_gate 86 = .ok (.aload_n 0, 1) := by decide +kernel
theorem dX11_gate_87 : decode cX11_gate 87 = .ok (.getfield 7, 3) := by decide +kernel
theorem dX11_gate_90 : decode cX11_gate 90 = .ok (.iconst 1, 1) := by decide +kernel
theorem dX11_gate_91 : decode cX11_gate 91 = .ok (.iaload, 1) := by decide +kernel
theorem dX11_gate_92 : decode cX11_gate 92 = .ok (.iconst 1, 1) := by decide +kernel
theorem dX11_gate_93 : decode cX11_gate 93 = .ok (.isub, 1) := by decide +kernel
theorem dX11_gate_94 : decode cX11_gate 94 = .ok (.ireturn, 1) := by decide +kernel
theorem dX11_pair_0 : decode cX11_pair 0 = .ok (.aload_n 0, 1) := by decide +kernel
theorem dX11_pair_1 : decode cX11_pair 1 = .ok (.iload_n 1, 1) := by decide +kernel
theorem dX11_pair_2 : decode cX11_pair 2 = .ok (.invokevirtual 123, 3) := by decide +kernel
theorem dX11_pair_5 : decode cX11_pair 5 = .ok (.ifCond .eq 26, 3) := by decide +kernel
theorem dX11_pair_8 : decode cX11_pair 8 = .ok (.aload_n 0, 1) := by decide +kernel
theorem dX11_pair_9 : decode cX11_pair 9 = .ok (.iload_n 2, 1) := by decide +kernel
theorem dX11_pair_10 : decode cX11_pair 10 = .ok (.invokevirtual 123, 3) := by decide +kernel
theorem dX11_pair_13 : decode cX11_pair 13 = .ok (.ifCond .eq 18, 3) := by decide +kernel
theorem dX11_pair_16 : decode cX11_pair 16 = .ok (.iload_n 1, 1) := by decide +kernel
theorem dX11_pair_17 : decode cX11_pair 17 = .ok (.iload_n 2, 1) := by decide +kernel
theorem dX11_pair_18 : decode cX11_pair 18 = .ok (.if_icmp .eq 13, 3) := by decide +kernel
theorem dX11_pair_21 : decode cX11_pair 21 = .ok (.iload_n 3, 1) := by decide +kernel
theorem dX11_pair_22 : decode cX11_pair 22 = .ok (.i2l, 1) := by decide +kernel
theorem dX11_pair_23 : decode cX11_pair 23 = .ok (.lconst 0, 1) := by decide +kernel
theorem dX11_pair_24 : decode cX11_pair 24 = .ok (.lconst 1, 1) := by decide +kernel
theorem dX11_pair_25 : decode cX11_pair 25 = .ok (.invokestatic 66, 3) := by decide +kernel
theorem dX11_pair_28 : decode cX11_pair 28 = .ok (.ifCond .ne 10, 3) := by decide +kernel
theorem dX11_pair_31 : decode cX11_pair 31 = .ok (.aload_n 0, 1) := by decide +kernel
theorem dX11_pair_32 : decode cX11_pair 32 = .ok (.bipush (-2), 2) := by decide +kernel
theorem dX11_pair_34 : decode cX11_pair 34 = .ok (.invokevirtual 103, 3) := by decide +kernel
theorem dX11_pair_37 : decode cX11_pair 37 = .ok (.ireturn, 1) := by decide +kernel
theorem dX11_pair_38 : decode cX11_pair 38 = .ok (.bipush 13, 2) := by decide +kernel
theorem dX11_pair_40 : decode cX11_pair 40 = .ok (.bipush 8, 2) := by decide +kernel
theorem dX11_pair_42 : decode cX11_pair 42 = .ok (.iload_n 3, 1) := by decide +kernel
theorem dX11_pair_43 : decode cX11_pair 43 = .ok (.imul, 1) := by decide +kernel
theorem dX11_pair_44 : decode cX11_pair 44 = .ok (.iadd, 1) := by decide +kernel
theorem dX11_pair_45 : decode cX11_pair 45 = .ok (.istore 4, 2) := by decide +kernel
theorem dX11_pair_47 : decode cX11_pair 47 = .ok (.aload_n 0, 1) := by decide +kernel
theorem dX11_pair_48 : decode cX11_pair 48 = .ok (.getfield 7, 3) := by decide +kernel
theorem dX11_pair_51 : decode cX11_pair 51 = .ok (.iload 4, 2) := by decide +kernel
theorem dX11_pair_53 : decode cX11_pair 53 = .ok (.iload_n 1, 1) := by decide +kernel
theorem dX11_pair_54 : decode cX11_pair 54 = .ok (.iadd, 1) := by decide +kernel
theorem dX11_pair_55 : decode cX11_pair 55 = .ok (.iaload, 1) := by decide +kernel
theorem dX11_pair_56 : decode cX11_pair 56 = .ok (.iload_n 2, 1) := by decide +kernel
theorem dX11_pair_57 : decode cX11_pair 57 = .ok (.invokestatic 126, 3) := by decide +kernel
theorem dX11_pair_60 : decode cX11_pair 60 = .ok (.ifCond .eq 8, 3) := by decide +kernel
theorem dX11_pair_63 : decode cX11_pair 63 = .ok (.aload_n 0, 1) := by decide +kernel
theorem dX11_pair_64 : decode cX11_pair 64 = .ok (.invokevirtual 130, 3) := by decide +kernel
theorem dX11_pair_67 : decode cX11_pair 67 = .ok (.ireturn, 1) := by decide +kernel
theorem dX11_pair_68 : decode cX11_pair 68 = .ok (.aload_n 0, 1) := by decide +kernel
theorem dX11_pair_69 : decode cX11_pair 69 = .ok (.getfield 7, 3) := by decide +kernel
theorem dX11_pair_72 : decode cX11_pair 72 = .ok (.iload 4, 2) := by decide +kernel
theorem dX11_pair_74 : decode cX11_pair 74 = .ok (.iload_n 1, 1) := by decide +kernel
theorem dX11_pair_75 : decode cX11_pair 75 = .ok (.iadd, 1) := by decide +kernel
theorem dX11_pair_76 : decode cX11_pair 76 = .ok (.dup2, 1) := by decide +kernel
theorem dX11_pair_77 : decode cX11_pair 77 = .ok (.iaload, 1) := by decide +kernel
theorem dX11_pair_78 : decode cX11_pair 78 = .ok (.iconst 1, 1) := by decide +kernel
theorem dX11_pair_79 : decode cX11_pair 79 = .ok (.iload_n 2, 1) := by decide +kernel
theorem dX11_pair_80 : decode cX11_pair 80 = .ok (.ishl, 1) := by decide +kernel
theorem dX11_pair_81 : decode cX11_pair 81 = .ok (.ior, 1) := by decide +kernel
theorem dX11_pair_82 : decode cX11_pair 82 = .ok (.iastore, 1) := by decide +kernel
theorem dX11_pair_83 : decode cX11_pair 83 = .ok (.aload_n 0, 1) := by decide +kernel
theorem dX11_pair_84 : decode cX11_pair 84 = .ok (.getfield 7, 3) := by decide +kernel
theorem dX11_pair_87 : decode cX11_pair 87 = .ok (.iload 4, 2) := by decide +kernel
theorem dX11_pair_89 : decode cX11_pair 89 = .ok (.iload_n 2, 1) := by decide +kernel
theorem dX11_pair_90 : decode cX11_pair 90 = .ok (.iadd, 1) := by decide +kernel
theorem dX11_pair_91 : decode cX11_pair 91 = .ok (.dup2, 1) := by decide +kernel
theorem dX11_pair_92 : decode cX11_pair 92 = .ok (.iaload, 1) := by decide +kernel
theorem dX11_pair_93 : decode cX11_pair 93 = .ok (.iconst 1, 1) := by decide +kernel
theorem dX11_pair_94 : decode cX11_pair 94 = .ok (.iload_n 1, 1) := by decide +kernel
theorem dX11_pair_95 : decode cX11_pair 95 = .ok (.ishl, 1) := by decide +kernel
theorem dX11_pair_96 : decode cX11_pair 96 = .ok (.ior, 1) := by decide +kernel
theorem dX11_pair_97 : decode cX11_pair 97 = .ok (.iastore, 1) := by decide +kernel
theorem dX11_pair_98 : decode cX11_pair 98 = .ok (.iconst 1, 1) := by decide +kernel
theorem dX11_pair_99 : decode cX11_pair 99 = .ok (.ireturn, 1) := by decide +kernel
theorem dX11_layBirths_0 : decode cX11_layBirths 0 = .ok (.iconst 0, 1) := by decide +kernel
theorem dX11_layBirths_1 : decode cX11_layBirths 1 = .ok (.istore_n 1, 1) := by decide +kernel
theorem dX11_layBirths_2 : decode cX11_layBirths 2 = .ok (.iload_n 1, 1) := by decide +kernel
theorem dX11_layBirths_3 : decode cX11_layBirths 3 = .ok (.aload_n 0, 1) := by decide +kernel
theorem dX11_layBirths_4 : decode cX11_layBirths 4 = .ok (.getfield 7, 3) := by decide +kernel
theorem dX11_layBirths_7 : decode cX11_layBirths 7 = .ok (.iconst 0, 1) := by decide +kernel
theorem dX11_layBirths_8 : decode cX11_layBirths 8 = .ok (.iaload, 1) := by decide +kernel
theorem dX11_layBirths_9 : decode cX11_layBirths 9 = .ok (.if_icmp .ge 49, 3) := by decide +kernel
theorem dX11_layBirths_12 : decode cX11_layBirths 12 = .ok (.aload_n 0, 1) := by decide +kernel
theorem dX11_layBirths_13 : decode cX11_layBirths 13 = .ok (.aload_n 0, 1) := by decide +kernel
theorem dX11_layBirths_14 : decode cX11_layBirths 14 = .ok (.getfield 7, 3) := by decide +kernel
theorem dX11_layBirths_17 : decode cX11_layBirths 17 = .ok (.iconst 5, 1) := by decide +kernel
theorem dX11_layBirths_18 : decode cX11_layBirths 18 = .ok (.iload_n 1, 1) := by decide +kernel
theorem dX11_layBirths_19 : decode cX11_layBirths 19 = .ok (.iadd, 1) := by decide +kernel
theorem dX11_layBirths_20 : decode cX11_layBirths 20 = .ok (.iaload, 1) := by decide +kernel
theorem dX11_layBirths_21 : decode cX11_layBirths 21 = .ok (.invokevirtual 111, 3) := by decide +kernel
theorem dX11_layBirths_24 : decode cX11_layBirths 24 = .ok (.aload_n 0, 1) := by decide +kernel
theorem dX11_layBirths_25 : decode cX11_layBirths 25 = .ok (.getfield 26, 3) := by decide +kernel
theorem dX11_layBirths_28 : decode cX11_layBirths 28 = .ok (.iload_n 1, 1) := by decide +kernel
theorem dX11_layBirths_29 : decode cX11_layBirths 29 = .ok (.aload_n 0, 1) := by decide +kernel
theorem dX11_layBirths_30 : decode cX11_layBirths 30 = .ok (.getfield 83, 3) := by decide +kernel
theorem dX11_layBirths_33 : decode cX11_layBirths 33 = .ok (.iastore, 1) := by decide +kernel
theorem dX11_layBirths_34 : decode cX11_layBirths 34 = .ok (.aload_n 0, 1) := by decide +kernel
theorem dX11_layBirths_35 : decode cX11_layBirths 35 = .ok (.getfield 29, 3) := by decide +kernel
theorem dX11_layBirths_38 : decode cX11_layBirths 38 = .ok (.iload_n 1, 1) := by decide +kernel
theorem dX11_layBirths_39 : decode cX11_layBirths 39 = .ok (.bipush 32, 2) := by decide +kernel
theorem dX11_layBirths_41 : decode cX11_layBirths 41 = .ok (.aload_n 0, 1) := by decide +kernel
theorem dX11_layBirths_42 : decode cX11_layBirths 42 = .ok (.getfield 87, 3) := by decide +kernel
theorem dX11_layBirths_45 : decode cX11_layBirths 45 = .ok (.imul, 1) := by decide +kernel
theorem dX11_layBirths_46 : decode cX11_layBirths 46 = .ok (.aload_n 0, 1) := by decide +kernel
theorem dX11_layBirths_47 : decode cX11_layBirths 47 = .ok (.getfield 90, 3) := by decide +kernel
theorem dX11_layBirths_50 : decode cX11_layBirths 50 = .ok (.iadd, 1) := by decide +kernel
theorem dX11_layBirths_51 : decode cX11_layBirths 51 = .ok (.iastore, 1) := by decide +kernel
theorem dX11_layBirths_52 : decode cX11_layBirths 52 = .ok (.iinc 1 1, 3) := by decide +kernel
theorem dX11_layBirths_55 : decode cX11_layBirths 55 = .ok (.goto (-53), 3) := by decide +kernel
theorem dX11_layBirths_58 : decode cX11_layBirths 58 = .ok (.return_, 1) := by decide +kernel
theorem dX11_layAges_0 : decode cX11_layAges 0 = .ok (.aload_n 0, 1) := by decide +kernel
theorem dX11_layAges_1 : decode cX11_layAges 1 = .ok (.iload_n 1, 1) := by decide +kernel
theorem dX11_layAges_2 : decode cX11_layAges 2 = .ok (.invokevirtual 111, 3) := by decide +kernel
theorem dX11_layAges_5 : decode cX11_layAges 5 = .ok (.bipush 32, 2) := by decide +kernel
theorem dX11_layAges_7 : decode cX11_layAges 7 = .ok (.aload_n 0, 1) := by decide +kernel
theorem dX11_layAges_8 : decode cX11_layAges 8 = .ok (.getfield 87, 3) := by decide +kernel
theorem dX11_layAges_11 : decode cX11_layAges 11 = .ok (.imul, 1) := by decide +kernel
theorem dX11_layAges_12 : decode cX11_layAges 12 = .ok (.aload_n 0, 1) := by decide +kernel
theorem dX11_layAges_13 : decode cX11_layAges 13 = .ok (.getfield 90, 3) := by decide +kernel
theorem dX11_layAges_16 : decode cX11_layAges 16 = .ok (.iadd, 1) := by decide +kernel
theorem dX11_layAges_17 : decode cX11_layAges 17 = .ok (.istore_n 2, 1) := by decide +kernel
theorem dX11_layAges_18 : decode cX11_layAges 18 = .ok (.iconst 0, 1) := by decide +kernel
theorem dX11_layAges_19 : decode cX11_layAges 19 = .ok (.istore_n 3, 1) := by decide +kernel
theorem dX11_layAges_20 : decode cX11_layAges 20 = .ok (.iload_n 3, 1) := by decide +kernel
theorem dX11_layAges_21 : decode cX11_layAges 21 = .ok (.aload_n 0, 1) := by decide +kernel
theorem dX11_layAges_22 : decode cX11_layAges 22 = .ok (.getfield 7, 3) := by decide +kernel
theorem dX11_layAges_25 : decode cX11_layAges 25 = .ok (.iconst 0, 1) := by decide +kernel
theorem dX11_layAges_26 : decode cX11_layAges 26 = .ok (.iaload, 1) := by decide +kernel
theorem dX11_layAges_27 : decode cX11_layAges 27 = .ok (.if_icmp .ge 58, 3) := by decide +kernel
theorem dX11_layAges_30 : decode cX11_layAges 30 = .ok (.aload_n 0, 1) := by decide +kernel
theorem dX11_layAges_31 : decode cX11_layAges 31 = .ok (.getfield 32, 3) := by decide +kernel
theorem dX11_layAges_34 : decode cX11_layAges 34 = .ok (.iload_n 3, 1) := by decide +kernel
theorem dX11_layAges_35 : decode cX11_layAges 35 = .ok (.iload_n 1, 1) := by decide +kernel
theorem dX11_layAges_36 : decode cX11_layAges 36 = .ok (.aload_n 0, 1) := by decide +kernel
theorem dX11_layAges_37 : decode cX11_layAges 37 = .ok (.getfield 7, 3) := by decide +kernel
theorem dX11_layAges_40 : decode cX11_layAges 40 = .ok (.iconst 5, 1) := by decide +kernel
theorem dX11_layAges_41 : decode cX11_layAges 41 = .ok (.iload_n 3, 1) := by decide +kernel
theorem dX11_layAges_42 : decode cX11_layAges 42 = .ok (.iadd, 1) := by decide +kernel
theorem dX11_layAges_43 : decode cX11_layAges 43 = .ok (.iaload, 1) := by decide +kernel
theorem dX11_layAges_44 : decode cX11_layAges 44 = .ok (.if_icmp .ge 7, 3) := by decide +kernel
theorem dX11_layAges_47 : decode cX11_layAges 47 = .ok (.iconst (-1), 1) := by decide +kernel
theorem dX11_layAges_48 : decode cX11_layAges 48 = .ok (.goto 30, 3) := by decide +kernel
theorem dX11_layAges_51 : decode cX11_layAges 51 = .ok (.aload_n 0, 1) := by decide +kernel
theorem dX11_layAges_52 : decode cX11_layAges 52 = .ok (.getfield 83, 3) := by decide +kernel
theorem dX11_layAges_55 : decode cX11_layAges 55 = .ok (.aload_n 0, 1) := by decide +kernel
theorem dX11_layAges_56 : decode cX11_layAges 56 = .ok (.getfield 26, 3) := by decide +kernel
theorem dX11_layAges_59 : decode cX11_layAges 59 = .ok (.iload_n 3, 1) := by decide +kernel
theorem dX11_layAges_60 : decode cX11_layAges 60 = .ok (.iaload, 1) := by decide +kernel
theorem dX11_layAges_61 : decode cX11_layAges 61 = .ok (.isub, 1) := by decide +kernel
theorem dX11_layAges_62 : decode cX11_layAges 62 = .ok (.iload_n 2, 1) := by decide +kernel
theorem dX11_layAges_63 : decode cX11_layAges 63 = .ok (.aload_n 0, 1) := by decide +kernel
theorem dX11_layAges_64 : decode cX11_layAges 64 = .ok (.getfield 29, 3) := by decide +kernel
theorem dX11_layAges_67 : decode cX11_layAges 67 = .ok (.iload_n 3, 1) := by decide +kernel
theorem dX11_layAges_68 : decode cX11_layAges 68 = .ok (.iaload, 1) := by decide +kernel
theorem dX11_layAges_69 : decode cX11_layAges 69 = .ok (.if_icmp .ge 7, 3) := by decide +kernel
theorem dX11_layAges_72 : decode cX11_layAges 72 = .ok (.iconst 1, 1) := by decide +kernel
theorem dX11_layAges_73 : decode cX11_layAges 73 = .ok (.goto 4, 3) := by decide +kernel
theorem dX11_layAges_76 : decode cX11_layAges 76 = .ok (.iconst 0, 1) := by decide +kernel
theorem dX11_layAges_77 : decode cX11_layAges 77 = .ok (.isub, 1) := by decide +kernel
theorem dX11_layAges_78 : decode cX11_layAges 78 = .ok (.iastore, 1) := by decide +kernel
theorem dX11_layAges_79 : decode cX11_layAges 79 = .ok (.iinc 3 1, 3) := by decide +kernel
theorem dX11_layAges_82 : decode cX11_layAges 82 = .ok (.goto (-62), 3) := by decide +kernel
theorem dX11_layAges_85 : decode cX11_layAges 85 = .ok (.return_, 1) := by decide +kernel
theorem dX11_look_0 : decode cX11_look 0 = .ok (.aload_n 0, 1) := by decide +kernel
theorem dX11_look_1 : decode cX11_look 1 = .ok (.invokevirtual 133, 3) := by decide +kernel
theorem dX11_look_4 : decode cX11_look 4 = .ok (.aload_n 0, 1) := by decide +kernel
theorem dX11_look_5 : decode cX11_look 5 = .ok (.iload_n 1, 1) := by decide +kernel
theorem dX11_look_6 : decode cX11_look 6 = .ok (.invokevirtual 136, 3) := by decide +kernel
theorem dX11_look_9 : decode cX11_look 9 = .ok (.return_, 1) := by decide +kernel
theorem dX11_age_0 : decode cX11_age 0 = .ok (.aload_n 0, 1) := by decide +kernel
theorem dX11_age_1 : decode cX11_age 1 = .ok (.iload_n 1, 1) := by decide +kernel
theorem dX11_age_2 : decode cX11_age 2 = .ok (.invokevirtual 123, 3) := by decide +kernel
theorem dX11_age_5 : decode cX11_age 5 = .ok (.ifCond .eq 10, 3) := by decide +kernel
theorem dX11_age_8 : decode cX11_age 8 = .ok (.iload_n 2, 1) := by decide +kernel
theorem dX11_age_9 : decode cX11_age 9 = .ok (.invokestatic 106, 3) := by decide +kernel
theorem dX11_age_12 : decode cX11_age 12 = .ok (.ifCond .ne 10, 3) := by decide +kernel
theorem dX11_age_15 : decode cX11_age 15 = .ok (.aload_n 0, 1) := by decide +kernel
theorem dX11_age_16 : decode cX11_age 16 = .ok (.bipush (-2), 2) := by decide +kernel
theorem dX11_age_18 : decode cX11_age 18 = .ok (.invokevirtual 103, 3) := by decide +kernel
theorem dX11_age_21 : decode cX11_age 21 = .ok (.ireturn, 1) := by decide +kernel
theorem dX11_age_22 : decode cX11_age 22 = .ok (.aload_n 0, 1) := by decide +kernel
theorem dX11_age_23 : decode cX11_age 23 = .ok (.iload_n 2, 1) := by decide +kernel
theorem dX11_age_24 : decode cX11_age 24 = .ok (.invokevirtual 139, 3) := by decide +kernel
theorem dX11_age_27 : decode cX11_age 27 = .ok (.aload_n 0, 1) := by decide +kernel
theorem dX11_age_28 : decode cX11_age 28 = .ok (.getfield 32, 3) := by decide +kernel
theorem dX11_age_31 : decode cX11_age 31 = .ok (.iload_n 1, 1) := by decide +kernel
theorem dX11_age_32 : decode cX11_age 32 = .ok (.iaload, 1) := by decide +kernel
theorem dX11_age_33 : decode cX11_age 33 = .ok (.ireturn, 1) := by decide +kernel
theorem dX11_bits_0 : decode cX11_bits 0 = .ok (.iconst 0, 1) := by decide +kernel
theorem dX11_bits_1 : decode cX11_bits 1 = .ok (.istore_n 1, 1) := by decide +kernel
theorem dX11_bits_2 : decode cX11_bits 2 = .ok (.iload_n 0, 1) := by decide +kernel
theorem dX11_bits_3 : decode cX11_bits 3 = .ok (.istore_n 2, 1) := by decide +kernel
theorem dX11_bits_4 : decode cX11_bits 4 = .ok (.iload_n 2, 1) := by decide +kernel
theorem dX11_bits_5 : decode cX11_bits 5 = .ok (.ifCond .eq 15, 3) := by decide +kernel
theorem dX11_bits_8 : decode cX11_bits 8 = .ok (.iinc 1 1, 3) := by decide +kernel
theorem dX11_bits_11 : decode cX11_bits 11 = .ok (.iload_n 2, 1) := by decide +kernel
theorem dX11_bits_12 : decode cX11_bits 12 = .ok (.iload_n 2, 1) := by decide +kernel
theorem dX11_bits_13 : decode cX11_bits 13 = .ok (.iconst 1, 1) := by decide +kernel
theorem dX11_bits_14 : decode cX11_bits 14 = .ok (.isub, 1) := by decide +kernel
theorem dX11_bits_15 : decode cX11_bits 15 = .ok (.iand, 1) := by decide +kernel
theorem dX11_bits_16 : decode cX11_bits 16 = .ok (.istore_n 2, 1) := by decide +kernel
theorem dX11_bits_17 : decode cX11_bits 17 = .ok (.goto (-13), 3) := by decide +kernel
theorem dX11_bits_20 : decode cX11_bits 20 = .ok (.iload_n 1, 1) := by decide +kernel
theorem dX11_bits_21 : decode cX11_bits 21 = .ok (.ireturn, 1) := by decide +kernel
theorem dX11_isByLaw_0 : decode cX11_isByLaw 0 = .ok (.iconst 0, 1) := by decide +kernel
theorem dX11_isByLaw_1 : decode cX11_isByLaw 1 = .ok (.istore_n 3, 1) := by decide +kernel
theorem dX11_isByLaw_2 : decode cX11_isByLaw 2 = .ok (.iconst 1, 1) := by decide +kernel
theorem dX11_isByLaw_3 : decode cX11_isByLaw 3 = .ok (.istore 4, 2) := by decide +kernel
theorem dX11_isByLaw_5 : decode cX11_isByLaw 5 = .ok (.iconst 0, 1) := by decide +kernel
theorem dX11_isByLaw_6 : decode cX11_isByLaw 6 = .ok (.istore 5, 2) := by decide +kernel
theorem dX11_isByLaw_8 : decode cX11_isByLaw 8 = .ok (.iload 5, 2) := by decide +kernel
theorem dX11_isByLaw_10 : decode cX11_isByLaw 10 = .ok (.aload_n 0, 1) := by decide +kernel
theorem dX11_isByLaw_11 : decode cX11_isByLaw 11 = .ok (.getfield 7, 3) := by decide +kernel
theorem dX11_isByLaw_14 : decode cX11_isByLaw 14 = .ok (.iconst 0, 1) := by decide +kernel
theorem dX11_isByLaw_15 : decode cX11_isByLaw 15 = .ok (.iaload, 1) := by decide +kernel
theorem dX11_isByLaw_16 : decode cX11_isByLaw 16 = .ok (.if_icmp .ge 82, 3) := by decide +kernel
theorem dX11_isByLaw_19 : decode cX11_isByLaw 19 = .ok (.iload_n 1, 1) := by decide +kernel
theorem dX11_isByLaw_20 : decode cX11_isByLaw 20 = .ok (.iload 5, 2) := by decide +kernel
theorem dX11_isByLaw_22 : decode cX11_isByLaw 22 = .ok (.invokestatic 126, 3) := by decide +kernel
theorem dX11_isByLaw_25 : decode cX11_isByLaw 25 = .ok (.ifCond .eq 67, 3) := by decide +kernel
theorem dX11_isByLaw_28 : decode cX11_isByLaw 28 = .ok (.iload_n 3, 1) := by decide +kernel
theorem dX11_isByLaw_29 : decode cX11_isByLaw 29 = .ok (.aload_n 0, 1) := by decide +kernel
theorem dX11_isByLaw_30 : decode cX11_isByLaw 30 = .ok (.getfield 32, 3) := by decide +kernel
theorem dX11_isByLaw_33 : decode cX11_isByLaw 33 = .ok (.iload 5, 2) := by decide +kernel
theorem dX11_isByLaw_35 : decode cX11_isByLaw 35 = .ok (.iaload, 1) := by decide +kernel
theorem dX11_isByLaw_36 : decode cX11_isByLaw 36 = .ok (.iadd, 1) := by decide +kernel
theorem dX11_isByLaw_37 : decode cX11_isByLaw 37 = .ok (.istore_n 3, 1) := by decide +kernel
theorem dX11_isByLaw_38 : decode cX11_isByLaw 38 = .ok (.iconst 0, 1) := by decide +kernel
theorem dX11_isByLaw_39 : decode cX11_isByLaw 39 = .ok (.istore 6, 2) := by decide +kernel
theorem dX11_isByLaw_41 : decode cX11_isByLaw 41 = .ok (.iload 6, 2) := by decide +kernel
theorem dX11_isByLaw_43 : decode cX11_isByLaw 43 = .ok (.iload 5, 2) := by decide +kernel
theorem dX11_isByLaw_45 : decode cX11_isByLaw 45 = .ok (.if_icmp .ge 47, 3) := by decide +kernel
theorem dX11_isByLaw_48 : decode cX11_isByLaw 48 = .ok (.iload 4, 2) := by decide +kernel
theorem dX11_isByLaw_50 : decode cX11_isByLaw 50 = .ok (.ifCond .eq 33, 3) := by decide +kernel
theorem dX11_isByLaw_53 : decode cX11_isByLaw 53 = .ok (.iload_n 1, 1) := by decide +kernel
theorem dX11_isByLaw_54 : decode cX11_isByLaw 54 = .ok (.iload 6, 2) := by decide +kernel
theorem dX11_isByLaw_56 : decode cX11_isByLaw 56 = .ok (.invokestatic 126, 3) := by decide +kernel
theorem dX11_isByLaw_59 : decode cX11_isByLaw 59 = .ok (.ifCond .eq 20, 3) := by decide +kernel
theorem dX11_isByLaw_62 : decode cX11_isByLaw 62 = .ok (.aload_n 0, 1) := by decide +kernel
theorem dX11_isByLaw_63 : decode cX11_isByLaw 63 = .ok (.getfield 32, 3) := by decide +kernel
theorem dX11_isByLaw_66 : decode cX11_isByLaw 66 = .ok (.iload 6, 2) := by decide +kernel
theorem dX11_isByLaw_68 : decode cX11_isByLaw 68 = .ok (.iaload, 1) := by decide +kernel
theorem dX11_isByLaw_69 : decode cX11_isByLaw 69 = .ok (.aload_n 0, 1) := by decide +kernel
theorem dX11_isByLaw_70 : decode cX11_isByLaw 70 = .ok (.getfield 32, 3) := by decide +kernel
theorem dX11_isByLaw_73 : decode cX11_isByLaw 73 = .ok (.iload 5, 2) := by decide +kernel
theorem dX11_isByLaw_75 : decode cX11_isByLaw 75 = .ok (.iaload, 1) := by decide +kernel
theorem dX11_isByLaw_76 : decode cX11_isByLaw 76 = .ok (.if_icmp .eq 7, 3) := by decide +kernel
theorem dX11_isByLaw_79 : decode cX11_isByLaw 79 = .ok (.iconst 1, 1) := by decide +kernel
theorem dX11_isByLaw_80 : decode cX11_isByLaw 80 = .ok (.goto 4, 3) := by decide +kernel
theorem dX11_isByLaw_83 : decode cX11_isByLaw 83 = .ok (.iconst 0, 1) := by decide +kernel
theorem dX11_isByLaw_84 : decode cX11_isByLaw 84 = .ok (.istore 4, 2) := by decide +kernel
theorem dX11_isByLaw_86 : decode cX11_isByLaw 86 = .ok (.iinc 6 1, 3) := by decide +kernel
theorem dX11_isByLaw_89 : decode cX11_isByLaw 89 = .ok (.goto (-48), 3) := by decide +kernel
theorem dX11_isByLaw_92 : decode cX11_isByLaw 92 = .ok (.iinc 5 1, 3) := by decide +kernel
theorem dX11_isByLaw_95 : decode cX11_isByLaw 95 = .ok (.goto (-87), 3) := by decide +kernel
theorem dX11_isByLaw_98 : decode cX11_isByLaw 98 = .ok (.iload_n 2, 1) := by decide +kernel
theorem dX11_isByLaw_99 : decode cX11_isByLaw 99 = .ok (.tableswitch 91 0 3 #[29, 42, 55, 88], 29) := by decide +kernel
theorem dX11_isByLaw_128 : decode cX11_isByLaw 128 = .ok (.iload_n 3, 1) := by decide +kernel
theorem dX11_isByLaw_129 : decode cX11_isByLaw 129 = .ok (.bipush 10, 2) := by decide +kernel
theorem dX11_isByLaw_131 : decode cX11_isByLaw 131 = .ok (.irem, 1) := by decide +kernel
theorem dX11_isByLaw_132 : decode cX11_isByLaw 132 = .ok (.ifCond .ne 7, 3) := by decide +kernel
theorem dX11_isByLaw_135 : decode cX11_isByLaw 135 = .ok (.iconst 1, 1) := by decide +kernel
theorem dX11_isByLaw_136 : decode cX11_isByLaw 136 = .ok (.goto 4, 3) := by decide +kernel
theorem dX11_isByLaw_139 : decode cX11_isByLaw 139 = .ok (.iconst 0, 1) := by decide +kernel
theorem dX11_isByLaw_140 : decode cX11_isByLaw 140 = .ok (.ireturn, 1) := by decide +kernel
theorem dX11_isByLaw_141 : decode cX11_isByLaw 141 = .ok (.iload_n 3, 1) := by decide +kernel
theorem dX11_isByLaw_142 : decode cX11_isByLaw 142 = .ok (.bipush 7, 2) := by decide +kernel
theorem dX11_isByLaw_144 : decode cX11_isByLaw 144 = .ok (.irem, 1) := by decide +kernel
theorem dX11_isByLaw_145 : decode cX11_isByLaw 145 = .ok (.ifCond .ne 7, 3) := by decide +kernel
theorem dX11_isByLaw_148 : decode cX11_isByLaw 148 = .ok (.iconst 1, 1) := by decide +kernel
theorem dX11_isByLaw_149 : decode cX11_isByLaw 149 = .ok (.goto 4, 3) := by decide +kernel
theorem dX11_isByLaw_152 : decode cX11_isByLaw 152 = .ok (.iconst 0, 1) := by decide +kernel
theorem dX11_isByLaw_153 : decode cX11_isByLaw 153 = .ok (.ireturn, 1) := by decide +kernel
theorem dX11_isByLaw_154 : decode cX11_isByLaw 154 = .ok (.iconst 0, 1) := by decide +kernel
theorem dX11_isByLaw_155 : decode cX11_isByLaw 155 = .ok (.istore 5, 2) := by decide +kernel
theorem dX11_isByLaw_157 : decode cX11_isByLaw 157 = .ok (.iload 5, 2) := by decide +kernel
theorem dX11_isByLaw_159 : decode cX11_isByLaw 159 = .ok (.iload 5, 2) := by decide +kernel
theorem dX11_isByLaw_161 : decode cX11_isByLaw 161 = .ok (.imul, 1) := by decide +kernel
theorem dX11_isByLaw_162 : decode cX11_isByLaw 162 = .ok (.iload_n 3, 1) := by decide +kernel
theorem dX11_isByLaw_163 : decode cX11_isByLaw 163 = .ok (.if_icmp .ge 9, 3) := by decide +kernel
theorem dX11_isByLaw_166 : decode cX11_isByLaw 166 = .ok (.iinc 5 1, 3) := by decide +kernel
theorem dX11_isByLaw_169 : decode cX11_isByLaw 169 = .ok (.goto (-12), 3) := by decide +kernel
theorem dX11_isByLaw_172 : decode cX11_isByLaw 172 = .ok (.iload 5, 2) := by decide +kernel
theorem dX11_isByLaw_174 : decode cX11_isByLaw 174 = .ok (.iload 5, 2) := by decide +kernel
theorem dX11_isByLaw_176 : decode cX11_isByLaw 176 = .ok (.imul, 1) := by decide +kernel
theorem dX11_isByLaw_177 : decode cX11_isByLaw 177 = .ok (.iload_n 3, 1) := by decide +kernel
theorem dX11_isByLaw_178 : decode cX11_isByLaw 178 = .ok (.if_icmp .ne 7, 3) := by decide +kernel
theorem dX11_isByLaw_181 : decode cX11_isByLaw 181 = .ok (.iconst 1, 1) := by decide +kernel
theorem dX11_isByLaw_182 : decode cX11_isByLaw 182 = .ok (.goto 4, 3) := by decide +kernel
theorem dX11_isByLaw_185 : decode cX11_isByLaw 185 = .ok (.iconst 0, 1) := by decide +kernel
theorem dX11_isByLaw_186 : decode cX11_isByLaw 186 = .ok (.ireturn, 1) := by decide +kernel
theorem dX11_isByLaw_187 : decode cX11_isByLaw 187 = .ok (.iload 4, 2) := by decide +kernel
theorem dX11_isByLaw_189 : decode cX11_isByLaw 189 = .ok (.ireturn, 1) := by decide +kernel
theorem dX11_isByLaw_190 : decode cX11_isByLaw 190 = .ok (.iload 4, 2) := by decide +kernel
theorem dX11_isByLaw_192 : decode cX11_isByLaw 192 = .ok (.ifCond .eq 14, 3) := by decide +kernel
theorem dX11_isByLaw_195 : decode cX11_isByLaw 195 = .ok (.iload_n 3, 1) := by decide +kernel
theorem dX11_isByLaw_196 : decode cX11_isByLaw 196 = .ok (.bipush 10, 2) := by decide +kernel
theorem dX11_isByLaw_198 : decode cX11_isByLaw 198 = .ok (.irem, 1) := by decide +kernel
theorem dX11_isByLaw_199 : decode cX11_isByLaw 199 = .ok (.ifCond .ne 7, 3) := by decide +kernel
theorem dX11_isByLaw_202 : decode cX11_isByLaw 202 = .ok (.iconst 1, 1) := by decide +kernel
theorem dX11_isByLaw_203 : decode cX11_isByLaw 203 = .ok (.goto 4, 3) := by decide +kernel
theorem dX11_isByLaw_206 : decode cX11_isByLaw 206 = .ok (.iconst 0, 1) := by decide +kernel
theorem dX11_isByLaw_207 : decode cX11_isByLaw 207 = .ok (.ireturn, 1) := by decide +kernel
theorem dX11_whyNot_0 : decode cX11_whyNot 0 = .ok (.iconst 1, 1) := by decide +kernel
theorem dX11_whyNot_1 : decode cX11_whyNot 1 = .ok (.istore_n 3, 1) := by decide +kernel
theorem dX11_whyNot_2 : decode cX11_whyNot 2 = .ok (.iconst 0, 1) := by decide +kernel
theorem dX11_whyNot_3 : decode cX11_whyNot 3 = .ok (.istore 4, 2) := by decide +kernel
theorem dX11_whyNot_5 : decode cX11_whyNot 5 = .ok (.iconst 0, 1) := by decide +kernel
theorem dX11_whyNot_6 : decode cX11_whyNot 6 = .ok (.istore 5, 2) := by decide +kernel
theorem dX11_whyNot_8 : decode cX11_whyNot 8 = .ok (.iconst 0, 1) := by decide +kernel
theorem dX11_whyNot_9 : decode cX11_whyNot 9 = .ok (.istore 6, 2) := by decide +kernel
theorem dX11_whyNot_11 : decode cX11_whyNot 11 = .ok (.iload 6, 2) := by decide +kernel
theorem dX11_whyNot_13 : decode cX11_whyNot 13 = .ok (.aload_n 0, 1) := by decide +kernel
theorem dX11_whyNot_14 : decode cX11_whyNot 14 = .ok (.getfield 7, 3) := by decide +kernel
theorem dX11_whyNot_17 : decode cX11_whyNot 17 = .ok (.iconst 0, 1) := by decide +kernel
theorem dX11_whyNot_18 : decode cX11_whyNot 18 = .ok (.iaload, 1) := by decide +kernel
theorem dX11_whyNot_19 : decode cX11_whyNot 19 = .ok (.if_icmp .ge 94, 3) := by decide +kernel
theorem dX11_whyNot_22 : decode cX11_whyNot 22 = .ok (.iload_n 1, 1) := by decide +kernel
theorem dX11_whyNot_23 : decode cX11_whyNot 23 = .ok (.iload 6, 2) := by decide +kernel
theorem dX11_whyNot_25 : decode cX11_whyNot 25 = .ok (.invokestatic 126, 3) := by decide +kernel
theorem dX11_whyNot_28 : decode cX11_whyNot 28 = .ok (.ifCond .eq 79, 3) := by decide +kernel
theorem dX11_whyNot_31 : decode cX11_whyNot 31 = .ok (.iload_n 3, 1) := by decide +kernel
theorem dX11_whyNot_32 : decode cX11_whyNot 32 = .ok (.ifCond .eq 17, 3) := by decide +kernel
theorem dX11_whyNot_35 : decode cX11_whyNot 35 = .ok (.aload_n 0, 1) := by decide +kernel
theorem dX11_whyNot_36 : decode cX11_whyNot 36 = .ok (.getfield 32, 3) := by decide +kernel
theorem dX11_whyNot_39 : decode cX11_whyNot 39 = .ok (.iload 6, 2) := by decide +kernel
theorem dX11_whyNot_41 : decode cX11_whyNot 41 = .ok (.iaload, 1) := by decide +kernel
theorem dX11_whyNot_42 : decode cX11_whyNot 42 = .ok (.ifCond .lt 7, 3) := by decide +kernel
theorem dX11_whyNot_45 : decode cX11_whyNot 45 = .ok (.iconst 1, 1) := by decide +kernel
theorem dX11_whyNot_46 : decode cX11_whyNot 46 = .ok (.goto 4, 3) := by decide +kernel
theorem dX11_whyNot_49 : decode cX11_whyNot 49 = .ok (.iconst 0, 1) := by decide +kernel
theorem dX11_whyNot_50 : decode cX11_whyNot 50 = .ok (.istore_n 3, 1) := by decide +kernel
theorem dX11_whyNot_51 : decode cX11_whyNot 51 = .ok (.iload 4, 2) := by decide +kernel
theorem dX11_whyNot_53 : decode cX11_whyNot 53 = .ok (.ifCond .ne 20, 3) := by decide +kernel
theorem dX11_whyNot_56 : decode cX11_whyNot 56 = .ok (.aload_n 0, 1) := by decide +kernel
theorem dX11_whyNot_57 : decode cX11_whyNot 57 = .ok (.getfield 7, 3) := by decide +kernel
theorem dX11_whyNot_60 : decode cX11_whyNot 60 = .ok (.bipush 13, 2) := by decide +kernel
theorem dX11_whyNot_62 : decode cX11_whyNot 62 = .ok (.iload 6, 2) := by decide +kernel
theorem dX11_whyNot_64 : decode cX11_whyNot 64 = .ok (.iadd, 1) := by decide +kernel
theorem dX11_whyNot_65 : decode cX11_whyNot 65 = .ok (.iaload, 1) := by decide +kernel
theorem dX11_whyNot_66 : decode cX11_whyNot 66 = .ok (.iload_n 1, 1) := by decide +kernel
theorem dX11_whyNot_67 : decode cX11_whyNot 67 = .ok (.iconst (-1), 1) := by decide +kernel
theorem dX11_whyNot_68 : decode cX11_whyNot 68 = .ok (.ixor, 1) := by decide +kernel
theorem dX11_whyNot_69 : decode cX11_whyNot 69 = .ok (.iand, 1) := by decide +kernel
theorem dX11_whyNot_70 : decode cX11_whyNot 70 = .ok (.ifCond .eq 7, 3) := by decide +kernel
theorem dX11_whyNot_73 : decode cX11_whyNot 73 = .ok (.iconst 1, 1) := by decide +kernel
theorem dX11_whyNot_74 : decode cX11_whyNot 74 = .ok (.goto 4, 3) := by decide +kernel
theorem dX11_whyNot_77 : decode cX11_whyNot 77 = .ok (.iconst 0, 1) := by decide +kernel
theorem dX11_whyNot_78 : decode cX11_whyNot 78 = .ok (.istore 4, 2) := by decide +kernel
theorem dX11_whyNot_80 : decode cX11_whyNot 80 = .ok (.iload 5, 2) := by decide +kernel
theorem dX11_whyNot_82 : decode cX11_whyNot 82 = .ok (.ifCond .ne 18, 3) := by decide +kernel
theorem dX11_whyNot_85 : decode cX11_whyNot 85 = .ok (.aload_n 0, 1) := by decide +kernel
theorem dX11_whyNot_86 : decode cX11_whyNot 86 = .ok (.getfield 7, 3) := by decide +kernel
theorem dX11_whyNot_89 : decode cX11_whyNot 89 = .ok (.bipush 21, 2) := by decide +kernel
theorem dX11_whyNot_91 : decode cX11_whyNot 91 = .ok (.iload 6, 2) := by decide +kernel
theorem dX11_whyNot_93 : decode cX11_whyNot 93 = .ok (.iadd, 1) := by decide +kernel
theorem dX11_whyNot_94 : decode cX11_whyNot 94 = .ok (.iaload, 1) := by decide +kernel
theorem dX11_whyNot_95 : decode cX11_whyNot 95 = .ok (.iload_n 1, 1) := by decide +kernel
theorem dX11_whyNot_96 : decode cX11_whyNot 96 = .ok (.iand, 1) := by decide +kernel
theorem dX11_whyNot_97 : decode cX11_whyNot 97 = .ok (.ifCond .eq 7, 3) := by decide +kernel
theorem dX11_whyNot_100 : decode cX11_whyNot 100 = .ok (.iconst 1, 1) := by decide +kernel
theorem dX11_whyNot_101 : decode cX11_whyNot 101 = .ok (.goto 4, 3) := by decide +kernel
theorem dX11_whyNot_104 : decode cX11_whyNot 104 = .ok (.iconst 0, 1) := by decide +kernel
theorem dX11_whyNot_105 : decode cX11_whyNot 105 = .ok (.istore 5, 2) := by decide +kernel
theorem dX11_whyNot_107 : decode cX11_whyNot 107 = .ok (.iinc 6 1, 3) := by decide +kernel
theorem dX11_whyNot_110 : decode cX11_whyNot 110 = .ok (.goto (-99), 3) := by decide +kernel
theorem dX11_whyNot_113 : decode cX11_whyNot 113 = .ok (.iload_n 3, 1) := by decide +kernel
theorem dX11_whyNot_114 : decode cX11_whyNot 114 = .ok (.ifCond .ne 7, 3) := by decide +kernel
theorem dX11_whyNot_117 : decode cX11_whyNot 117 = .ok (.iconst 1, 1) := by decide +kernel
theorem dX11_whyNot_118 : decode cX11_whyNot 118 = .ok (.goto 63, 3) := by decide +kernel
theorem dX11_whyNot_121 : decode cX11_whyNot 121 = .ok (.iload_n 1, 1) := by decide +kernel
theorem dX11_whyNot_122 : decode cX11_whyNot 122 = .ok (.invokestatic 142, 3) := by decide +kernel
theorem dX11_whyNot_125 : decode cX11_whyNot 125 = .ok (.aload_n 0, 1) := by decide +kernel
theorem dX11_whyNot_126 : decode cX11_whyNot 126 = .ok (.getfield 7, 3) := by decide +kernel
theorem dX11_whyNot_129 : decode cX11_whyNot 129 = .ok (.bipush 33, 2) := by decide +kernel
theorem dX11_whyNot_131 : decode cX11_whyNot 131 = .ok (.iload_n 2, 1) := by decide +kernel
theorem dX11_whyNot_132 : decode cX11_whyNot 132 = .ok (.iadd, 1) := by decide +kernel
theorem dX11_whyNot_133 : decode cX11_whyNot 133 = .ok (.iaload, 1) := by decide +kernel
theorem dX11_whyNot_134 : decode cX11_whyNot 134 = .ok (.if_icmp .le 7, 3) := by decide +kernel
theorem dX11_whyNot_137 : decode cX11_whyNot 137 = .ok (.iconst 2, 1) := by decide +kernel
theorem dX11_whyNot_138 : decode cX11_whyNot 138 = .ok (.goto 43, 3) := by decide +kernel
theorem dX11_whyNot_141 : decode cX11_whyNot 141 = .ok (.iload 4, 2) := by decide +kernel
theorem dX11_whyNot_143 : decode cX11_whyNot 143 = .ok (.ifCond .eq 7, 3) := by decide +kernel
theorem dX11_whyNot_146 : decode cX11_whyNot 146 = .ok (.iconst 3, 1) := by decide +kernel
theorem dX11_whyNot_147 : decode cX11_whyNot 147 = .ok (.goto 34, 3) := by decide +kernel
theorem dX11_whyNot_150 : decode cX11_whyNot 150 = .ok (.iload 5, 2) := by decide +kernel
theorem dX11_whyNot_152 : decode cX11_whyNot 152 = .ok (.ifCond .eq 7, 3) := by decide +kernel
theorem dX11_whyNot_155 : decode cX11_whyNot 155 = .ok (.iconst 4, 1) := by decide +kernel
theorem dX11_whyNot_156 : decode cX11_whyNot 156 = .ok (.goto 25, 3) := by decide +kernel
theorem dX11_whyNot_159 : decode cX11_whyNot 159 = .ok (.aload_n 0, 1) := by decide +kernel
theorem dX11_whyNot_160 : decode cX11_whyNot 160 = .ok (.iload_n 1, 1) := by decide +kernel
theorem dX11_whyNot_161 : decode cX11_whyNot 161 = .ok (.aload_n 0, 1) := by decide +kernel
theorem dX11_whyNot_162 : decode cX11_whyNot 162 = .ok (.getfield 7, 3) := by decide +kernel
theorem dX11_whyNot_165 : decode cX11_whyNot 165 = .ok (.bipush 29, 2) := by decide +kernel
theorem dX11_whyNot_167 : decode cX11_whyNot 167 = .ok (.iload_n 2, 1) := by decide +kernel
theorem dX11_whyNot_168 : decode cX11_whyNot 168 = .ok (.iadd, 1) := by decide +kernel
theorem dX11_whyNot_169 : decode cX11_whyNot 169 = .ok (.iaload, 1) := by decide +kernel
theorem dX11_whyNot_170 : decode cX11_whyNot 170 = .ok (.invokevirtual 145, 3) := by decide +kernel
theorem dX11_whyNot_173 : decode cX11_whyNot 173 = .ok (.ifCond .eq 7, 3) := by decide +kernel
theorem dX11_whyNot_176 : decode cX11_whyNot 176 = .ok (.iconst 0, 1) := by decide +kernel
theorem dX11_whyNot_177 : decode cX11_whyNot 177 = .ok (.goto 4, 3) := by decide +kernel
theorem dX11_whyNot_180 : decode cX11_whyNot 180 = .ok (.iconst 5, 1) := by decide +kernel
theorem dX11_whyNot_181 : decode cX11_whyNot 181 = .ok (.ireturn, 1) := by decide +kernel
theorem dX11_isCompany_0 : decode cX11_isCompany 0 = .ok (.iload_n 1, 1) := by decide +kernel
theorem dX11_isCompany_1 : decode cX11_isCompany 1 = .ok (.i2l, 1) := by decide +kernel
theorem dX11_isCompany_2 : decode cX11_isCompany 2 = .ok (.lconst 1, 1) := by decide +kernel
theorem dX11_isCompany_3 : decode cX11_isCompany 3 = .ok (.iconst 1, 1) := by decide +kernel
theorem dX11_isCompany_4 : decode cX11_isCompany 4 = .ok (.aload_n 0, 1) := by decide +kernel
theorem dX11_isCompany_5 : decode cX11_isCompany 5 = .ok (.getfield 7, 3) := by decide +kernel
theorem dX11_isCompany_8 : decode cX11_isCompany 8 = .ok (.iconst 0, 1) := by decide +kernel
theorem dX11_isCompany_9 : decode cX11_isCompany 9 = .ok (.iaload, 1) := by decide +kernel
theorem dX11_isCompany_10 : decode cX11_isCompany 10 = .ok (.ishl, 1) := by decide +kernel
theorem dX11_isCompany_11 : decode cX11_isCompany 11 = .ok (.iconst 1, 1) := by decide +kernel
theorem dX11_isCompany_12 : decode cX11_isCompany 12 = .ok (.isub, 1) := by decide +kernel
theorem dX11_isCompany_13 : decode cX11_isCompany 13 = .ok (.i2l, 1) := by decide +kernel
theorem dX11_isCompany_14 : decode cX11_isCompany 14 = .ok (.invokestatic 66, 3) := by decide +kernel
theorem dX11_isCompany_17 : decode cX11_isCompany 17 = .ok (.ireturn, 1) := by decide +kernel
theorem dX11_why_0 : decode cX11_why 0 = .ok (.aload_n 0, 1) := by decide +kernel
theorem dX11_why_1 : decode cX11_why 1 = .ok (.iload_n 1, 1) := by decide +kernel
theorem dX11_why_2 : decode cX11_why 2 = .ok (.invokevirtual 148, 3) := by decide +kernel
theorem dX11_why_5 : decode cX11_why 5 = .ok (.ifCond .eq 18, 3) := by decide +kernel
theorem dX11_why_8 : decode cX11_why 8 = .ok (.aload_n 0, 1) := by decide +kernel
theorem dX11_why_9 : decode cX11_why 9 = .ok (.iload_n 2, 1) := by decide +kernel
theorem dX11_why_10 : decode cX11_why 10 = .ok (.invokevirtual 151, 3) := by decide +kernel
theorem dX11_why_13 : decode cX11_why 13 = .ok (.ifCond .eq 10, 3) := by decide +kernel
theorem dX11_why_16 : decode cX11_why 16 = .ok (.iload_n 3, 1) := by decide +kernel
theorem dX11_why_17 : decode cX11_why 17 = .ok (.invokestatic 106, 3) := by decide +kernel
theorem dX11_why_20 : decode cX11_why 20 = .ok (.ifCond .ne 10, 3) := by decide +kernel
theorem dX11_why_23 : decode cX11_why 23 = .ok (.aload_n 0, 1) := by decide +kernel
theorem dX11_why_24 : decode cX11_why 24 = .ok (.bipush (-10), 2) := by decide +kernel
theorem dX11_why_26 : decode cX11_why 26 = .ok (.invokevirtual 103, 3) := by decide +kernel
theorem dX11_why_29 : decode cX11_why 29 = .ok (.ireturn, 1) := by decide +kernel
theorem dX11_why_30 : decode cX11_why 30 = .ok (.aload_n 0, 1) := by decide +kernel
theorem dX11_why_31 : decode cX11_why 31 = .ok (.iload_n 3, 1) := by decide +kernel
theorem dX11_why_32 : decode cX11_why 32 = .ok (.invokevirtual 139, 3) := by decide +kernel
theorem dX11_why_35 : decode cX11_why 35 = .ok (.aload_n 0, 1) := by decide +kernel
theorem dX11_why_36 : decode cX11_why 36 = .ok (.iload_n 1, 1) := by decide +kernel
theorem dX11_why_37 : decode cX11_why 37 = .ok (.iload_n 2, 1) := by decide +kernel
theorem dX11_why_38 : decode cX11_why 38 = .ok (.invokevirtual 154, 3) := by decide +kernel
theorem dX11_why_41 : decode cX11_why 41 = .ok (.ireturn, 1) := by decide +kernel
theorem dX11_type_0 : decode cX11_type 0 = .ok (.iload_n 3, 1) := by decide +kernel
theorem dX11_type_1 : decode cX11_type 1 = .ok (.i2l, 1) := by decide +kernel
theorem dX11_type_2 : decode cX11_type 2 = .ok (.lconst 1, 1) := by decide +kernel
theorem dX11_type_3 : decode cX11_type 3 = .ok (.ldc2_w 121, 3) := by decide +kernel
theorem dX11_type_6 : decode cX11_type 6 = .ok (.invokestatic 66, 3) := by decide +kernel
theorem dX11_type_9 : decode cX11_type 9 = .ok (.ifCond .ne 10, 3) := by decide +kernel
theorem dX11_type_12 : decode cX11_type 12 = .ok (.aload_n 0, 1) := by decide +kernel
theorem dX11_type_13 : decode cX11_type 13 = .ok (.bipush (-2), 2) := by decide +kernel
theorem dX11_type_15 : decode cX11_type 15 = .ok (.invokevirtual 103, 3) := by decide +kernel
theorem dX11_type_18 : decode cX11_type 18 = .ok (.ireturn, 1) := by decide +kernel
theorem dX11_type_19 : decode cX11_type 19 = .ok (.aload_n 0, 1) := by decide +kernel
theorem dX11_type_20 : decode cX11_type 20 = .ok (.getfield 7, 3) := by decide +kernel
theorem dX11_type_23 : decode cX11_type 23 = .ok (.iconst 2, 1) := by decide +kernel
theorem dX11_type_24 : decode cX11_type 24 = .ok (.iaload, 1) := by decide +kernel
theorem dX11_type_25 : decode cX11_type 25 = .ok (.iload_n 3, 1) := by decide +kernel
theorem dX11_type_26 : decode cX11_type 26 = .ok (.iadd, 1) := by decide +kernel
theorem dX11_type_27 : decode cX11_type 27 = .ok (.sipush 200, 3) := by decide +kernel
theorem dX11_type_30 : decode cX11_type 30 = .ok (.if_icmp .le 8, 3) := by decide +kernel
theorem dX11_type_33 : decode cX11_type 33 = .ok (.aload_n 0, 1) := by decide +kernel
theorem dX11_type_34 : decode cX11_type 34 = .ok (.invokevirtual 115, 3) := by decide +kernel
theorem dX11_type_37 : decode cX11_type 37 = .ok (.ireturn, 1) := by decide +kernel
theorem dX11_type_38 : decode cX11_type 38 = .ok (.iload_n 3, 1) := by decide +kernel
theorem dX11_type_39 : decode cX11_type 39 = .ok (.iconst 1, 1) := by decide +kernel
theorem dX11_type_40 : decode cX11_type 40 = .ok (.isub, 1) := by decide +kernel
theorem dX11_type_41 : decode cX11_type 41 = .ok (.istore 4, 2) := by decide +kernel
theorem dX11_type_43 : decode cX11_type 43 = .ok (.iload 4, 2) := by decide +kernel
theorem dX11_type_45 : decode cX11_type 45 = .ok (.ifCond .lt 45, 3) := by decide +kernel
theorem dX11_type_48 : decode cX11_type 48 = .ok (.aload_n 0, 1) := by decide +kernel
theorem dX11_type_49 : decode cX11_type 49 = .ok (.getfield 7, 3) := by decide +kernel
theorem dX11_type_52 : decode cX11_type 52 = .ok (.bipush 77, 2) := by decide +kernel
theorem dX11_type_54 : decode cX11_type 54 = .ok (.aload_n 0, 1) := by decide +kernel
theorem dX11_type_55 : decode cX11_type 55 = .ok (.getfield 7, 3) := by decide +kernel
theorem dX11_type_58 : decode cX11_type 58 = .ok (.iconst 2, 1) := by decide +kernel
theorem dX11_type_59 : decode cX11_type 59 = .ok (.iaload, 1) := by decide +kernel
theorem dX11_type_60 : decode cX11_type 60 = .ok (.iadd, 1) := by decide +kernel
theorem dX11_type_61 : decode cX11_type 61 = .ok (.lload_n 1, 1) := by decide +kernel
theorem dX11_type_62 : decode cX11_type 62 = .ok (.bipush 8, 2) := by decide +kernel
theorem dX11_type_64 : decode cX11_type 64 = .ok (.iload 4, 2) := by decide +kernel
theorem dX11_type_66 : decode cX11_type 66 = .ok (.imul, 1) := by decide +kernel
theorem dX11_type_67 : decode cX11_type 67 = .ok (.lshr, 1) := by decide +kernel
theorem dX11_type_68 : decode cX11_type 68 = .ok (.ldc2_w 157, 3) := by decide +kernel
theorem dX11_type_71 : decode cX11_type 71 = .ok (.land, 1) := by decide +kernel
theorem dX11_type_72 : decode cX11_type 72 = .ok (.l2i, 1) := by decide +kernel
theorem dX11_type_73 : decode cX11_type 73 = .ok (.iastore, 1) := by decide +kernel
theorem dX11_type_74 : decode cX11_type 74 = .ok (.aload_n 0, 1) := by decide +kernel
theorem dX11_type_75 : decode cX11_type 75 = .ok (.getfield 7, 3) := by decide +kernel
theorem dX11_type_78 : decode cX11_type 78 = .ok (.iconst 2, 1) := by decide +kernel
theorem dX11_type_79 : decode cX11_type 79 = .ok (.dup2, 1) := by decide +kernel
theorem dX11_type_80 : decode cX11_type 80 = .ok (.iaload, 1) := by decide +kernel
theorem dX11_type_81 : decode cX11_type 81 = .ok (.iconst 1, 1) := by decide +kernel
theorem dX11_type_82 : decode cX11_type 82 = .ok (.iadd, 1) := by decide +kernel
theorem dX11_type_83 : decode cX11_type 83 = .ok (.iastore, 1) := by decide +kernel
theorem dX11_type_84 : decode cX11_type 84 = .ok (.iinc 4 (-1), 3) := by decide +kernel
theorem dX11_type_87 : decode cX11_type 87 = .ok (.goto (-44), 3) := by decide +kernel
theorem dX11_type_90 : decode cX11_type 90 = .ok (.aload_n 0, 1) := by decide +kernel
theorem dX11_type_91 : decode cX11_type 91 = .ok (.getfield 7, 3) := by decide +kernel
theorem dX11_type_94 : decode cX11_type 94 = .ok (.iconst 2, 1) := by decide +kernel
theorem dX11_type_95 : decode cX11_type 95 = .ok (.iaload, 1) := by decide +kernel
theorem dX11_type_96 : decode cX11_type 96 = .ok (.ireturn, 1) := by decide +kernel
theorem dX11_clear_0 : decode cX11_clear 0 = .ok (.aload_n 0, 1) := by decide +kernel
theorem dX11_clear_1 : decode cX11_clear 1 = .ok (.getfield 7, 3) := by decide +kernel
theorem dX11_clear_4 : decode cX11_clear 4 = .ok (.iconst 2, 1) := by decide +kernel
theorem dX11_clear_5 : decode cX11_clear 5 = .ok (.iaload, 1) := by decide +kernel
theorem dX11_clear_6 : decode cX11_clear 6 = .ok (.istore_n 1, 1) := by decide +kernel
theorem dX11_clear_7 : decode cX11_clear 7 = .ok (.aload_n 0, 1) := by decide +kernel
theorem dX11_clear_8 : decode cX11_clear 8 = .ok (.getfield 7, 3) := by decide +kernel
theorem dX11_clear_11 : decode cX11_clear 11 = .ok (.iconst 2, 1) := by decide +kernel
theorem dX11_clear_12 : decode cX11_clear 12 = .ok (.iconst 0, 1) := by decide +kernel
theorem dX11_clear_13 : decode cX11_clear 13 = .ok (.iastore, 1) := by decide +kernel
theorem dX11_clear_14 : decode cX11_clear 14 = .ok (.iload_n 1, 1) := by decide +kernel
theorem dX11_clear_15 : decode cX11_clear 15 = .ok (.ireturn, 1) := by decide +kernel
theorem dX11_byteAt_0 : decode cX11_byteAt 0 = .ok (.iload_n 1, 1) := by decide +kernel
theorem dX11_byteAt_1 : decode cX11_byteAt 1 = .ok (.aload_n 0, 1) := by decide +kernel
theorem dX11_byteAt_2 : decode cX11_byteAt 2 = .ok (.getfield 7, 3) := by decide +kernel
theorem dX11_byteAt_5 : decode cX11_byteAt 5 = .ok (.iconst 2, 1) := by decide +kernel
theorem dX11_byteAt_6 : decode cX11_byteAt 6 = .ok (.iaload, 1) := by decide +kernel
theorem dX11_byteAt_7 : decode cX11_byteAt 7 = .ok (.if_icmp .ge 15, 3) := by decide +kernel
theorem dX11_byteAt_10 : decode cX11_byteAt 10 = .ok (.aload_n 0, 1) := by decide +kernel
theorem dX11_byteAt_11 : decode cX11_byteAt 11 = .ok (.getfield 7, 3) := by decide +kernel
theorem dX11_byteAt_14 : decode cX11_byteAt 14 = .ok (.bipush 77, 2) := by decide +kernel
theorem dX11_byteAt_16 : decode cX11_byteAt 16 = .ok (.iload_n 1, 1) := by decide +kernel
theorem dX11_byteAt_17 : decode cX11_byteAt 17 = .ok (.iadd, 1) := by decide +kernel
theorem dX11_byteAt_18 : decode cX11_byteAt 18 = .ok (.iaload, 1) := by decide +kernel
theorem dX11_byteAt_19 : decode cX11_byteAt 19 = .ok (.goto 4, 3) := by decide +kernel
theorem dX11_byteAt_22 : decode cX11_byteAt 22 = .ok (.iconst 0, 1) := by decide +kernel
theorem dX11_byteAt_23 : decode cX11_byteAt 23 = .ok (.ireturn, 1) := by decide +kernel
theorem dX11_nextToken_0 : decode cX11_nextToken 0 = .ok (.aload_n 0, 1) := by decide +kernel
theorem dX11_nextToken_1 : decode cX11_nextToken 1 = .ok (.aload_n 0, 1) := by decide +kernel
theorem dX11_nextToken_2 : decode cX11_nextToken 2 = .ok (.getfield 159, 3) := by decide +kernel
theorem dX11_nextToken_5 : decode cX11_nextToken 5 = .ok (.putfield 162, 3) := by decide +kernel
theorem dX11_nextToken_8 : decode cX11_nextToken 8 = .ok (.aload_n 0, 1) := by decide +kernel
theorem dX11_nextToken_9 : decode cX11_nextToken 9 = .ok (.getfield 162, 3) := by decide +kernel
theorem dX11_nextToken_12 : decode cX11_nextToken 12 = .ok (.aload_n 0, 1) := by decide +kernel
theorem dX11_nextToken_13 : decode cX11_nextToken 13 = .ok (.getfield 7, 3) := by decide +kernel
theorem dX11_nextToken_16 : decode cX11_nextToken 16 = .ok (.iconst 2, 1) := by decide +kernel
theorem dX11_nextToken_17 : decode cX11_nextToken 17 = .ok (.iaload, 1) := by decide +kernel
theorem dX11_nextToken_18 : decode cX11_nextToken 18 = .ok (.if_icmp .ge 29, 3) := by decide +kernel
theorem dX11_nextToken_21 : decode cX11_nextToken 21 = .ok (.aload_n 0, 1) := by decide +kernel
theorem dX11_nextToken_22 : decode cX11_nextToken 22 = .ok (.aload_n 0, 1) := by decide +kernel
theorem dX11_nextToken_23 : decode cX11_nextToken 23 = .ok (.getfield 162, 3) := by decide +kernel
theorem dX11_nextToken_26 : decode cX11_nextToken 26 = .ok (.invokevirtual 165, 3) := by decide +kernel
theorem dX11_nextToken_29 : decode cX11_nextToken 29 = .ok (.bipush 32, 2) := by decide +kernel
theorem dX11_nextToken_31 : decode cX11_nextToken 31 = .ok (.if_icmp .ne 16, 3) := by decide +kernel
theorem dX11_nextToken_34 : decode cX11_nextToken 34 = .ok (.aload_n 0, 1) := by decide +kernel
theorem dX11_nextToken_35 : decode cX11_nextToken 35 = .ok (.dup, 1) := by decide +kernel
theorem dX11_nextToken_36 : decode cX11_nextToken 36 = .ok (.getfield 162, 3) := by decide +kernel
theorem dX11_nextToken_39 : decode cX11_nextToken 39 = .ok (.iconst 1, 1) := by decide +kernel
theorem dX11_nextToken_40 : decode cX11_nextToken 40 = .ok (.iadd, 1) := by decide +kernel
theorem dX11_nextToken_41 : decode cX11_nextToken 41 = .ok (.putfield 162, 3) := by decide +kernel
theorem dX11_nextToken_44 : decode cX11_nextToken 44 = .ok (.goto (-36), 3) := by decide +kernel
theorem dX11_nextToken_47 : decode cX11_nextToken 47 = .ok (.aload_n 0, 1) := by decide +kernel
theorem dX11_nextToken_48 : decode cX11_nextToken 48 = .ok (.aload_n 0, 1) := by decide +kernel
theorem dX11_nextToken_49 : decode cX11_nextToken 49 = .ok (.getfield 162, 3) := by decide +kernel
theorem dX11_nextToken_52 : decode cX11_nextToken 52 = .ok (.putfield 159, 3) := by decide +kernel
theorem dX11_nextToken_55 : decode cX11_nextToken 55 = .ok (.aload_n 0, 1) := by decide +kernel
theorem dX11_nextToken_56 : decode cX11_nextToken 56 = .ok (.lconst 0, 1) := by decide +kernel
theorem dX11_nextToken_57 : decode cX11_nextToken 57 = .ok (.putfield 168, 3) := by decide +kernel
theorem dX11_nextToken_60 : decode cX11_nextToken 60 = .ok (.aload_n 0, 1) := by decide +kernel
theorem dX11_nextToken_61 : decode cX11_nextToken 61 = .ok (.getfield 162, 3) := by decide +kernel
theorem dX11_nextToken_64 : decode cX11_nextToken 64 = .ok (.aload_n 0, 1) := by decide +kernel
theorem dX11_nextToken_65 : decode cX11_nextToken 65 = .ok (.getfield 7, 3) := by decide +kernel
theorem dX11_nextToken_68 : decode cX11_nextToken 68 = .ok (.iconst 2, 1) := by decide +kernel
theorem dX11_nextToken_69 : decode cX11_nextToken 69 = .ok (.iaload, 1) := by decide +kernel
theorem dX11_nextToken_70 : decode cX11_nextToken 70 = .ok (.if_icmp .lt 11, 3) := by decide +kernel
theorem dX11_nextToken_73 : decode cX11_nextToken 73 = .ok (.aload_n 0, 1) := by decide +kernel
theorem dX11_nextToken_74 : decode cX11_nextToken 74 = .ok (.iconst 0, 1) := by decide +kernel
theorem dX11_nextToken_75 : decode cX11_nextToken 75 = .ok (.putfield 171, 3) := by decide +kernel
theorem dX11_nextToken_78 : decode cX11_nextToken 78 = .ok (.goto 269, 3) := by decide +kernel
theorem dX11_nextToken_81 : decode cX11_nextToken 81 = .ok (.aload_n 0, 1) := by decide +kernel
theorem dX11_nextToken_82 : decode cX11_nextToken 82 = .ok (.aload_n 0, 1) := by decide +kernel
theorem dX11_nextToken_83 : decode cX11_nextToken 83 = .ok (.getfield 162, 3) := by decide +kernel
theorem dX11_nextToken_86 : decode cX11_nextToken 86 = .ok (.invokevirtual 165, 3) := by decide +kernel
theorem dX11_nextToken_89 : decode cX11_nextToken 89 = .ok (.i2l, 1) := by decide +kernel
theorem dX11_nextToken_90 : decode cX11_nextToken 90 = .ok (.ldc2_w 174, 3) := by decide +kernel
theorem dX11_nextToken_93 : decode cX11_nextToken 93 = .ok (.ldc2_w 176, 3) := by decide +kernel
theorem dX11_nextToken_96 : decode cX11_nextToken 96 = .ok (.invokestatic 66, 3) := by decide +kernel
theorem dX11_nextToken_99 : decode cX11_nextToken 99 = .ok (.ifCond .eq 88, 3) := by decide +kernel
theorem dX11_nextToken_102 : decode cX11_nextToken 102 = .ok (.aload_n 0, 1) := by decide +kernel
theorem dX11_nextToken_103 : decode cX11_nextToken 103 = .ok (.iconst 1, 1) := by decide +kernel
theorem dX11_nextToken_104 : decode cX11_nextToken 104 = .ok (.putfield 171, 3) := by decide +kernel
theorem dX11_nextToken_107 : decode cX11_nextToken 107 = .ok (.aload_n 0, 1) := by decide +kernel
theorem dX11_nextToken_108 : decode cX11_nextToken 108 = .ok (.aload_n 0, 1) := by decide +kernel
theorem dX11_nextToken_109 : decode cX11_nextToken 109 = .ok (.getfield 159, 3) := by decide +kernel
theorem dX11_nextToken_112 : decode cX11_nextToken 112 = .ok (.invokevirtual 165, 3) := by decide +kernel
theorem dX11_nextToken_115 : decode cX11_nextToken 115 = .ok (.i2l, 1) := by decide +kernel
theorem dX11_nextToken_116 : decode cX11_nextToken 116 = .ok (.ldc2_w 174, 3) := by decide +kernel
theorem dX11_nextToken_119 : decode cX11_nextToken 119 = .ok (.ldc2_w 176, 3) := by decide +kernel
theorem dX11_nextToken_122 : decode cX11_nextToken 122 = .ok (.invokestatic 66, 3) := by decide +kernel
theorem dX11_nextToken_125 : decode cX11_nextToken 125 = .ok (.ifCond .eq 222, 3) := by decide +kernel
theorem dX11_nextToken_128 : decode cX11_nextToken 128 = .ok (.aload_n 0, 1) := by decide +kernel
theorem dX11_nextToken_129 : decode cX11_nextToken 129 = .ok (.aload_n 0, 1) := by decide +kernel
theorem dX11_nextToken_130 : decode cX11_nextToken 130 = .ok (.getfield 159, 3) := by decide +kernel
theorem dX11_nextToken_133 : decode cX11_nextToken 133 = .ok (.aload_n 0, 1) := by decide +kernel
theorem dX11_nextToken_134 : decode cX11_nextToken 134 = .ok (.getfield 162, 3) := by decide +kernel
theorem dX11_nextToken_137 : decode cX11_nextToken 137 = .ok (.isub, 1) := by decide +kernel
theorem dX11_nextToken_138 : decode cX11_nextToken 138 = .ok (.bipush 8, 2) := by decide +kernel
theorem dX11_nextToken_140 : decode cX11_nextToken 140 = .ok (.if_icmp .ge 28, 3) := by decide +kernel
theorem dX11_nextToken_143 : decode cX11_nextToken 143 = .ok (.ldc2_w 178, 3) := by decide +kernel
theorem dX11_nextToken_146 : decode cX11_nextToken 146 = .ok (.aload_n 0, 1) := by decide +kernel
theorem dX11_nextToken_147 : decode cX11_nextToken 147 = .ok (.getfield 168, 3) := by decide +kernel
theorem dX11_nextToken_150 : decode cX11_nextToken 150 = .ok (.lmul, 1) := by decide +kernel
theorem dX11_nextToken_151 : decode cX11_nextToken 151 = .ok (.aload_n 0, 1) := by decide +kernel
theorem dX11_nextToken_152 : decode cX11_nextToken 152 = .ok (.aload_n 0, 1) := by decide +kernel
theorem dX11_nextToken_153 : decode cX11_nextToken 153 = .ok (.getfield 159, 3) := by decide +kernel
theorem dX11_nextToken_156 : decode cX11_nextToken 156 = .ok (.invokevirtual 165, 3) := by decide +kernel
theorem dX11_nextToken_159 : decode cX11_nextToken 159 = .ok (.i2l, 1) := by decide +kernel
theorem dX11_nextToken_160 : decode cX11_nextToken 160 = .ok (.ladd, 1) := by decide +kernel
theorem dX11_nextToken_161 : decode cX11_nextToken 161 = .ok (.ldc2_w 180, 3) := by decide +kernel
theorem dX11_nextToken_164 : decode cX11_nextToken 164 = .ok (.lsub, 1) := by decide +kernel
theorem dX11_nextToken_165 : decode cX11_nextToken 165 = .ok (.goto 6, 3) := by decide +kernel
theorem dX11_nextToken_168 : decode cX11_nextToken 168 = .ok (.ldc2_w 182, 3) := by decide +kernel
theorem dX11_nextToken_171 : decode cX11_nextToken 171 = .ok (.putfield 168, 3) := by decide +kernel
theorem dX11_nextToken_174 : decode cX11_nextToken 174 = .ok (.aload_n 0, 1) := by decide +kernel
theorem dX11_nextToken_175 : decode cX11_nextToken 175 = .ok (.dup, 1) := by decide +kernel
theorem dX11_nextToken_176 : decode cX11_nextToken 176 = .ok (.getfield 159, 3) := by decide +kernel
theorem dX11_nextToken_179 : decode cX11_nextToken 179 = .ok (.iconst 1, 1) := by decide +kernel
theorem dX11_nextToken_180 : decode cX11_nextToken 180 = .ok (.iadd, 1) := by decide +kernel
theorem dX11_nextToken_181 : decode cX11_nextToken 181 = .ok (.putfield 159, 3) := by decide +kernel
theorem dX11_nextToken_184 : decode cX11_nextToken 184 = .ok (.goto (-77), 3) := by decide +kernel
theorem dX11_nextToken_187 : decode cX11_nextToken 187 = .ok (.aload_n 0, 1) := by decide +kernel
theorem dX11_nextToken_188 : decode cX11_nextToken 188 = .ok (.aload_n 0, 1) := by decide +kernel
theorem dX11_nextToken_189 : decode cX11_nextToken 189 = .ok (.getfield 162, 3) := by decide +kernel
theorem dX11_nextToken_192 : decode cX11_nextToken 192 = .ok (.invokevirtual 165, 3) := by decide +kernel
theorem dX11_nextToken_195 : decode cX11_nextToken 195 = .ok (.i2l, 1) := by decide +kernel
theorem dX11_nextToken_196 : decode cX11_nextToken 196 = .ok (.ldc2_w 184, 3) := by decide +kernel
theorem dX11_nextToken_199 : decode cX11_nextToken 199 = .ok (.ldc2_w 186, 3) := by decide +kernel
theorem dX11_nextToken_202 : decode cX11_nextToken 202 = .ok (.invokestatic 66, 3) := by decide +kernel
theorem dX11_nextToken_205 : decode cX11_nextToken 205 = .ok (.ifCond .eq 110, 3) := by decide +kernel
theorem dX11_nextToken_208 : decode cX11_nextToken 208 = .ok (.aload_n 0, 1) := by decide +kernel
theorem dX11_nextToken_209 : decode cX11_nextToken 209 = .ok (.iconst 2, 1) := by decide +kernel
theorem dX11_nextToken_210 : decode cX11_nextToken 210 = .ok (.putfield 171, 3) := by decide +kernel
theorem dX11_nextToken_213 : decode cX11_nextToken 213 = .ok (.aload_n 0, 1) := by decide +kernel
theorem dX11_nextToken_214 : decode cX11_nextToken 214 = .ok (.aload_n 0, 1) := by decide +kernel
theorem dX11_nextToken_215 : decode cX11_nextToken 215 = .ok (.getfield 159, 3) := by decide +kernel
theorem dX11_nextToken_218 : decode cX11_nextToken 218 = .ok (.invokevirtual 165, 3) := by decide +kernel
theorem dX11_nextToken_221 : decode cX11_nextToken 221 = .ok (.i2l, 1) := by decide +kernel
theorem dX11_nextToken_222 : decode cX11_nextToken 222 = .ok (.ldc2_w 184, 3) := by decide +kernel
theorem dX11_nextToken_225 : decode cX11_nextToken 225 = .ok (.ldc2_w 186, 3) := by decide +kernel
theorem dX11_nextToken_228 : decode cX11_nextToken 228 = .ok (.invokestatic 66, 3) := by decide +kernel
theorem dX11_nextToken_231 : decode cX11_nextToken 231 = .ok (.ifCond .eq 59, 3) := by decide +kernel
theorem dX11_nextToken_234 : decode cX11_nextToken 234 = .ok (.aload_n 0, 1) := by decide +kernel
theorem dX11_nextToken_235 : decode cX11_nextToken 235 = .ok (.aload_n 0, 1) := by decide +kernel
theorem dX11_nextToken_236 : decode cX11_nextToken 236 = .ok (.getfield 159, 3) := by decide +kernel
theorem dX11_nextToken_239 : decode cX11_nextToken 239 = .ok (.aload_n 0, 1) := by decide +kernel
theorem dX11_nextToken_240 : decode cX11_nextToken 240 = .ok (.getfield 162, 3) := by decide +kernel
theorem dX11_nextToken_243 : decode cX11_nextToken 243 = .ok (.isub, 1) := by decide +kernel
theorem dX11_nextToken_244 : decode cX11_nextToken 244 = .ok (.iconst 4, 1) := by decide +kernel
theorem dX11_nextToken_245 : decode cX11_nextToken 245 = .ok (.if_icmp .ge 28, 3) := by decide +kernel
theorem dX11_nextToken_248 : decode cX11_nextToken 248 = .ok (.ldc2_w 188, 3) := by decide +kernel
theorem dX11_nextToken_251 : decode cX11_nextToken 251 = .ok (.aload_n 0, 1) := by decide +kernel
theorem dX11_nextToken_252 : decode cX11_nextToken 252 = .ok (.getfield 168, 3) := by decide +kernel
theorem dX11_nextToken_255 : decode cX11_nextToken 255 = .ok (.lmul, 1) := by decide +kernel
theorem dX11_nextToken_256 : decode cX11_nextToken 256 = .ok (.aload_n 0, 1) := by decide +kernel
theorem dX11_nextToken_257 : decode cX11_nextToken 257 = .ok (.aload_n 0, 1) := by decide +kernel
theorem dX11_nextToken_258 : decode cX11_nextToken 258 = .ok (.getfield 159, 3) := by decide +kernel
theorem dX11_nextToken_261 : decode cX11_nextToken 261 = .ok (.invokevirtual 165, 3) := by decide +kernel
theorem dX11_nextToken_264 : decode cX11_nextToken 264 = .ok (.i2l, 1) := by decide +kernel
theorem dX11_nextToken_265 : decode cX11_nextToken 265 = .ok (.ladd, 1) := by decide +kernel
theorem dX11_nextToken_266 : decode cX11_nextToken 266 = .ok (.ldc2_w 184, 3) := by decide +kernel
theorem dX11_nextToken_269 : decode cX11_nextToken 269 = .ok (.lsub, 1) := by decide +kernel
theorem dX11_nextToken_270 : decode cX11_nextToken 270 = .ok (.goto 4, 3) := by decide +kernel
theorem dX11_nextToken_273 : decode cX11_nextToken 273 = .ok (.lconst 0, 1) := by decide +kernel
theorem dX11_nextToken_274 : decode cX11_nextToken 274 = .ok (.putfield 168, 3) := by decide +kernel
theorem dX11_nextToken_277 : decode cX11_nextToken 277 = .ok (.aload_n 0, 1) := by decide +kernel
theorem dX11_nextToken_278 : decode cX11_nextToken 278 = .ok (.dup, 1) := by decide +kernel
theorem dX11_nextToken_279 : decode cX11_nextToken 279 = .ok (.getfield 159, 3) := by decide +kernel
theorem dX11_nextToken_282 : decode cX11_nextToken 282 = .ok (.iconst 1, 1) := by decide +kernel
theorem dX11_nextToken_283 : decode cX11_nextToken 283 = .ok (.iadd, 1) := by decide +kernel
theorem dX11_nextToken_284 : decode cX11_nextToken 284 = .ok (.putfield 159, 3) := by decide +kernel
theorem dX11_nextToken_287 : decode cX11_nextToken 287 = .ok (.goto (-74), 3) := by decide +kernel
theorem dX11_nextToken_290 : decode cX11_nextToken 290 = .ok (.aload_n 0, 1) := by decide +kernel
theorem dX11_nextToken_291 : decode cX11_nextToken 291 = .ok (.aload_n 0, 1) := by decide +kernel
theorem dX11_nextToken_292 : decode cX11_nextToken 292 = .ok (.getfield 159, 3) := by decide +kernel
theorem dX11_nextToken_295 : decode cX11_nextToken 295 = .ok (.aload_n 0, 1) := by decide +kernel
theorem dX11_nextToken_296 : decode cX11_nextToken 296 = .ok (.getfield 162, 3) := by decide +kernel
theorem dX11_nextToken_299 : decode cX11_nextToken 299 = .ok (.isub, 1) := by decide +kernel
theorem dX11_nextToken_300 : decode cX11_nextToken 300 = .ok (.iconst 4, 1) := by decide +kernel
theorem dX11_nextToken_301 : decode cX11_nextToken 301 = .ok (.if_icmp .le 7, 3) := by decide +kernel
theorem dX11_nextToken_304 : decode cX11_nextToken 304 = .ok (.iconst 4, 1) := by decide +kernel
theorem dX11_nextToken_305 : decode cX11_nextToken 305 = .ok (.goto 4, 3) := by decide +kernel
theorem dX11_nextToken_308 : decode cX11_nextToken 308 = .ok (.iconst 2, 1) := by decide +kernel
theorem dX11_nextToken_309 : decode cX11_nextToken 309 = .ok (.putfield 171, 3) := by decide +kernel
theorem dX11_nextToken_312 : decode cX11_nextToken 312 = .ok (.goto 35, 3) := by decide +kernel
theorem dX11_nextToken_315 : decode cX11_nextToken 315 = .ok (.aload_n 0, 1) := by decide +kernel
theorem dX11_nextToken_316 : decode cX11_nextToken 316 = .ok (.aload_n 0, 1) := by decide +kernel
theorem dX11_nextToken_317 : decode cX11_nextToken 317 = .ok (.aload_n 0, 1) := by decide +kernel
theorem dX11_nextToken_318 : decode cX11_nextToken 318 = .ok (.getfield 162, 3) := by decide +kernel
theorem dX11_nextToken_321 : decode cX11_nextToken 321 = .ok (.invokevirtual 165, 3) := by decide +kernel
theorem dX11_nextToken_324 : decode cX11_nextToken 324 = .ok (.bipush 59, 2) := by decide +kernel
theorem dX11_nextToken_326 : decode cX11_nextToken 326 = .ok (.if_icmp .ne 7, 3) := by decide +kernel
theorem dX11_nextToken_329 : decode cX11_nextToken 329 = .ok (.iconst 3, 1) := by decide +kernel
theorem dX11_nextToken_330 : decode cX11_nextToken 330 = .ok (.goto 4, 3) := by decide +kernel
theorem dX11_nextToken_333 : decode cX11_nextToken 333 = .ok (.iconst 4, 1) := by decide +kernel
theorem dX11_nextToken_334 : decode cX11_nextToken 334 = .ok (.putfield 171, 3) := by decide +kernel
theorem dX11_nextToken_337 : decode cX11_nextToken 337 = .ok (.aload_n 0, 1) := by decide +kernel
theorem dX11_nextToken_338 : decode cX11_nextToken 338 = .ok (.dup, 1) := by decide +kernel
theorem dX11_nextToken_339 : decode cX11_nextToken 339 = .ok (.getfield 159, 3) := by decide +kernel
theorem dX11_nextToken_342 : decode cX11_nextToken 342 = .ok (.iconst 1, 1) := by decide +kernel
theorem dX11_nextToken_343 : decode cX11_nextToken 343 = .ok (.iadd, 1) := by decide +kernel
theorem dX11_nextToken_344 : decode cX11_nextToken 344 = .ok (.putfield 159, 3) := by decide +kernel
theorem dX11_nextToken_347 : decode cX11_nextToken 347 = .ok (.return_, 1) := by decide +kernel
theorem dX11_isNumber_0 : decode cX11_isNumber 0 = .ok (.aload_n 0, 1) := by decide +kernel
theorem dX11_isNumber_1 : decode cX11_isNumber 1 = .ok (.invokevirtual 190, 3) := by decide +kernel
theorem dX11_isNumber_4 : decode cX11_isNumber 4 = .ok (.aload_n 0, 1) := by decide +kernel
theorem dX11_isNumber_5 : decode cX11_isNumber 5 = .ok (.getfield 171, 3) := by decide +kernel
theorem dX11_isNumber_8 : decode cX11_isNumber 8 = .ok (.iconst 2, 1) := by decide +kernel
theorem dX11_isNumber_9 : decode cX11_isNumber 9 = .ok (.if_icmp .ne 21, 3) := by decide +kernel
theorem dX11_isNumber_12 : decode cX11_isNumber 12 = .ok (.aload_n 0, 1) := by decide +kernel
theorem dX11_isNumber_13 : decode cX11_isNumber 13 = .ok (.getfield 168, 3) := by decide +kernel
theorem dX11_isNumber_16 : decode cX11_isNumber 16 = .ok (.iload_n 1, 1) := by decide +kernel
theorem dX11_isNumber_17 : decode cX11_isNumber 17 = .ok (.i2l, 1) := by decide +kernel
theorem dX11_isNumber_18 : decode cX11_isNumber 18 = .ok (.iload_n 2, 1) := by decide +kernel
theorem dX11_isNumber_19 : decode cX11_isNumber 19 = .ok (.i2l, 1) := by decide +kernel
theorem dX11_isNumber_20 : decode cX11_isNumber 20 = .ok (.invokestatic 66, 3) := by decide +kernel
theorem dX11_isNumber_23 : decode cX11_isNumber 23 = .ok (.ifCond .eq 7, 3) := by decide +kernel
theorem dX11_isNumber_26 : decode cX11_isNumber 26 = .ok (.iconst 1, 1) := by decide +kernel
theorem dX11_isNumber_27 : decode cX11_isNumber 27 = .ok (.goto 4, 3) := by decide +kernel
theorem dX11_isNumber_30 : decode cX11_isNumber 30 = .ok (.iconst 0, 1) := by decide +kernel
theorem dX11_isNumber_31 : decode cX11_isNumber 31 = .ok (.ireturn, 1) := by decide +kernel
theorem dX11_readPerson_0 : decode cX11_readPerson 0 = .ok (.aload_n 0, 1) := by decide +kernel
theorem dX11_readPerson_1 : decode cX11_readPerson 1 = .ok (.getfield 35, 3) := by decide +kernel
theorem dX11_readPerson_4 : decode cX11_readPerson 4 = .ok (.iconst 0, 1) := by decide +kernel
theorem dX11_readPerson_5 : decode cX11_readPerson 5 = .ok (.iaload, 1) := by decide +kernel
theorem dX11_readPerson_6 : decode cX11_readPerson 6 = .ok (.bipush 8, 2) := by decide +kernel
theorem dX11_readPerson_8 : decode cX11_readPerson 8 = .ok (.if_icmp .eq 16, 3) := by decide +kernel
theorem dX11_readPerson_11 : decode cX11_readPerson 11 = .ok (.aload_n 0, 1) := by decide +kernel
theorem dX11_readPerson_12 : decode cX11_readPerson 12 = .ok (.sipush 1800, 3) := by decide +kernel
theorem dX11_readPerson_15 : decode cX11_readPerson 15 = .ok (.sipush 2199, 3) := by decide +kernel
theorem dX11_readPerson_18 : decode cX11_readPerson 18 = .ok (.invokevirtual 193, 3) := by decide +kernel
theorem dX11_readPerson_21 : decode cX11_readPerson 21 = .ok (.ifCond .ne 5, 3) := by decide +kernel
theorem dX11_readPerson_24 : decode cX11_readPerson 24 = .ok (.iconst 0, 1) := by decide +kernel
theorem dX11_readPerson_25 : decode cX11_readPerson 25 = .ok (.ireturn, 1) := by decide +kernel
theorem dX11_readPerson_26 : decode cX11_readPerson 26 = .ok (.aload_n 0, 1) := by decide +kernel
theorem dX11_readPerson_27 : decode cX11_readPerson 27 = .ok (.getfield 168, 3) := by decide +kernel
theorem dX11_readPerson_30 : decode cX11_readPerson 30 = .ok (.l2i, 1) := by decide +kernel
theorem dX11_readPerson_31 : decode cX11_readPerson 31 = .ok (.istore_n 1, 1) := by decide +kernel
theorem dX11_readPerson_32 : decode cX11_readPerson 32 = .ok (.aload_n 0, 1) := by decide +kernel
theorem dX11_readPerson_33 : decode cX11_readPerson 33 = .ok (.iconst 1, 1) := by decide +kernel
theorem dX11_readPerson_34 : decode cX11_readPerson 34 = .ok (.bipush 12, 2) := by decide +kernel
theorem dX11_readPerson_36 : decode cX11_readPerson 36 = .ok (.invokevirtual 193, 3) := by decide +kernel
theorem dX11_readPerson_39 : decode cX11_readPerson 39 = .ok (.ifCond .ne 5, 3) := by decide +kernel
theorem dX11_readPerson_42 : decode cX11_readPerson 42 = .ok (.iconst 0, 1) := by decide +kernel
theorem dX11_readPerson_43 : decode cX11_readPerson 43 = .ok (.ireturn, 1) := by decide +kernel
theorem dX11_readPerson_44 : decode cX11_readPerson 44 = .ok (.aload_n 0, 1) := by decide +kernel
theorem dX11_readPerson_45 : decode cX11_readPerson 45 = .ok (.getfield 168, 3) := by decide +kernel
theorem dX11_readPerson_48 : decode cX11_readPerson 48 = .ok (.l2i, 1) := by decide +kernel
theorem dX11_readPerson_49 : decode cX11_readPerson 49 = .ok (.istore_n 2, 1) := by decide +kernel
theorem dX11_readPerson_50 : decode cX11_readPerson 50 = .ok (.aload_n 0, 1) := by decide +kernel
theorem dX11_readPerson_51 : decode cX11_readPerson 51 = .ok (.iconst 1, 1) := by decide +kernel
theorem dX11_readPerson_52 : decode cX11_readPerson 52 = .ok (.iload_n 1, 1) := by decide +kernel
theorem dX11_readPerson_53 : decode cX11_readPerson 53 = .ok (.iload_n 2, 1) := by decide +kernel
theorem dX11_readPerson_54 : decode cX11_readPerson 54 = .ok (.invokestatic 72, 3) := by decide +kernel
theorem dX11_readPerson_57 : decode cX11_readPerson 57 = .ok (.invokevirtual 193, 3) := by decide +kernel
theorem dX11_readPerson_60 : decode cX11_readPerson 60 = .ok (.ifCond .ne 5, 3) := by decide +kernel
theorem dX11_readPerson_63 : decode cX11_readPerson 63 = .ok (.iconst 0, 1) := by decide +kernel
theorem dX11_readPerson_64 : decode cX11_readPerson 64 = .ok (.ireturn, 1) := by decide +kernel
theorem dX11_readPerson_65 : decode cX11_readPerson 65 = .ok (.aload_n 0, 1) := by decide +kernel
theorem dX11_readPerson_66 : decode cX11_readPerson 66 = .ok (.getfield 35, 3) := by decide +kernel
theorem dX11_readPerson_69 : decode cX11_readPerson 69 = .ok (.iconst 5, 1) := by decide +kernel
theorem dX11_readPerson_70 : decode cX11_readPerson 70 = .ok (.aload_n 0, 1) := by decide +kernel
theorem dX11_readPerson_71 : decode cX11_readPerson 71 = .ok (.getfield 35, 3) := by decide +kernel
theorem dX11_readPerson_74 : decode cX11_readPerson 74 = .ok (.iconst 0, 1) := by decide +kernel
theorem dX11_readPerson_75 : decode cX11_readPerson 75 = .ok (.iaload, 1) := by decide +kernel
theorem dX11_readPerson_76 : decode cX11_readPerson 76 = .ok (.iadd, 1) := by decide +kernel
theorem dX11_readPerson_77 : decode cX11_readPerson 77 = .ok (.iload_n 1, 1) := by decide +kernel
theorem dX11_readPerson_78 : decode cX11_readPerson 78 = .ok (.iload_n 2, 1) := by decide +kernel
theorem dX11_readPerson_79 : decode cX11_readPerson 79 = .ok (.aload_n 0, 1) := by decide +kernel
theorem dX11_readPerson_80 : decode cX11_readPerson 80 = .ok (.getfield 168, 3) := by decide +kernel
theorem dX11_readPerson_83 : decode cX11_readPerson 83 = .ok (.l2i, 1) := by decide +kernel
theorem dX11_readPerson_84 : decode cX11_readPerson 84 = .ok (.invokestatic 99, 3) := by decide +kernel
theorem dX11_readPerson_87 : decode cX11_readPerson 87 = .ok (.iastore, 1) := by decide +kernel
theorem dX11_readPerson_88 : decode cX11_readPerson 88 = .ok (.aload_n 0, 1) := by decide +kernel
theorem dX11_readPerson_89 : decode cX11_readPerson 89 = .ok (.getfield 35, 3) := by decide +kernel
theorem dX11_readPerson_92 : decode cX11_readPerson 92 = .ok (.bipush 13, 2) := by decide +kernel
theorem dX11_readPerson_94 : decode cX11_readPerson 94 = .ok (.aload_n 0, 1) := by decide +kernel
theorem dX11_readPerson_95 : decode cX11_readPerson 95 = .ok (.getfield 35, 3) := by decide +kernel
theorem dX11_readPerson_98 : decode cX11_readPerson 98 = .ok (.iconst 0, 1) := by decide +kernel
theorem dX11_readPerson_99 : decode cX11_readPerson 99 = .ok (.iaload, 1) := by decide +kernel
theorem dX11_readPerson_100 : decode cX11_readPerson 100 = .ok (.iadd, 1) := by decide +kernel
theorem dX11_readPerson_101 : decode cX11_readPerson 101 = .ok (.iconst 0, 1) := by decide +kernel
theorem dX11_readPerson_102 : decode cX11_readPerson 102 = .ok (.iastore, 1) := by decide +kernel
theorem dX11_readPerson_103 : decode cX11_readPerson 103 = .ok (.aload_n 0, 1) := by decide +kernel
theorem dX11_readPerson_104 : decode cX11_readPerson 104 = .ok (.getfield 35, 3) := by decide +kernel
theorem dX11_readPerson_107 : decode cX11_readPerson 107 = .ok (.bipush 21, 2) := by decide +kernel
theorem dX11_readPerson_109 : decode cX11_readPerson 109 = .ok (.aload_n 0, 1) := by decide +kernel
theorem dX11_readPerson_110 : decode cX11_readPerson 110 = .ok (.getfield 35, 3) := by decide +kernel
theorem dX11_readPerson_113 : decode cX11_readPerson 113 = .ok (.iconst 0, 1) := by decide +kernel
theorem dX11_readPerson_114 : decode cX11_readPerson 114 = .ok (.iaload, 1) := by decide +kernel
theorem dX11_readPerson_115 : decode cX11_readPerson 115 = .ok (.iadd, 1) := by decide +kernel
theorem dX11_readPerson_116 : decode cX11_readPerson 116 = .ok (.iconst 0, 1) := by decide +kernel
theorem dX11_readPerson_117 : decode cX11_readPerson 117 = .ok (.iastore, 1) := by decide +kernel
theorem dX11_readPerson_118 : decode cX11_readPerson 118 = .ok (.aload_n 0, 1) := by decide +kernel
theorem dX11_readPerson_119 : decode cX11_readPerson 119 = .ok (.getfield 35, 3) := by decide +kernel
theorem dX11_readPerson_122 : decode cX11_readPerson 122 = .ok (.iconst 0, 1) := by decide +kernel
theorem dX11_readPerson_123 : decode cX11_readPerson 123 = .ok (.dup2, 1) := by decide +kernel
theorem dX11_readPerson_124 : decode cX11_readPerson 124 = .ok (.iaload, 1) := by decide +kernel
theorem dX11_readPerson_125 : decode cX11_readPerson 125 = .ok (.iconst 1, 1) := by decide +kernel
theorem dX11_readPerson_126 : decode cX11_readPerson 126 = .ok (.iadd, 1) := by decide +kernel
theorem dX11_readPerson_127 : decode cX11_readPerson 127 = .ok (.iastore, 1) := by decide +kernel
theorem dX11_readPerson_128 : decode cX11_readPerson 128 = .ok (.iconst 1, 1) := by decide +kernel
theorem dX11_readPerson_129 : decode cX11_readPerson 129 = .ok (.ireturn, 1) := by decide +kernel
theorem dX11_readGate_0 : decode cX11_readGate 0 = .ok (.aload_n 0, 1) := by decide +kernel
theorem dX11_readGate_1 : decode cX11_readGate 1 = .ok (.getfield 35, 3) := by decide +kernel
theorem dX11_readGate_4 : decode cX11_readGate 4 = .ok (.iconst 1, 1) := by decide +kernel
theorem dX11_readGate_5 : decode cX11_readGate 5 = .ok (.iaload, 1) := by decide +kernel
theorem dX11_readGate_6 : decode cX11_readGate 6 = .ok (.iconst 4, 1) := by decide +kernel
theorem dX11_readGate_7 : decode cX11_readGate 7 = .ok (.if_icmp .eq 12, 3) := by decide +kernel
theorem dX11_readGate_10 : decode cX11_readGate 10 = .ok (.aload_n 0, 1) := by decide +kernel
theorem dX11_readGate_11 : decode cX11_readGate 11 = .ok (.iconst 0, 1) := by decide +kernel
theorem dX11_readGate_12 : decode cX11_readGate 12 = .ok (.iconst 4, 1) := by decide +kernel
theorem dX11_readGate_13 : decode cX11_readGate 13 = .ok (.invokevirtual 193, 3) := by decide +kernel
theorem dX11_readGate_16 : decode cX11_readGate 16 = .ok (.ifCond .ne 5, 3) := by decide +kernel
theorem dX11_readGate_19 : decode cX11_readGate 19 = .ok (.iconst 0, 1) := by decide +kernel
theorem dX11_readGate_20 : decode cX11_readGate 20 = .ok (.ireturn, 1) := by decide +kernel
theorem dX11_readGate_21 : decode cX11_readGate 21 = .ok (.aload_n 0, 1) := by decide +kernel
theorem dX11_readGate_22 : decode cX11_readGate 22 = .ok (.getfield 35, 3) := by decide +kernel
theorem dX11_readGate_25 : decode cX11_readGate 25 = .ok (.bipush 29, 2) := by decide +kernel
theorem dX11_readGate_27 : decode cX11_readGate 27 = .ok (.aload_n 0, 1) := by decide +kernel
theorem dX11_readGate_28 : decode cX11_readGate 28 = .ok (.getfield 35, 3) := by decide +kernel
theorem dX11_readGate_31 : decode cX11_readGate 31 = .ok (.iconst 1, 1) := by decide +kernel
theorem dX11_readGate_32 : decode cX11_readGate 32 = .ok (.iaload, 1) := by decide +kernel
theorem dX11_readGate_33 : decode cX11_readGate 33 = .ok (.iadd, 1) := by decide +kernel
theorem dX11_readGate_34 : decode cX11_readGate 34 = .ok (.aload_n 0, 1) := by decide +kernel
theorem dX11_readGate_35 : decode cX11_readGate 35 = .ok (.getfield 168, 3) := by decide +kernel
theorem dX11_readGate_38 : decode cX11_readGate 38 = .ok (.l2i, 1) := by decide +kernel
theorem dX11_readGate_39 : decode cX11_readGate 39 = .ok (.iastore, 1) := by decide +kernel
theorem dX11_readGate_40 : decode cX11_readGate 40 = .ok (.aload_n 0, 1) := by decide +kernel
theorem dX11_readGate_41 : decode cX11_readGate 41 = .ok (.iconst 1, 1) := by decide +kernel
theorem dX11_readGate_42 : decode cX11_readGate 42 = .ok (.bipush 8, 2) := by decide +kernel
theorem dX11_readGate_44 : decode cX11_readGate 44 = .ok (.invokevirtual 193, 3) := by decide +kernel
theorem dX11_readGate_47 : decode cX11_readGate 47 = .ok (.ifCond .ne 5, 3) := by decide +kernel
theorem dX11_readGate_50 : decode cX11_readGate 50 = .ok (.iconst 0, 1) := by decide +kernel
theorem dX11_readGate_51 : decode cX11_readGate 51 = .ok (.ireturn, 1) := by decide +kernel
theorem dX11_readGate_52 : decode cX11_readGate 52 = .ok (.aload_n 0, 1) := by decide +kernel
theorem dX11_readGate_53 : decode cX11_readGate 53 = .ok (.getfield 35, 3) := by decide +kernel
theorem dX11_readGate_56 : decode cX11_readGate 56 = .ok (.bipush 33, 2) := by decide +kernel
theorem dX11_readGate_58 : decode cX11_readGate 58 = .ok (.aload_n 0, 1) := by decide +kernel
theorem dX11_readGate_59 : decode cX11_readGate 59 = .ok (.getfield 35, 3) := by decide +kernel
theorem dX11_readGate_62 : decode cX11_readGate 62 = .ok (.iconst 1, 1) := by decide +kernel
theorem dX11_readGate_63 : decode cX11_readGate 63 = .ok (.iaload, 1) := by decide +kernel
theorem dX11_readGate_64 : decode cX11_readGate 64 = .ok (.iadd, 1) := by decide +kernel
theorem dX11_readGate_65 : decode cX11_readGate 65 = .ok (.aload_n 0, 1) := by decide +kernel
theorem dX11_readGate_66 : decode cX11_readGate 66 = .ok (.getfield 168, 3) := by decide +kernel
theorem dX11_readGate_69 : decode cX11_readGate 69 = .ok (.l2i, 1) := by decide +kernel
theorem dX11_readGate_70 : decode cX11_readGate 70 = .ok (.iastore, 1) := by decide +kernel
theorem dX11_readGate_71 : decode cX11_readGate 71 = .ok (.aload_n 0, 1) := by decide +kernel
theorem dX11_readGate_72 : decode cX11_readGate 72 = .ok (.getfield 35, 3) := by decide +kernel
theorem dX11_readGate_75 : decode cX11_readGate 75 = .ok (.iconst 1, 1) := by decide +kernel
theorem dX11_readGate_76 : decode cX11_readGate 76 = .ok (.dup2, 1) := by decide +kernel
theorem dX11_readGate_77 : decode cX11_readGate 77 = .ok (.iaload, 1) := by decide +kernel
theorem dX11_readGate_78 : decode cX11_readGate 78 = .ok (.iconst 1, 1) := by decide +kernel
theorem dX11_readGate_79 : decode cX11_readGate 79 = .ok (.iadd, 1) := by decide +kernel
theorem dX11_readGate_80 : decode cX11_readGate 80 = .ok (.iastore, 1) := by decide +kernel
theorem dX11_readGate_81 : decode cX11_readGate 81 = .ok (.iconst 1, 1) := by decide +kernel
theorem dX11_readGate_82 : decode cX11_readGate 82 = .ok (.ireturn, 1) := by decide +kernel
theorem dX11_readPair_0 : decode cX11_readPair 0 = .ok (.aload_n 0, 1) := by decide +kernel
theorem dX11_readPair_1 : decode cX11_readPair 1 = .ok (.iconst 0, 1) := by decide +kernel
theorem dX11_readPair_2 : decode cX11_readPair 2 = .ok (.aload_n 0, 1) := by decide +kernel
theorem dX11_readPair_3 : decode cX11_readPair 3 = .ok (.getfield 35, 3) := by decide +kernel
theorem dX11_readPair_6 : decode cX11_readPair 6 = .ok (.iconst 0, 1) := by decide +kernel
theorem dX11_readPair_7 : decode cX11_readPair 7 = .ok (.iaload, 1) := by decide +kernel
theorem dX11_readPair_8 : decode cX11_readPair 8 = .ok (.iconst 1, 1) := by decide +kernel
theorem dX11_readPair_9 : decode cX11_readPair 9 = .ok (.isub, 1) := by decide +kernel
theorem dX11_readPair_10 : decode cX11_readPair 10 = .ok (.invokevirtual 193, 3) := by decide +kernel
theorem dX11_readPair_13 : decode cX11_readPair 13 = .ok (.ifCond .ne 5, 3) := by decide +kernel
theorem dX11_readPair_16 : decode cX11_readPair 16 = .ok (.iconst 0, 1) := by decide +kernel
theorem dX11_readPair_17 : decode cX11_readPair 17 = .ok (.ireturn, 1) := by decide +kernel
theorem dX11_readPair_18 : decode cX11_readPair 18 = .ok (.aload_n 0, 1) := by decide +kernel
theorem dX11_readPair_19 : decode cX11_readPair 19 = .ok (.getfield 168, 3) := by decide +kernel
theorem dX11_readPair_22 : decode cX11_readPair 22 = .ok (.l2i, 1) := by decide +kernel
theorem dX11_readPair_23 : decode cX11_readPair 23 = .ok (.istore_n 2, 1) := by decide +kernel
theorem dX11_readPair_24 : decode cX11_readPair 24 = .ok (.aload_n 0, 1) := by decide +kernel
theorem dX11_readPair_25 : decode cX11_readPair 25 = .ok (.iconst 0, 1) := by decide +kernel
theorem dX11_readPair_26 : decode cX11_readPair 26 = .ok (.aload_n 0, 1) := by decide +kernel
theorem dX11_readPair_27 : decode cX11_readPair 27 = .ok (.getfield 35, 3) := by decide +kernel
theorem dX11_readPair_30 : decode cX11_readPair 30 = .ok (.iconst 0, 1) := by decide +kernel
theorem dX11_readPair_31 : decode cX11_readPair 31 = .ok (.iaload, 1) := by decide +kernel
theorem dX11_readPair_32 : decode cX11_readPair 32 = .ok (.iconst 1, 1) := by decide +kernel
theorem dX11_readPair_33 : decode cX11_readPair 33 = .ok (.isub, 1) := by decide +kernel
theorem dX11_readPair_34 : decode cX11_readPair 34 = .ok (.invokevirtual 193, 3) := by decide +kernel
theorem dX11_readPair_37 : decode cX11_readPair 37 = .ok (.ifCond .eq 13, 3) := by decide +kernel
theorem dX11_readPair_40 : decode cX11_readPair 40 = .ok (.aload_n 0, 1) := by decide +kernel
theorem dX11_readPair_41 : decode cX11_readPair 41 = .ok (.getfield 168, 3) := by decide +kernel
theorem dX11_readPair_44 : decode cX11_readPair 44 = .ok (.iload_n 2, 1) := by decide +kernel
theorem dX11_readPair_45 : decode cX11_readPair 45 = .ok (.i2l, 1) := by decide +kernel
theorem dX11_readPair_46 : decode cX11_readPair 46 = .ok (.lcmp, 1) := by decide +kernel
theorem dX11_readPair_47 : decode cX11_readPair 47 = .ok (.ifCond .ne 5, 3) := by decide +kernel
theorem dX11_readPair_50 : decode cX11_readPair 50 = .ok (.iconst 0, 1) := by decide +kernel
theorem dX11_readPair_51 : decode cX11_readPair 51 = .ok (.ireturn, 1) := by decide +kernel
theorem dX11_readPair_52 : decode cX11_readPair 52 = .ok (.aload_n 0, 1) := by decide +kernel
theorem dX11_readPair_53 : decode cX11_readPair 53 = .ok (.getfield 35, 3) := by decide +kernel
theorem dX11_readPair_56 : decode cX11_readPair 56 = .ok (.iload_n 1, 1) := by decide +kernel
theorem dX11_readPair_57 : decode cX11_readPair 57 = .ok (.iload_n 2, 1) := by decide +kernel
theorem dX11_readPair_58 : decode cX11_readPair 58 = .ok (.iadd, 1) := by decide +kernel
theorem dX11_readPair_59 : decode cX11_readPair 59 = .ok (.dup2, 1) := by decide +kernel
theorem dX11_readPair_60 : decode cX11_readPair 60 = .ok (.iaload, 1) := by decide +kernel
theorem dX11_readPair_61 : decode cX11_readPair 61 = .ok (.iconst 1, 1) := by decide +kernel
theorem dX11_readPair_62 : decode cX11_readPair 62 = .ok (.aload_n 0, 1) := by decide +kernel
theorem dX11_readPair_63 : decode cX11_readPair 63 = .ok (.getfield 168, 3) := by decide +kernel
theorem dX11_readPair_66 : decode cX11_readPair 66 = .ok (.l2i, 1) := by decide +kernel
theorem dX11_readPair_67 : decode cX11_readPair 67 = .ok (.ishl, 1) := by decide +kernel
theorem dX11_readPair_68 : decode cX11_readPair 68 = .ok (.ior, 1) := by decide +kernel
theorem dX11_readPair_69 : decode cX11_readPair 69 = .ok (.iastore, 1) := by decide +kernel
theorem dX11_readPair_70 : decode cX11_readPair 70 = .ok (.aload_n 0, 1) := by decide +kernel
theorem dX11_readPair_71 : decode cX11_readPair 71 = .ok (.getfield 35, 3) := by decide +kernel
theorem dX11_readPair_74 : decode cX11_readPair 74 = .ok (.iload_n 1, 1) := by decide +kernel
theorem dX11_readPair_75 : decode cX11_readPair 75 = .ok (.aload_n 0, 1) := by decide +kernel
theorem dX11_readPair_76 : decode cX11_readPair 76 = .ok (.getfield 168, 3) := by decide +kernel
theorem dX11_readPair_79 : decode cX11_readPair 79 = .ok (.l2i, 1) := by decide +kernel
theorem dX11_readPair_80 : decode cX11_readPair 80 = .ok (.iadd, 1) := by decide +kernel
theorem dX11_readPair_81 : decode cX11_readPair 81 = .ok (.dup2, 1) := by decide +kernel
theorem dX11_readPair_82 : decode cX11_readPair 82 = .ok (.iaload, 1) := by decide +kernel
theorem dX11_readPair_83 : decode cX11_readPair 83 = .ok (.iconst 1, 1) := by decide +kernel
theorem dX11_readPair_84 : decode cX11_readPair 84 = .ok (.iload_n 2, 1) := by decide +kernel
theorem dX11_readPair_85 : decode cX11_readPair 85 = .ok (.ishl, 1) := by decide +kernel
theorem dX11_readPair_86 : decode cX11_readPair 86 = .ok (.ior, 1) := by decide +kernel
theorem dX11_readPair_87 : decode cX11_readPair 87 = .ok (.iastore, 1) := by decide +kernel
theorem dX11_readPair_88 : decode cX11_readPair 88 = .ok (.iconst 1, 1) := by decide +kernel
theorem dX11_readPair_89 : decode cX11_readPair 89 = .ok (.ireturn, 1) := by decide +kernel
theorem dX11_readItem_0 : decode cX11_readItem 0 = .ok (.aload_n 0, 1) := by decide +kernel
theorem dX11_readItem_1 : decode cX11_readItem 1 = .ok (.getfield 168, 3) := by decide +kernel
theorem dX11_readItem_4 : decode cX11_readItem 4 = .ok (.ldc2_w 196, 3) := by decide +kernel
theorem dX11_readItem_7 : decode cX11_readItem 7 = .ok (.lcmp, 1) := by decide +kernel
theorem dX11_readItem_8 : decode cX11_readItem 8 = .ok (.ifCond .ne 10, 3) := by decide +kernel
theorem dX11_readItem_11 : decode cX11_readItem 11 = .ok (.aload_n 0, 1) := by decide +kernel
theorem dX11_readItem_12 : decode cX11_readItem 12 = .ok (.invokevirtual 198, 3) := by decide +kernel
theorem dX11_readItem_15 : decode cX11_readItem 15 = .ok (.goto 66, 3) := by decide +kernel
theorem dX11_readItem_18 : decode cX11_readItem 18 = .ok (.aload_n 0, 1) := by decide +kernel
theorem dX11_readItem_19 : decode cX11_readItem 19 = .ok (.getfield 168, 3) := by decide +kernel
theorem dX11_readItem_22 : decode cX11_readItem 22 = .ok (.ldc2_w 202, 3) := by decide +kernel
theorem dX11_readItem_25 : decode cX11_readItem 25 = .ok (.lcmp, 1) := by decide +kernel
theorem dX11_readItem_26 : decode cX11_readItem 26 = .ok (.ifCond .ne 10, 3) := by decide +kernel
theorem dX11_readItem_29 : decode cX11_readItem 29 = .ok (.aload_n 0, 1) := by decide +kernel
theorem dX11_readItem_30 : decode cX11_readItem 30 = .ok (.invokevirtual 204, 3) := by decide +kernel
theorem dX11_readItem_33 : decode cX11_readItem 33 = .ok (.goto 48, 3) := by decide +kernel
theorem dX11_readItem_36 : decode cX11_readItem 36 = .ok (.aload_n 0, 1) := by decide +kernel
theorem dX11_readItem_37 : decode cX11_readItem 37 = .ok (.getfield 168, 3) := by decide +kernel
theorem dX11_readItem_40 : decode cX11_readItem 40 = .ok (.ldc2_w 207, 3) := by decide +kernel
theorem dX11_readItem_43 : decode cX11_readItem 43 = .ok (.lcmp, 1) := by decide +kernel
theorem dX11_readItem_44 : decode cX11_readItem 44 = .ok (.ifCond .ne 12, 3) := by decide +kernel
theorem dX11_readItem_47 : decode cX11_readItem 47 = .ok (.aload_n 0, 1) := by decide +kernel
theorem dX11_readItem_48 : decode cX11_readItem 48 = .ok (.bipush 13, 2) := by decide +kernel
theorem dX11_readItem_50 : decode cX11_readItem 50 = .ok (.invokevirtual 209, 3) := by decide +kernel
theorem dX11_readItem_53 : decode cX11_readItem 53 = .ok (.goto 28, 3) := by decide +kernel
theorem dX11_readItem_56 : decode cX11_readItem 56 = .ok (.aload_n 0, 1) := by decide +kernel
theorem dX11_readItem_57 : decode cX11_readItem 57 = .ok (.getfield 168, 3) := by decide +kernel
theorem dX11_readItem_60 : decode cX11_readItem 60 = .ok (.ldc2_w 212, 3) := by decide +kernel
theorem dX11_readItem_63 : decode cX11_readItem 63 = .ok (.lcmp, 1) := by decide +kernel
theorem dX11_readItem_64 : decode cX11_readItem 64 = .ok (.ifCond .ne 16, 3) := by decide +kernel
theorem dX11_readItem_67 : decode cX11_readItem 67 = .ok (.aload_n 0, 1) := by decide +kernel
theorem dX11_readItem_68 : decode cX11_readItem 68 = .ok (.bipush 21, 2) := by decide +kernel
theorem dX11_readItem_70 : decode cX11_readItem 70 = .ok (.invokevirtual 209, 3) := by decide +kernel
theorem dX11_readItem_73 : decode cX11_readItem 73 = .ok (.ifCond .eq 7, 3) := by decide +kernel
theorem dX11_readItem_76 : decode cX11_readItem 76 = .ok (.iconst 1, 1) := by decide +kernel
theorem dX11_readItem_77 : decode cX11_readItem 77 = .ok (.goto 4, 3) := by decide +kernel
theorem dX11_readItem_80 : decode cX11_readItem 80 = .ok (.iconst 0, 1) := by decide +kernel
theorem dX11_readItem_81 : decode cX11_readItem 81 = .ok (.istore_n 1, 1) := by decide +kernel
theorem dX11_readItem_82 : decode cX11_readItem 82 = .ok (.iload_n 1, 1) := by decide +kernel
theorem dX11_readItem_83 : decode cX11_readItem 83 = .ok (.ifCond .eq 7, 3) := by decide +kernel
theorem dX11_readItem_86 : decode cX11_readItem 86 = .ok (.aload_n 0, 1) := by decide +kernel
theorem dX11_readItem_87 : decode cX11_readItem 87 = .ok (.invokevirtual 190, 3) := by decide +kernel
theorem dX11_readItem_90 : decode cX11_readItem 90 = .ok (.iload_n 1, 1) := by decide +kernel
theorem dX11_readItem_91 : decode cX11_readItem 91 = .ok (.ifCond .eq 15, 3) := by decide +kernel
theorem dX11_readItem_94 : decode cX11_readItem 94 = .ok (.aload_n 0, 1) := by decide +kernel
theorem dX11_readItem_95 : decode cX11_readItem 95 = .ok (.getfield 171, 3) := by decide +kernel
theorem dX11_readItem_98 : decode cX11_readItem 98 = .ok (.iconst 3, 1) := by decide +kernel
theorem dX11_readItem_99 : decode cX11_readItem 99 = .ok (.if_icmp .ne 7, 3) := by decide +kernel
theorem dX11_readItem_102 : decode cX11_readItem 102 = .ok (.iconst 1, 1) := by decide +kernel
theorem dX11_readItem_103 : decode cX11_readItem 103 = .ok (.goto 4, 3) := by decide +kernel
theorem dX11_readItem_106 : decode cX11_readItem 106 = .ok (.iconst 0, 1) := by decide +kernel
theorem dX11_readItem_107 : decode cX11_readItem 107 = .ok (.ireturn, 1) := by decide +kernel
theorem dX11_read_0 : decode cX11_read 0 = .ok (.iconst 0, 1) := by decide +kernel
theorem dX11_read_1 : decode cX11_read 1 = .ok (.istore_n 1, 1) := by decide +kernel
theorem dX11_read_2 : decode cX11_read 2 = .ok (.iload_n 1, 1) := by decide +kernel
theorem dX11_read_3 : decode cX11_read 3 = .ok (.bipush 37, 2) := by decide +kernel
