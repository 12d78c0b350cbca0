theorem dX3_daysOfYear_47 : decode cX3_daysOfYear 47 = .ok (.istore 8, 2) := by decide +kernel
theorem dX3_daysOfYear_49 : decode cX3_daysOfYear 49 = .ok (.aload_n 0, 1) := by decide +kernel
theorem dX3_daysOfYear_50 : decode cX3_daysOfYear 50 = .ok (.iload 5, 2) := by decide +kernel
theorem dX3_daysOfYear_52 : decode cX3_daysOfYear 52 = .ok (.invokevirtual 83, 3) := by decide +kernel
theorem dX3_daysOfYear_55 : decode cX3_daysOfYear 55 = .ok (.aload_n 0, 1) := by decide +kernel
theorem dX3_daysOfYear_56 : decode cX3_daysOfYear 56 = .ok (.iload_n 1, 1) := by decide +kernel
theorem dX3_daysOfYear_57 : decode cX3_daysOfYear 57 = .ok (.iload_n 2, 1) := by decide +kernel
theorem dX3_daysOfYear_58 : decode cX3_daysOfYear 58 = .ok (.invokevirtual 87, 3) := by decide +kernel
theorem dX3_daysOfYear_61 : decode cX3_daysOfYear 61 = .ok (.ifCond .ne 13, 3) := by decide +kernel
theorem dX3_daysOfYear_64 : decode cX3_daysOfYear 64 = .ok (.iload 6, 2) := by decide +kernel
theorem dX3_daysOfYear_66 : decode cX3_daysOfYear 66 = .ok (.iload 8, 2) := by decide +kernel
theorem dX3_daysOfYear_68 : decode cX3_daysOfYear 68 = .ok (.iload 5, 2) := by decide +kernel
theorem dX3_daysOfYear_70 : decode cX3_daysOfYear 70 = .ok (.isub, 1) := by decide +kernel
theorem dX3_daysOfYear_71 : decode cX3_daysOfYear 71 = .ok (.iadd, 1) := by decide +kernel
theorem dX3_daysOfYear_72 : decode cX3_daysOfYear 72 = .ok (.istore 6, 2) := by decide +kernel
theorem dX3_daysOfYear_74 : decode cX3_daysOfYear 74 = .ok (.iload 8, 2) := by decide +kernel
theorem dX3_daysOfYear_76 : decode cX3_daysOfYear 76 = .ok (.istore 5, 2) := by decide +kernel
theorem dX3_daysOfYear_78 : decode cX3_daysOfYear 78 = .ok (.iinc 7 1, 3) := by decide +kernel
theorem dX3_daysOfYear_81 : decode cX3_daysOfYear 81 = .ok (.goto (-61), 3) := by decide +kernel
theorem dX3_daysOfYear_84 : decode cX3_daysOfYear 84 = .ok (.iload 6, 2) := by decide +kernel
theorem dX3_daysOfYear_86 : decode cX3_daysOfYear 86 = .ok (.ireturn, 1) := by decide +kernel
theorem dX4_init_0 : decode cX4_init 0 = .ok (.aload_n 0, 1) := by decide +kernel
theorem dX4_init_1 : decode cX4_init 1 = .ok (.invokespecial 5, 3) := by decide +kernel
theorem dX4_init_4 : decode cX4_init 4 = .ok (.aload_n 0, 1) := by decide +kernel
theorem dX4_init_5 : decode cX4_init 5 = .ok (.sipush 256, 3) := by decide +kernel
theorem dX4_init_8 : decode cX4_init 8 = .ok (.newarray .boolean, 2) := by decide +kernel
theorem dX4_init_10 : decode cX4_init 10 = .ok (.putfield 13, 3) := by decide +kernel
theorem dX4_init_13 : decode cX4_init 13 = .ok (.aload_n 0, 1) := by decide +kernel
theorem dX4_init_14 : decode cX4_init 14 = .ok (.sipush 256, 3) := by decide +kernel
theorem dX4_init_17 : decode cX4_init 17 = .ok (.newarray .int, 2) := by decide +kernel
theorem dX4_init_19 : decode cX4_init 19 = .ok (.putfield 17, 3) := by decide +kernel
theorem dX4_init_22 : decode cX4_init 22 = .ok (.aload_n 0, 1) := by decide +kernel
theorem dX4_init_23 : decode cX4_init 23 = .ok (.bipush 8, 2) := by decide +kernel
theorem dX4_init_25 : decode cX4_init 25 = .ok (.newarray .int, 2) := by decide +kernel
theorem dX4_init_27 : decode cX4_init 27 = .ok (.putfield 21, 3) := by decide +kernel
theorem dX4_init_30 : decode cX4_init 30 = .ok (.aload_n 0, 1) := by decide +kernel
theorem dX4_init_31 : decode cX4_init 31 = .ok (.aload_n 1, 1) := by decide +kernel
theorem dX4_init_32 : decode cX4_init 32 = .ok (.putfield 24, 3) := by decide +kernel
theorem dX4_init_35 : decode cX4_init 35 = .ok (.return_, 1) := by decide +kernel
theorem dX4_weigh_0 : decode cX4_weigh 0 = .ok (.aload_n 0, 1) := by decide +kernel
theorem dX4_weigh_1 : decode cX4_weigh 1 = .ok (.getfield 17, 3) := by decide +kernel
theorem dX4_weigh_4 : decode cX4_weigh 4 = .ok (.iconst 0, 1) := by decide +kernel
theorem dX4_weigh_5 : decode cX4_weigh 5 = .ok (.iconst 0, 1) := by decide +kernel
theorem dX4_weigh_6 : decode cX4_weigh 6 = .ok (.iastore, 1) := by decide +kernel
theorem dX4_weigh_7 : decode cX4_weigh 7 = .ok (.iconst 1, 1) := by decide +kernel
theorem dX4_weigh_8 : decode cX4_weigh 8 = .ok (.istore_n 3, 1) := by decide +kernel
theorem dX4_weigh_9 : decode cX4_weigh 9 = .ok (.iload_n 3, 1) := by decide +kernel
theorem dX4_weigh_10 : decode cX4_weigh 10 = .ok (.iload_n 1, 1) := by decide +kernel
theorem dX4_weigh_11 : decode cX4_weigh 11 = .ok (.if_icmp .gt 58, 3) := by decide +kernel
theorem dX4_weigh_14 : decode cX4_weigh 14 = .ok (.iload_n 3, 1) := by decide +kernel
theorem dX4_weigh_15 : decode cX4_weigh 15 = .ok (.sipush 256, 3) := by decide +kernel
theorem dX4_weigh_18 : decode cX4_weigh 18 = .ok (.if_icmp .ge 51, 3) := by decide +kernel
theorem dX4_weigh_21 : decode cX4_weigh 21 = .ok (.iload_n 3, 1) := by decide +kernel
theorem dX4_weigh_22 : decode cX4_weigh 22 = .ok (.iload_n 1, 1) := by decide +kernel
theorem dX4_weigh_23 : decode cX4_weigh 23 = .ok (.iconst (-1), 1) := by decide +kernel
theorem dX4_weigh_24 : decode cX4_weigh 24 = .ok (.ixor, 1) := by decide +kernel
theorem dX4_weigh_25 : decode cX4_weigh 25 = .ok (.iand, 1) := by decide +kernel
theorem dX4_weigh_26 : decode cX4_weigh 26 = .ok (.ifCond .ne 37, 3) := by decide +kernel
theorem dX4_weigh_29 : decode cX4_weigh 29 = .ok (.aload_n 0, 1) := by decide +kernel
theorem dX4_weigh_30 : decode cX4_weigh 30 = .ok (.getfield 13, 3) := by decide +kernel
theorem dX4_weigh_33 : decode cX4_weigh 33 = .ok (.iload_n 3, 1) := by decide +kernel
theorem dX4_weigh_34 : decode cX4_weigh 34 = .ok (.aload_n 0, 1) := by decide +kernel
theorem dX4_weigh_35 : decode cX4_weigh 35 = .ok (.getfield 24, 3) := by decide +kernel
theorem dX4_weigh_38 : decode cX4_weigh 38 = .ok (.iload_n 3, 1) := by decide +kernel
theorem dX4_weigh_39 : decode cX4_weigh 39 = .ok (.iload_n 2, 1) := by decide +kernel
theorem dX4_weigh_40 : decode cX4_weigh 40 = .ok (.invokevirtual 28, 3) := by decide +kernel
theorem dX4_weigh_43 : decode cX4_weigh 43 = .ok (.ifCond .ne 7, 3) := by decide +kernel
theorem dX4_weigh_46 : decode cX4_weigh 46 = .ok (.iconst 1, 1) := by decide +kernel
theorem dX4_weigh_47 : decode cX4_weigh 47 = .ok (.goto 4, 3) := by decide +kernel
theorem dX4_weigh_50 : decode cX4_weigh 50 = .ok (.iconst 0, 1) := by decide +kernel
theorem dX4_weigh_51 : decode cX4_weigh 51 = .ok (.bastore, 1) := by decide +kernel
theorem dX4_weigh_52 : decode cX4_weigh 52 = .ok (.aload_n 0, 1) := by decide +kernel
theorem dX4_weigh_53 : decode cX4_weigh 53 = .ok (.getfield 17, 3) := by decide +kernel
theorem dX4_weigh_56 : decode cX4_weigh 56 = .ok (.iload_n 3, 1) := by decide +kernel
theorem dX4_weigh_57 : decode cX4_weigh 57 = .ok (.aload_n 0, 1) := by decide +kernel
theorem dX4_weigh_58 : decode cX4_weigh 58 = .ok (.iload_n 3, 1) := by decide +kernel
theorem dX4_weigh_59 : decode cX4_weigh 59 = .ok (.invokevirtual 34, 3) := by decide +kernel
theorem dX4_weigh_62 : decode cX4_weigh 62 = .ok (.iastore, 1) := by decide +kernel
theorem dX4_weigh_63 : decode cX4_weigh 63 = .ok (.iinc 3 1, 3) := by decide +kernel
theorem dX4_weigh_66 : decode cX4_weigh 66 = .ok (.goto (-57), 3) := by decide +kernel
theorem dX4_weigh_69 : decode cX4_weigh 69 = .ok (.return_, 1) := by decide +kernel
theorem dX4_leastCost_0 : decode cX4_leastCost 0 = .ok (.iload_n 1, 1) := by decide +kernel
theorem dX4_leastCost_1 : decode cX4_leastCost 1 = .ok (.iload_n 1, 1) := by decide +kernel
theorem dX4_leastCost_2 : decode cX4_leastCost 2 = .ok (.ineg, 1) := by decide +kernel
theorem dX4_leastCost_3 : decode cX4_leastCost 3 = .ok (.iand, 1) := by decide +kernel
theorem dX4_leastCost_4 : decode cX4_leastCost 4 = .ok (.istore_n 2, 1) := by decide +kernel
theorem dX4_leastCost_5 : decode cX4_leastCost 5 = .ok (.iload_n 1, 1) := by decide +kernel
theorem dX4_leastCost_6 : decode cX4_leastCost 6 = .ok (.iload_n 2, 1) := by decide +kernel
theorem dX4_leastCost_7 : decode cX4_leastCost 7 = .ok (.ixor, 1) := by decide +kernel
theorem dX4_leastCost_8 : decode cX4_leastCost 8 = .ok (.istore_n 3, 1) := by decide +kernel
theorem dX4_leastCost_9 : decode cX4_leastCost 9 = .ok (.bipush 16, 2) := by decide +kernel
theorem dX4_leastCost_11 : decode cX4_leastCost 11 = .ok (.aload_n 0, 1) := by decide +kernel
theorem dX4_leastCost_12 : decode cX4_leastCost 12 = .ok (.getfield 17, 3) := by decide +kernel
theorem dX4_leastCost_15 : decode cX4_leastCost 15 = .ok (.iload_n 3, 1) := by decide +kernel
theorem dX4_leastCost_16 : decode cX4_leastCost 16 = .ok (.iaload, 1) := by decide +kernel
theorem dX4_leastCost_17 : decode cX4_leastCost 17 = .ok (.iadd, 1) := by decide +kernel
theorem dX4_leastCost_18 : decode cX4_leastCost 18 = .ok (.istore 4, 2) := by decide +kernel
theorem dX4_leastCost_20 : decode cX4_leastCost 20 = .ok (.iconst 0, 1) := by decide +kernel
theorem dX4_leastCost_21 : decode cX4_leastCost 21 = .ok (.istore 5, 2) := by decide +kernel
theorem dX4_leastCost_23 : decode cX4_leastCost 23 = .ok (.iconst 0, 1) := by decide +kernel
theorem dX4_leastCost_24 : decode cX4_leastCost 24 = .ok (.istore 6, 2) := by decide +kernel
theorem dX4_leastCost_26 : decode cX4_leastCost 26 = .ok (.iload 6, 2) := by decide +kernel
theorem dX4_leastCost_28 : decode cX4_leastCost 28 = .ok (.sipush 256, 3) := by decide +kernel
theorem dX4_leastCost_31 : decode cX4_leastCost 31 = .ok (.if_icmp .ge 56, 3) := by decide +kernel
theorem dX4_leastCost_34 : decode cX4_leastCost 34 = .ok (.aload_n 0, 1) := by decide +kernel
theorem dX4_leastCost_35 : decode cX4_leastCost 35 = .ok (.getfield 13, 3) := by decide +kernel
theorem dX4_leastCost_38 : decode cX4_leastCost 38 = .ok (.iload 5, 2) := by decide +kernel
theorem dX4_leastCost_40 : decode cX4_leastCost 40 = .ok (.iload_n 2, 1) := by decide +kernel
theorem dX4_leastCost_41 : decode cX4_leastCost 41 = .ok (.ior, 1) := by decide +kernel
theorem dX4_leastCost_42 : decode cX4_leastCost 42 = .ok (.baload, 1) := by decide +kernel
theorem dX4_leastCost_43 : decode cX4_leastCost 43 = .ok (.ifCond .eq 21, 3) := by decide +kernel
theorem dX4_leastCost_46 : decode cX4_leastCost 46 = .ok (.iload 4, 2) := by decide +kernel
theorem dX4_leastCost_48 : decode cX4_leastCost 48 = .ok (.iconst 1, 1) := by decide +kernel
theorem dX4_leastCost_49 : decode cX4_leastCost 49 = .ok (.aload_n 0, 1) := by decide +kernel
theorem dX4_leastCost_50 : decode cX4_leastCost 50 = .ok (.getfield 17, 3) := by decide +kernel
theorem dX4_leastCost_53 : decode cX4_leastCost 53 = .ok (.iload_n 3, 1) := by decide +kernel
theorem dX4_leastCost_54 : decode cX4_leastCost 54 = .ok (.iload 5, 2) := by decide +kernel
theorem dX4_leastCost_56 : decode cX4_leastCost 56 = .ok (.ixor, 1) := by decide +kernel
theorem dX4_leastCost_57 : decode cX4_leastCost 57 = .ok (.iaload, 1) := by decide +kernel
theorem dX4_leastCost_58 : decode cX4_leastCost 58 = .ok (.iadd, 1) := by decide +kernel
theorem dX4_leastCost_59 : decode cX4_leastCost 59 = .ok (.invokestatic 38, 3) := by decide +kernel
theorem dX4_leastCost_62 : decode cX4_leastCost 62 = .ok (.istore 4, 2) := by decide +kernel
theorem dX4_leastCost_64 : decode cX4_leastCost 64 = .ok (.iload 5, 2) := by decide +kernel
theorem dX4_leastCost_66 : decode cX4_leastCost 66 = .ok (.iload_n 3, 1) := by decide +kernel
theorem dX4_leastCost_67 : decode cX4_leastCost 67 = .ok (.if_icmp .ne 6, 3) := by decide +kernel
theorem dX4_leastCost_70 : decode cX4_leastCost 70 = .ok (.goto 17, 3) := by decide +kernel
theorem dX4_leastCost_73 : decode cX4_leastCost 73 = .ok (.iload 5, 2) := by decide +kernel
theorem dX4_leastCost_75 : decode cX4_leastCost 75 = .ok (.iload_n 3, 1) := by decide +kernel
theorem dX4_leastCost_76 : decode cX4_leastCost 76 = .ok (.isub, 1) := by decide +kernel
theorem dX4_leastCost_77 : decode cX4_leastCost 77 = .ok (.iload_n 3, 1) := by decide +kernel
theorem dX4_leastCost_78 : decode cX4_leastCost 78 = .ok (.iand, 1) := by decide +kernel
theorem dX4_leastCost_79 : decode cX4_leastCost 79 = .ok (.istore 5, 2) := by decide +kernel
theorem dX4_leastCost_81 : decode cX4_leastCost 81 = .ok (.iinc 6 1, 3) := by decide +kernel
theorem dX4_leastCost_84 : decode cX4_leastCost 84 = .ok (.goto (-58), 3) := by decide +kernel
theorem dX4_leastCost_87 : decode cX4_leastCost 87 = .ok (.iload 4, 2) := by decide +kernel
theorem dX4_leastCost_89 : decode cX4_leastCost 89 = .ok (.ireturn, 1) := by decide +kernel
theorem dX4_deal_0 : decode cX4_deal 0 = .ok (.aload_n 0, 1) := by decide +kernel
theorem dX4_deal_1 : decode cX4_deal 1 = .ok (.iload_n 1, 1) := by decide +kernel
theorem dX4_deal_2 : decode cX4_deal 2 = .ok (.iload_n 2, 1) := by decide +kernel
theorem dX4_deal_3 : decode cX4_deal 3 = .ok (.invokevirtual 43, 3) := by decide +kernel
theorem dX4_deal_6 : decode cX4_deal 6 = .ok (.aload_n 0, 1) := by decide +kernel
theorem dX4_deal_7 : decode cX4_deal 7 = .ok (.iconst 0, 1) := by decide +kernel
theorem dX4_deal_8 : decode cX4_deal 8 = .ok (.putfield 47, 3) := by decide +kernel
theorem dX4_deal_11 : decode cX4_deal 11 = .ok (.aload_n 0, 1) := by decide +kernel
theorem dX4_deal_12 : decode cX4_deal 12 = .ok (.iconst 0, 1) := by decide +kernel
theorem dX4_deal_13 : decode cX4_deal 13 = .ok (.putfield 51, 3) := by decide +kernel
theorem dX4_deal_16 : decode cX4_deal 16 = .ok (.iload_n 1, 1) := by decide +kernel
theorem dX4_deal_17 : decode cX4_deal 17 = .ok (.istore_n 3, 1) := by decide +kernel
theorem dX4_deal_18 : decode cX4_deal 18 = .ok (.iconst 0, 1) := by decide +kernel
theorem dX4_deal_19 : decode cX4_deal 19 = .ok (.istore 4, 2) := by decide +kernel
theorem dX4_deal_21 : decode cX4_deal 21 = .ok (.iload 4, 2) := by decide +kernel
theorem dX4_deal_23 : decode cX4_deal 23 = .ok (.bipush 8, 2) := by decide +kernel
theorem dX4_deal_25 : decode cX4_deal 25 = .ok (.if_icmp .ge 73, 3) := by decide +kernel
theorem dX4_deal_28 : decode cX4_deal 28 = .ok (.iload_n 3, 1) := by decide +kernel
theorem dX4_deal_29 : decode cX4_deal 29 = .ok (.ifCond .eq 69, 3) := by decide +kernel
theorem dX4_deal_32 : decode cX4_deal 32 = .ok (.aload_n 0, 1) := by decide +kernel
theorem dX4_deal_33 : decode cX4_deal 33 = .ok (.iload_n 3, 1) := by decide +kernel
theorem dX4_deal_34 : decode cX4_deal 34 = .ok (.invokevirtual 54, 3) := by decide +kernel
theorem dX4_deal_37 : decode cX4_deal 37 = .ok (.istore 5, 2) := by decide +kernel
theorem dX4_deal_39 : decode cX4_deal 39 = .ok (.iload 5, 2) := by decide +kernel
theorem dX4_deal_41 : decode cX4_deal 41 = .ok (.ifCond .ne 25, 3) := by decide +kernel
theorem dX4_deal_44 : decode cX4_deal 44 = .ok (.aload_n 0, 1) := by decide +kernel
theorem dX4_deal_45 : decode cX4_deal 45 = .ok (.dup, 1) := by decide +kernel
theorem dX4_deal_46 : decode cX4_deal 46 = .ok (.getfield 51, 3) := by decide +kernel
theorem dX4_deal_49 : decode cX4_deal 49 = .ok (.iload_n 3, 1) := by decide +kernel
theorem dX4_deal_50 : decode cX4_deal 50 = .ok (.iload_n 3, 1) := by decide +kernel
theorem dX4_deal_51 : decode cX4_deal 51 = .ok (.ineg, 1) := by decide +kernel
theorem dX4_deal_52 : decode cX4_deal 52 = .ok (.iand, 1) := by decide +kernel
theorem dX4_deal_53 : decode cX4_deal 53 = .ok (.ior, 1) := by decide +kernel
theorem dX4_deal_54 : decode cX4_deal 54 = .ok (.putfield 51, 3) := by decide +kernel
theorem dX4_deal_57 : decode cX4_deal 57 = .ok (.iload_n 3, 1) := by decide +kernel
theorem dX4_deal_58 : decode cX4_deal 58 = .ok (.iload_n 3, 1) := by decide +kernel
theorem dX4_deal_59 : decode cX4_deal 59 = .ok (.iconst 1, 1) := by decide +kernel
theorem dX4_deal_60 : decode cX4_deal 60 = .ok (.isub, 1) := by decide +kernel
theorem dX4_deal_61 : decode cX4_deal 61 = .ok (.iand, 1) := by decide +kernel
theorem dX4_deal_62 : decode cX4_deal 62 = .ok (.istore_n 3, 1) := by decide +kernel
theorem dX4_deal_63 : decode cX4_deal 63 = .ok (.goto 29, 3) := by decide +kernel
theorem dX4_deal_66 : decode cX4_deal 66 = .ok (.aload_n 0, 1) := by decide +kernel
theorem dX4_deal_67 : decode cX4_deal 67 = .ok (.getfield 21, 3) := by decide +kernel
theorem dX4_deal_70 : decode cX4_deal 70 = .ok (.aload_n 0, 1) := by decide +kernel
theorem dX4_deal_71 : decode cX4_deal 71 = .ok (.getfield 47, 3) := by decide +kernel
theorem dX4_deal_74 : decode cX4_deal 74 = .ok (.iload 5, 2) := by decide +kernel
theorem dX4_deal_76 : decode cX4_deal 76 = .ok (.iastore, 1) := by decide +kernel
theorem dX4_deal_77 : decode cX4_deal 77 = .ok (.aload_n 0, 1) := by decide +kernel
theorem dX4_deal_78 : decode cX4_deal 78 = .ok (.dup, 1) := by decide +kernel
theorem dX4_deal_79 : decode cX4_deal 79 = .ok (.getfield 47, 3) := by decide +kernel
theorem dX4_deal_82 : decode cX4_deal 82 = .ok (.iconst 1, 1) := by decide +kernel
theorem dX4_deal_83 : decode cX4_deal 83 = .ok (.iadd, 1) := by decide +kernel
theorem dX4_deal_84 : decode cX4_deal 84 = .ok (.putfield 47, 3) := by decide +kernel
theorem dX4_deal_87 : decode cX4_deal 87 = .ok (.iload_n 3, 1) := by decide +kernel
theorem dX4_deal_88 : decode cX4_deal 88 = .ok (.iload 5, 2) := by decide +kernel
theorem dX4_deal_90 : decode cX4_deal 90 = .ok (.ixor, 1) := by decide +kernel
theorem dX4_deal_91 : decode cX4_deal 91 = .ok (.istore_n 3, 1) := by decide +kernel
theorem dX4_deal_92 : decode cX4_deal 92 = .ok (.iinc 4 1, 3) := by decide +kernel
theorem dX4_deal_95 : decode cX4_deal 95 = .ok (.goto (-74), 3) := by decide +kernel
theorem dX4_deal_98 : decode cX4_deal 98 = .ok (.return_, 1) := by decide +kernel
theorem dX4_leastBestCompany_0 : decode cX4_leastBestCompany 0 = .ok (.iload_n 1, 1) := by decide +kernel
theorem dX4_leastBestCompany_1 : decode cX4_leastBestCompany 1 = .ok (.iload_n 1, 1) := by decide +kernel
theorem dX4_leastBestCompany_2 : decode cX4_leastBestCompany 2 = .ok (.ineg, 1) := by decide +kernel
theorem dX4_leastBestCompany_3 : decode cX4_leastBestCompany 3 = .ok (.iand, 1) := by decide +kernel
theorem dX4_leastBestCompany_4 : decode cX4_leastBestCompany 4 = .ok (.istore_n 2, 1) := by decide +kernel
theorem dX4_leastBestCompany_5 : decode cX4_leastBestCompany 5 = .ok (.iload_n 2, 1) := by decide +kernel
theorem dX4_leastBestCompany_6 : decode cX4_leastBestCompany 6 = .ok (.istore_n 3, 1) := by decide +kernel
theorem dX4_leastBestCompany_7 : decode cX4_leastBestCompany 7 = .ok (.iload_n 3, 1) := by decide +kernel
theorem dX4_leastBestCompany_8 : decode cX4_leastBestCompany 8 = .ok (.iload_n 1, 1) := by decide +kernel
theorem dX4_leastBestCompany_9 : decode cX4_leastBestCompany 9 = .ok (.if_icmp .gt 72, 3) := by decide +kernel
theorem dX4_leastBestCompany_12 : decode cX4_leastBestCompany 12 = .ok (.iload_n 3, 1) := by decide +kernel
theorem dX4_leastBestCompany_13 : decode cX4_leastBestCompany 13 = .ok (.sipush 256, 3) := by decide +kernel
theorem dX4_leastBestCompany_16 : decode cX4_leastBestCompany 16 = .ok (.if_icmp .ge 65, 3) := by decide +kernel
theorem dX4_leastBestCompany_19 : decode cX4_leastBestCompany 19 = .ok (.iload_n 3, 1) := by decide +kernel
theorem dX4_leastBestCompany_20 : decode cX4_leastBestCompany 20 = .ok (.iload_n 1, 1) := by decide +kernel
theorem dX4_leastBestCompany_21 : decode cX4_leastBestCompany 21 = .ok (.iconst (-1), 1) := by decide +kernel
theorem dX4_leastBestCompany_22 : decode cX4_leastBestCompany 22 = .ok (.ixor, 1) := by decide +kernel
theorem dX4_leastBestCompany_23 : decode cX4_leastBestCompany 23 = .ok (.iand, 1) := by decide +kernel
theorem dX4_leastBestCompany_24 : decode cX4_leastBestCompany 24 = .ok (.ifCond .ne 13, 3) := by decide +kernel
theorem dX4_leastBestCompany_27 : decode cX4_leastBestCompany 27 = .ok (.iload_n 3, 1) := by decide +kernel
theorem dX4_leastBestCompany_28 : decode cX4_leastBestCompany 28 = .ok (.iload_n 2, 1) := by decide +kernel
theorem dX4_leastBestCompany_29 : decode cX4_leastBestCompany 29 = .ok (.iand, 1) := by decide +kernel
theorem dX4_leastBestCompany_30 : decode cX4_leastBestCompany 30 = .ok (.ifCond .eq 7, 3) := by decide +kernel
theorem dX4_leastBestCompany_33 : decode cX4_leastBestCompany 33 = .ok (.iconst 1, 1) := by decide +kernel
theorem dX4_leastBestCompany_34 : decode cX4_leastBestCompany 34 = .ok (.goto 4, 3) := by decide +kernel
theorem dX4_leastBestCompany_37 : decode cX4_leastBestCompany 37 = .ok (.iconst 0, 1) := by decide +kernel
theorem dX4_leastBestCompany_38 : decode cX4_leastBestCompany 38 = .ok (.istore 4, 2) := by decide +kernel
theorem dX4_leastBestCompany_40 : decode cX4_leastBestCompany 40 = .ok (.iload 4, 2) := by decide +kernel
theorem dX4_leastBestCompany_42 : decode cX4_leastBestCompany 42 = .ok (.ifCond .eq 33, 3) := by decide +kernel
theorem dX4_leastBestCompany_45 : decode cX4_leastBestCompany 45 = .ok (.aload_n 0, 1) := by decide +kernel
theorem dX4_leastBestCompany_46 : decode cX4_leastBestCompany 46 = .ok (.getfield 13, 3) := by decide +kernel
theorem dX4_leastBestCompany_49 : decode cX4_leastBestCompany 49 = .ok (.iload_n 3, 1) := by decide +kernel
theorem dX4_leastBestCompany_50 : decode cX4_leastBestCompany 50 = .ok (.baload, 1) := by decide +kernel
theorem dX4_leastBestCompany_51 : decode cX4_leastBestCompany 51 = .ok (.ifCond .eq 24, 3) := by decide +kernel
theorem dX4_leastBestCompany_54 : decode cX4_leastBestCompany 54 = .ok (.iconst 1, 1) := by decide +kernel
theorem dX4_leastBestCompany_55 : decode cX4_leastBestCompany 55 = .ok (.aload_n 0, 1) := by decide +kernel
theorem dX4_leastBestCompany_56 : decode cX4_leastBestCompany 56 = .ok (.getfield 17, 3) := by decide +kernel
theorem dX4_leastBestCompany_59 : decode cX4_leastBestCompany 59 = .ok (.iload_n 1, 1) := by decide +kernel
theorem dX4_leastBestCompany_60 : decode cX4_leastBestCompany 60 = .ok (.iload_n 3, 1) := by decide +kernel
theorem dX4_leastBestCompany_61 : decode cX4_leastBestCompany 61 = .ok (.ixor, 1) := by decide +kernel
theorem dX4_leastBestCompany_62 : decode cX4_leastBestCompany 62 = .ok (.iaload, 1) := by decide +kernel
theorem dX4_leastBestCompany_63 : decode cX4_leastBestCompany 63 = .ok (.iadd, 1) := by decide +kernel
theorem dX4_leastBestCompany_64 : decode cX4_leastBestCompany 64 = .ok (.aload_n 0, 1) := by decide +kernel
theorem dX4_leastBestCompany_65 : decode cX4_leastBestCompany 65 = .ok (.getfield 17, 3) := by decide +kernel
theorem dX4_leastBestCompany_68 : decode cX4_leastBestCompany 68 = .ok (.iload_n 1, 1) := by decide +kernel
theorem dX4_leastBestCompany_69 : decode cX4_leastBestCompany 69 = .ok (.iaload, 1) := by decide +kernel
theorem dX4_leastBestCompany_70 : decode cX4_leastBestCompany 70 = .ok (.if_icmp .ne 5, 3) := by decide +kernel
theorem dX4_leastBestCompany_73 : decode cX4_leastBestCompany 73 = .ok (.iload_n 3, 1) := by decide +kernel
theorem dX4_leastBestCompany_74 : decode cX4_leastBestCompany 74 = .ok (.ireturn, 1) := by decide +kernel
theorem dX4_leastBestCompany_75 : decode cX4_leastBestCompany 75 = .ok (.iinc 3 1, 3) := by decide +kernel
theorem dX4_leastBestCompany_78 : decode cX4_leastBestCompany 78 = .ok (.goto (-71), 3) := by decide +kernel
theorem dX4_leastBestCompany_81 : decode cX4_leastBestCompany 81 = .ok (.iconst 0, 1) := by decide +kernel
theorem dX4_leastBestCompany_82 : decode cX4_leastBestCompany 82 = .ok (.ireturn, 1) := by decide +kernel
theorem dX4_leavesNobody_0 : decode cX4_leavesNobody 0 = .ok (.aload_n 0, 1) := by decide +kernel
theorem dX4_leavesNobody_1 : decode cX4_leavesNobody 1 = .ok (.iload_n 1, 1) := by decide +kernel
theorem dX4_leavesNobody_2 : decode cX4_leavesNobody 2 = .ok (.iload_n 2, 1) := by decide +kernel
theorem dX4_leavesNobody_3 : decode cX4_leavesNobody 3 = .ok (.invokevirtual 43, 3) := by decide +kernel
theorem dX4_leavesNobody_6 : decode cX4_leavesNobody 6 = .ok (.aload_n 0, 1) := by decide +kernel
theorem dX4_leavesNobody_7 : decode cX4_leavesNobody 7 = .ok (.getfield 17, 3) := by decide +kernel
theorem dX4_leavesNobody_10 : decode cX4_leavesNobody 10 = .ok (.iload_n 1, 1) := by decide +kernel
theorem dX4_leavesNobody_11 : decode cX4_leavesNobody 11 = .ok (.iaload, 1) := by decide +kernel
theorem dX4_leavesNobody_12 : decode cX4_leavesNobody 12 = .ok (.bipush 16, 2) := by decide +kernel
theorem dX4_leavesNobody_14 : decode cX4_leavesNobody 14 = .ok (.if_icmp .ge 7, 3) := by decide +kernel
theorem dX4_leavesNobody_17 : decode cX4_leavesNobody 17 = .ok (.iconst 1, 1) := by decide +kernel
theorem dX4_leavesNobody_18 : decode cX4_leavesNobody 18 = .ok (.goto 4, 3) := by decide +kernel
theorem dX4_leavesNobody_21 : decode cX4_leavesNobody 21 = .ok (.iconst 0, 1) := by decide +kernel
theorem dX4_leavesNobody_22 : decode cX4_leavesNobody 22 = .ok (.ireturn, 1) := by decide +kernel
theorem dX4_firstDayForBoth_0 : decode cX4_firstDayForBoth 0 = .ok (.iload 4, 2) := by decide +kernel
theorem dX4_firstDayForBoth_2 : decode cX4_firstDayForBoth 2 = .ok (.sipush 1500, 3) := by decide +kernel
theorem dX4_firstDayForBoth_5 : decode cX4_firstDayForBoth 5 = .ok (.iadd, 1) := by decide +kernel
theorem dX4_firstDayForBoth_6 : decode cX4_firstDayForBoth 6 = .ok (.ldc 59, 2) := by decide +kernel
theorem dX4_firstDayForBoth_8 : decode cX4_firstDayForBoth 8 = .ok (.invokestatic 38, 3) := by decide +kernel
theorem dX4_firstDayForBoth_11 : decode cX4_firstDayForBoth 11 = .ok (.istore 5, 2) := by decide +kernel
theorem dX4_firstDayForBoth_13 : decode cX4_firstDayForBoth 13 = .ok (.iload 4, 2) := by decide +kernel
theorem dX4_firstDayForBoth_15 : decode cX4_firstDayForBoth 15 = .ok (.istore 6, 2) := by decide +kernel
theorem dX4_firstDayForBoth_17 : decode cX4_firstDayForBoth 17 = .ok (.iconst 0, 1) := by decide +kernel
theorem dX4_firstDayForBoth_18 : decode cX4_firstDayForBoth 18 = .ok (.istore 7, 2) := by decide +kernel
theorem dX4_firstDayForBoth_20 : decode cX4_firstDayForBoth 20 = .ok (.iload 7, 2) := by decide +kernel
theorem dX4_firstDayForBoth_22 : decode cX4_firstDayForBoth 22 = .ok (.sipush 1500, 3) := by decide +kernel
theorem dX4_firstDayForBoth_25 : decode cX4_firstDayForBoth 25 = .ok (.if_icmp .gt 60, 3) := by decide +kernel
theorem dX4_firstDayForBoth_28 : decode cX4_firstDayForBoth 28 = .ok (.iload 6, 2) := by decide +kernel
theorem dX4_firstDayForBoth_30 : decode cX4_firstDayForBoth 30 = .ok (.iload 5, 2) := by decide +kernel
theorem dX4_firstDayForBoth_32 : decode cX4_firstDayForBoth 32 = .ok (.if_icmp .gt 53, 3) := by decide +kernel
theorem dX4_firstDayForBoth_35 : decode cX4_firstDayForBoth 35 = .ok (.aload_n 0, 1) := by decide +kernel
theorem dX4_firstDayForBoth_36 : decode cX4_firstDayForBoth 36 = .ok (.getfield 24, 3) := by decide +kernel
theorem dX4_firstDayForBoth_39 : decode cX4_firstDayForBoth 39 = .ok (.iload 6, 2) := by decide +kernel
theorem dX4_firstDayForBoth_41 : decode cX4_firstDayForBoth 41 = .ok (.invokevirtual 60, 3) := by decide +kernel
theorem dX4_firstDayForBoth_44 : decode cX4_firstDayForBoth 44 = .ok (.aload_n 0, 1) := by decide +kernel
theorem dX4_firstDayForBoth_45 : decode cX4_firstDayForBoth 45 = .ok (.iload_n 1, 1) := by decide +kernel
theorem dX4_firstDayForBoth_46 : decode cX4_firstDayForBoth 46 = .ok (.iload_n 3, 1) := by decide +kernel
theorem dX4_firstDayForBoth_47 : decode cX4_firstDayForBoth 47 = .ok (.invokevirtual 64, 3) := by decide +kernel
theorem dX4_firstDayForBoth_50 : decode cX4_firstDayForBoth 50 = .ok (.ifCond .eq 15, 3) := by decide +kernel
theorem dX4_firstDayForBoth_53 : decode cX4_firstDayForBoth 53 = .ok (.aload_n 0, 1) := by decide +kernel
theorem dX4_firstDayForBoth_54 : decode cX4_firstDayForBoth 54 = .ok (.iload_n 2, 1) := by decide +kernel
theorem dX4_firstDayForBoth_55 : decode cX4_firstDayForBoth 55 = .ok (.iload_n 3, 1) := by decide +kernel
theorem dX4_firstDayForBoth_56 : decode cX4_firstDayForBoth 56 = .ok (.invokevirtual 64, 3) := by decide +kernel
theorem dX4_firstDayForBoth_59 : decode cX4_firstDayForBoth 59 = .ok (.ifCond .eq 6, 3) := by decide +kernel
theorem dX4_firstDayForBoth_62 : decode cX4_firstDayForBoth 62 = .ok (.iload 6, 2) := by decide +kernel
theorem dX4_firstDayForBoth_64 : decode cX4_firstDayForBoth 64 = .ok (.ireturn, 1) := by decide +kernel
theorem dX4_firstDayForBoth_65 : decode cX4_firstDayForBoth 65 = .ok (.aload_n 0, 1) := by decide +kernel
theorem dX4_firstDayForBoth_66 : decode cX4_firstDayForBoth 66 = .ok (.getfield 24, 3) := by decide +kernel
theorem dX4_firstDayForBoth_69 : decode cX4_firstDayForBoth 69 = .ok (.iload_n 1, 1) := by decide +kernel
theorem dX4_firstDayForBoth_70 : decode cX4_firstDayForBoth 70 = .ok (.iload_n 2, 1) := by decide +kernel
theorem dX4_firstDayForBoth_71 : decode cX4_firstDayForBoth 71 = .ok (.ior, 1) := by decide +kernel
theorem dX4_firstDayForBoth_72 : decode cX4_firstDayForBoth 72 = .ok (.iload 6, 2) := by decide +kernel
theorem dX4_firstDayForBoth_74 : decode cX4_firstDayForBoth 74 = .ok (.invokevirtual 68, 3) := by decide +kernel
theorem dX4_firstDayForBoth_77 : decode cX4_firstDayForBoth 77 = .ok (.istore 6, 2) := by decide +kernel
theorem dX4_firstDayForBoth_79 : decode cX4_firstDayForBoth 79 = .ok (.iinc 7 1, 3) := by decide +kernel
theorem dX4_firstDayForBoth_82 : decode cX4_firstDayForBoth 82 = .ok (.goto (-62), 3) := by decide +kernel
theorem dX4_firstDayForBoth_85 : decode cX4_firstDayForBoth 85 = .ok (.iconst (-1), 1) := by decide +kernel
theorem dX4_firstDayForBoth_86 : decode cX4_firstDayForBoth 86 = .ok (.ireturn, 1) := by decide +kernel
theorem dX5_init_0 : decode cX5_init 0 = .ok (.aload_n 0, 1) := by decide +kernel
theorem dX5_init_1 : decode cX5_init 1 = .ok (.invokespecial 3, 3) := by decide +kernel
theorem dX5_init_4 : decode cX5_init 4 = .ok (.aload_n 0, 1) := by decide +kernel
theorem dX5_init_5 : decode cX5_init 5 = .ok (.iconst (-1), 1) := by decide +kernel
theorem dX5_init_6 : decode cX5_init 6 = .ok (.putfield 9, 3) := by decide +kernel
theorem dX5_init_9 : decode cX5_init 9 = .ok (.aload_n 0, 1) := by decide +kernel
theorem dX5_init_10 : decode cX5_init 10 = .ok (.bipush 10, 2) := by decide +kernel
theorem dX5_init_12 : decode cX5_init 12 = .ok (.newarray .int, 2) := by decide +kernel
theorem dX5_init_14 : decode cX5_init 14 = .ok (.putfield 15, 3) := by decide +kernel
theorem dX5_init_17 : decode cX5_init 17 = .ok (.aload_n 0, 1) := by decide +kernel
theorem dX5_init_18 : decode cX5_init 18 = .ok (.bipush 10, 2) := by decide +kernel
theorem dX5_init_20 : decode cX5_init 20 = .ok (.newarray .int, 2) := by decide +kernel
theorem dX5_init_22 : decode cX5_init 22 = .ok (.putfield 19, 3) := by decide +kernel
theorem dX5_init_25 : decode cX5_init 25 = .ok (.aload_n 0, 1) := by decide +kernel
theorem dX5_init_26 : decode cX5_init 26 = .ok (.bipush 10, 2) := by decide +kernel
theorem dX5_init_28 : decode cX5_init 28 = .ok (.newarray .boolean, 2) := by decide +kernel
theorem dX5_init_30 : decode cX5_init 30 = .ok (.putfield 22, 3) := by decide +kernel
theorem dX5_init_33 : decode cX5_init 33 = .ok (.return_, 1) := by decide +kernel
theorem dX5_append_0 : decode cX5_append 0 = .ok (.aload_n 0, 1) := by decide +kernel
theorem dX5_append_1 : decode cX5_append 1 = .ok (.getfield 26, 3) := by decide +kernel
theorem dX5_append_4 : decode cX5_append 4 = .ok (.bipush 10, 2) := by decide +kernel
theorem dX5_append_6 : decode cX5_append 6 = .ok (.if_icmp .lt 6, 3) := by decide +kernel
theorem dX5_append_9 : decode cX5_append 9 = .ok (.bipush (-4), 2) := by decide +kernel
theorem dX5_append_11 : decode cX5_append 11 = .ok (.ireturn, 1) := by decide +kernel
theorem dX5_append_12 : decode cX5_append 12 = .ok (.aload_n 0, 1) := by decide +kernel
theorem dX5_append_13 : decode cX5_append 13 = .ok (.getfield 15, 3) := by decide +kernel
theorem dX5_append_16 : decode cX5_append 16 = .ok (.aload_n 0, 1) := by decide +kernel
theorem dX5_append_17 : decode cX5_append 17 = .ok (.getfield 26, 3) := by decide +kernel
theorem dX5_append_20 : decode cX5_append 20 = .ok (.iload_n 1, 1) := by decide +kernel
theorem dX5_append_21 : decode cX5_append 21 = .ok (.iastore, 1) := by decide +kernel
theorem dX5_append_22 : decode cX5_append 22 = .ok (.aload_n 0, 1) := by decide +kernel
theorem dX5_append_23 : decode cX5_append 23 = .ok (.getfield 19, 3) := by decide +kernel
theorem dX5_append_26 : decode cX5_append 26 = .ok (.aload_n 0, 1) := by decide +kernel
theorem dX5_append_27 : decode cX5_append 27 = .ok (.getfield 26, 3) := by decide +kernel
theorem dX5_append_30 : decode cX5_append 30 = .ok (.iload_n 2, 1) := by decide +kernel
theorem dX5_append_31 : decode cX5_append 31 = .ok (.iastore, 1) := by decide +kernel
theorem dX5_append_32 : decode cX5_append 32 = .ok (.aload_n 0, 1) := by decide +kernel
theorem dX5_append_33 : decode cX5_append 33 = .ok (.getfield 22, 3) := by decide +kernel
theorem dX5_append_36 : decode cX5_append 36 = .ok (.aload_n 0, 1) := by decide +kernel
theorem dX5_append_37 : decode cX5_append 37 = .ok (.getfield 26, 3) := by decide +kernel
theorem dX5_append_40 : decode cX5_append 40 = .ok (.iload_n 3, 1) := by decide +kernel
theorem dX5_append_41 : decode cX5_append 41 = .ok (.bastore, 1) := by decide +kernel
theorem dX5_append_42 : decode cX5_append 42 = .ok (.aload_n 0, 1) := by decide +kernel
theorem dX5_append_43 : decode cX5_append 43 = .ok (.iconst (-1), 1) := by decide +kernel
theorem dX5_append_44 : decode cX5_append 44 = .ok (.putfield 9, 3) := by decide +kernel
theorem dX5_append_47 : decode cX5_append 47 = .ok (.aload_n 0, 1) := by decide +kernel
theorem dX5_append_48 : decode cX5_append 48 = .ok (.dup, 1) := by decide +kernel
theorem dX5_append_49 : decode cX5_append 49 = .ok (.getfield 26, 3) := by decide +kernel
theorem dX5_append_52 : decode cX5_append 52 = .ok (.dup_x1, 1) := by decide +kernel
theorem dX5_append_53 : decode cX5_append 53 = .ok (.iconst 1, 1) := by decide +kernel
theorem dX5_append_54 : decode cX5_append 54 = .ok (.iadd, 1) := by decide +kernel
theorem dX5_append_55 : decode cX5_append 55 = .ok (.putfield 26, 3) := by decide +kernel
theorem dX5_append_58 : decode cX5_append 58 = .ok (.ireturn, 1) := by decide +kernel
theorem dX5_drop_0 : decode cX5_drop 0 = .ok (.aload_n 0, 1) := by decide +kernel
theorem dX5_drop_1 : decode cX5_drop 1 = .ok (.getfield 26, 3) := by decide +kernel
theorem dX5_drop_4 : decode cX5_drop 4 = .ok (.istore_n 1, 1) := by decide +kernel
theorem dX5_drop_5 : decode cX5_drop 5 = .ok (.aload_n 0, 1) := by decide +kernel
theorem dX5_drop_6 : decode cX5_drop 6 = .ok (.iconst 0, 1) := by decide +kernel
theorem dX5_drop_7 : decode cX5_drop 7 = .ok (.putfield 26, 3) := by decide +kernel
theorem dX5_drop_10 : decode cX5_drop 10 = .ok (.aload_n 0, 1) := by decide +kernel
theorem dX5_drop_11 : decode cX5_drop 11 = .ok (.iconst (-1), 1) := by decide +kernel
theorem dX5_drop_12 : decode cX5_drop 12 = .ok (.putfield 9, 3) := by decide +kernel
theorem dX5_drop_15 : decode cX5_drop 15 = .ok (.iload_n 1, 1) := by decide +kernel
theorem dX5_drop_16 : decode cX5_drop 16 = .ok (.ireturn, 1) := by decide +kernel
theorem dX5_allow_0 : decode cX5_allow 0 = .ok (.aload_n 0, 1) := by decide +kernel
theorem dX5_allow_1 : decode cX5_allow 1 = .ok (.getfield 29, 3) := by decide +kernel
theorem dX5_allow_4 : decode cX5_allow 4 = .ok (.istore_n 2, 1) := by decide +kernel
theorem dX5_allow_5 : decode cX5_allow 5 = .ok (.aload_n 0, 1) := by decide +kernel
theorem dX5_allow_6 : decode cX5_allow 6 = .ok (.iload_n 1, 1) := by decide +kernel
theorem dX5_allow_7 : decode cX5_allow 7 = .ok (.putfield 29, 3) := by decide +kernel
theorem dX5_allow_10 : decode cX5_allow 10 = .ok (.aload_n 0, 1) := by decide +kernel
theorem dX5_allow_11 : decode cX5_allow 11 = .ok (.iconst (-1), 1) := by decide +kernel
theorem dX5_allow_12 : decode cX5_allow 12 = .ok (.putfield 9, 3) := by decide +kernel
theorem dX5_allow_15 : decode cX5_allow 15 = .ok (.iload_n 2, 1) := by decide +kernel
theorem dX5_allow_16 : decode cX5_allow 16 = .ok (.ireturn, 1) := by decide +kernel
theorem dX5_copyFrom_0 : decode cX5_copyFrom 0 = .ok (.aload_n 0, 1) := by decide +kernel
theorem dX5_copyFrom_1 : decode cX5_copyFrom 1 = .ok (.aload_n 1, 1) := by decide +kernel
theorem dX5_copyFrom_2 : decode cX5_copyFrom 2 = .ok (.getfield 26, 3) := by decide +kernel
theorem dX5_copyFrom_5 : decode cX5_copyFrom 5 = .ok (.putfield 26, 3) := by decide +kernel
theorem dX5_copyFrom_8 : decode cX5_copyFrom 8 = .ok (.aload_n 0, 1) := by decide +kernel
theorem dX5_copyFrom_9 : decode cX5_copyFrom 9 = .ok (.aload_n 1, 1) := by decide +kernel
theorem dX5_copyFrom_10 : decode cX5_copyFrom 10 = .ok (.getfield 29, 3) := by decide +kernel
theorem dX5_copyFrom_13 : decode cX5_copyFrom 13 = .ok (.putfield 29, 3) := by decide +kernel
theorem dX5_copyFrom_16 : decode cX5_copyFrom 16 = .ok (.aload_n 0, 1) := by decide +kernel
theorem dX5_copyFrom_17 : decode cX5_copyFrom 17 = .ok (.aload_n 1, 1) := by decide +kernel
theorem dX5_copyFrom_18 : decode cX5_copyFrom 18 = .ok (.getfield 9, 3) := by decide +kernel
theorem dX5_copyFrom_21 : decode cX5_copyFrom 21 = .ok (.putfield 9, 3) := by decide +kernel
theorem dX5_copyFrom_24 : decode cX5_copyFrom 24 = .ok (.aload_n 1, 1) := by decide +kernel
theorem dX5_copyFrom_25 : decode cX5_copyFrom 25 = .ok (.getfield 15, 3) := by decide +kernel
theorem dX5_copyFrom_28 : decode cX5_copyFrom 28 = .ok (.iconst 0, 1) := by decide +kernel
theorem dX5_copyFrom_29 : decode cX5_copyFrom 29 = .ok (.aload_n 0, 1) := by decide +kernel
theorem dX5_copyFrom_30 : decode cX5_copyFrom 30 = .ok (.getfield 15, 3) := by decide +kernel
theorem dX5_copyFrom_33 : decode cX5_copyFrom 33 = .ok (.iconst 0, 1) := by decide +kernel
theorem dX5_copyFrom_34 : decode cX5_copyFrom 34 = .ok (.bipush 10, 2) := by decide +kernel
theorem dX5_copyFrom_36 : decode cX5_copyFrom 36 = .ok (.invokestatic 32, 3) := by decide +kernel
theorem dX5_copyFrom_39 : decode cX5_copyFrom 39 = .ok (.aload_n 1, 1) := by decide +kernel
theorem dX5_copyFrom_40 : decode cX5_copyFrom 40 = .ok (.getfield 19, 3) := by decide +kernel
theorem dX5_copyFrom_43 : decode cX5_copyFrom 43 = .ok (.iconst 0, 1) := by decide +kernel
theorem dX5_copyFrom_44 : decode cX5_copyFrom 44 = .ok (.aload_n 0, 1) := by decide +kernel
theorem dX5_copyFrom_45 : decode cX5_copyFrom 45 = .ok (.getfield 19, 3) := by decide +kernel
theorem dX5_copyFrom_48 : decode cX5_copyFrom 48 = .ok (.iconst 0, 1) := by decide +kernel
theorem dX5_copyFrom_49 : decode cX5_copyFrom 49 = .ok (.bipush 10, 2) := by decide +kernel
theorem dX5_copyFrom_51 : decode cX5_copyFrom 51 = .ok (.invokestatic 32, 3) := by decide +kernel
theorem dX5_copyFrom_54 : decode cX5_copyFrom 54 = .ok (.aload_n 1, 1) := by decide +kernel
theorem dX5_copyFrom_55 : decode cX5_copyFrom 55 = .ok (.getfield 22, 3) := by decide +kernel
theorem dX5_copyFrom_58 : decode cX5_copyFrom 58 = .ok (.iconst 0, 1) := by decide +kernel
theorem dX5_copyFrom_59 : decode cX5_copyFrom 59 = .ok (.aload_n 0, 1) := by decide +kernel
theorem dX5_copyFrom_60 : decode cX5_copyFrom 60 = .ok (.getfield 22, 3) := by decide +kernel
theorem dX5_copyFrom_63 : decode cX5_copyFrom 63 = .ok (.iconst 0, 1) := by decide +kernel
theorem dX5_copyFrom_64 : decode cX5_copyFrom 64 = .ok (.bipush 10, 2) := by decide +kernel
theorem dX5_copyFrom_66 : decode cX5_copyFrom 66 = .ok (.invokestatic 32, 3) := by decide +kernel
theorem dX5_copyFrom_69 : decode cX5_copyFrom 69 = .ok (.return_, 1) := by decide +kernel
theorem dX6_init_0 : decode cX6_init 0 = .ok (.aload_n 0, 1) := by decide +kernel
theorem dX6_init_1 : decode cX6_init 1 = .ok (.invokespecial 3, 3) := by decide +kernel
theorem dX6_init_4 : decode cX6_init 4 = .ok (.aload_n 0, 1) := by decide +kernel
theorem dX6_init_5 : decode cX6_init 5 = .ok (.aload_n 1, 1) := by decide +kernel
theorem dX6_init_6 : decode cX6_init 6 = .ok (.putfield 9, 3) := by decide +kernel
theorem dX6_init_9 : decode cX6_init 9 = .ok (.aload_n 0, 1) := by decide +kernel
theorem dX6_init_10 : decode cX6_init 10 = .ok (.aload_n 2, 1) := by decide +kernel
theorem dX6_init_11 : decode cX6_init 11 = .ok (.putfield 15, 3) := by decide +kernel
theorem dX6_init_14 : decode cX6_init 14 = .ok (.return_, 1) := by decide +kernel
theorem dX6_takeBook_0 : decode cX6_takeBook 0 = .ok (.aload_n 0, 1) := by decide +kernel
theorem dX6_takeBook_1 : decode cX6_takeBook 1 = .ok (.getfield 15, 3) := by decide +kernel
theorem dX6_takeBook_4 : decode cX6_takeBook 4 = .ok (.invokevirtual 19, 3) := by decide +kernel
theorem dX6_takeBook_7 : decode cX6_takeBook 7 = .ok (.aload_n 0, 1) := by decide +kernel
theorem dX6_takeBook_8 : decode cX6_takeBook 8 = .ok (.iconst 0, 1) := by decide +kernel
theorem dX6_takeBook_9 : decode cX6_takeBook 9 = .ok (.putfield 24, 3) := by decide +kernel
theorem dX6_takeBook_12 : decode cX6_takeBook 12 = .ok (.iconst 0, 1) := by decide +kernel
theorem dX6_takeBook_13 : decode cX6_takeBook 13 = .ok (.istore_n 1, 1) := by decide +kernel
theorem dX6_takeBook_14 : decode cX6_takeBook 14 = .ok (.aload_n 0, 1) := by decide +kernel
theorem dX6_takeBook_15 : decode cX6_takeBook 15 = .ok (.invokevirtual 28, 3) := by decide +kernel
theorem dX6_takeBook_18 : decode cX6_takeBook 18 = .ok (.iload_n 1, 1) := by decide +kernel
theorem dX6_takeBook_19 : decode cX6_takeBook 19 = .ok (.sipush 200, 3) := by decide +kernel
theorem dX6_takeBook_22 : decode cX6_takeBook 22 = .ok (.if_icmp .gt 42, 3) := by decide +kernel
theorem dX6_takeBook_25 : decode cX6_takeBook 25 = .ok (.aload_n 0, 1) := by decide +kernel
theorem dX6_takeBook_26 : decode cX6_takeBook 26 = .ok (.getfield 33, 3) := by decide +kernel
theorem dX6_takeBook_29 : decode cX6_takeBook 29 = .ok (.ifCond .eq 35, 3) := by decide +kernel
theorem dX6_takeBook_32 : decode cX6_takeBook 32 = .ok (.aload_n 0, 1) := by decide +kernel
theorem dX6_takeBook_33 : decode cX6_takeBook 33 = .ok (.invokevirtual 36, 3) := by decide +kernel
theorem dX6_takeBook_36 : decode cX6_takeBook 36 = .ok (.ifCond .eq 10, 3) := by decide +kernel
theorem dX6_takeBook_39 : decode cX6_takeBook 39 = .ok (.aload_n 0, 1) := by decide +kernel
theorem dX6_takeBook_40 : decode cX6_takeBook 40 = .ok (.invokevirtual 40, 3) := by decide +kernel
theorem dX6_takeBook_43 : decode cX6_takeBook 43 = .ok (.ifCond .ne 11, 3) := by decide +kernel
theorem dX6_takeBook_46 : decode cX6_takeBook 46 = .ok (.bipush (-10), 2) := by decide +kernel
theorem dX6_takeBook_48 : decode cX6_takeBook 48 = .ok (.aload_n 0, 1) := by decide +kernel
theorem dX6_takeBook_49 : decode cX6_takeBook 49 = .ok (.getfield 43, 3) := by decide +kernel
theorem dX6_takeBook_52 : decode cX6_takeBook 52 = .ok (.isub, 1) := by decide +kernel
theorem dX6_takeBook_53 : decode cX6_takeBook 53 = .ok (.ireturn, 1) := by decide +kernel
theorem dX6_takeBook_54 : decode cX6_takeBook 54 = .ok (.iinc 1 1, 3) := by decide +kernel
theorem dX6_takeBook_57 : decode cX6_takeBook 57 = .ok (.aload_n 0, 1) := by decide +kernel
theorem dX6_takeBook_58 : decode cX6_takeBook 58 = .ok (.invokevirtual 28, 3) := by decide +kernel
theorem dX6_takeBook_61 : decode cX6_takeBook 61 = .ok (.goto (-43), 3) := by decide +kernel
theorem dX6_takeBook_64 : decode cX6_takeBook 64 = .ok (.iload_n 1, 1) := by decide +kernel
theorem dX6_takeBook_65 : decode cX6_takeBook 65 = .ok (.ireturn, 1) := by decide +kernel
theorem dX6_takeContent_0 : decode cX6_takeContent 0 = .ok (.aload_n 0, 1) := by decide +kernel
theorem dX6_takeContent_1 : decode cX6_takeContent 1 = .ok (.ldc 46, 2) := by decide +kernel
theorem dX6_takeContent_3 : decode cX6_takeContent 3 = .ok (.invokevirtual 48, 3) := by decide +kernel
theorem dX6_takeContent_6 : decode cX6_takeContent 6 = .ok (.ifCond .eq 8, 3) := by decide +kernel
theorem dX6_takeContent_9 : decode cX6_takeContent 9 = .ok (.aload_n 0, 1) := by decide +kernel
theorem dX6_takeContent_10 : decode cX6_takeContent 10 = .ok (.invokevirtual 52, 3) := by decide +kernel
theorem dX6_takeContent_13 : decode cX6_takeContent 13 = .ok (.ireturn, 1) := by decide +kernel
theorem dX6_takeContent_14 : decode cX6_takeContent 14 = .ok (.aload_n 0, 1) := by decide +kernel
theorem dX6_takeContent_15 : decode cX6_takeContent 15 = .ok (.ldc 55, 2) := by decide +kernel
theorem dX6_takeContent_17 : decode cX6_takeContent 17 = .ok (.invokevirtual 48, 3) := by decide +kernel
theorem dX6_takeContent_20 : decode cX6_takeContent 20 = .ok (.ifCond .eq 8, 3) := by decide +kernel
theorem dX6_takeContent_23 : decode cX6_takeContent 23 = .ok (.aload_n 0, 1) := by decide +kernel
theorem dX6_takeContent_24 : decode cX6_takeContent 24 = .ok (.invokevirtual 57, 3) := by decide +kernel
theorem dX6_takeContent_27 : decode cX6_takeContent 27 = .ok (.ireturn, 1) := by decide +kernel
theorem dX6_takeContent_28 : decode cX6_takeContent 28 = .ok (.aload_n 0, 1) := by decide +kernel
theorem dX6_takeContent_29 : decode cX6_takeContent 29 = .ok (.ldc 60, 2) := by decide +kernel
theorem dX6_takeContent_31 : decode cX6_takeContent 31 = .ok (.invokevirtual 48, 3) := by decide +kernel
theorem dX6_takeContent_34 : decode cX6_takeContent 34 = .ok (.ifCond .eq 15, 3) := by decide +kernel
theorem dX6_takeContent_37 : decode cX6_takeContent 37 = .ok (.aload_n 0, 1) := by decide +kernel
theorem dX6_takeContent_38 : decode cX6_takeContent 38 = .ok (.aload_n 0, 1) := by decide +kernel
theorem dX6_takeContent_39 : decode cX6_takeContent 39 = .ok (.getfield 15, 3) := by decide +kernel
theorem dX6_takeContent_42 : decode cX6_takeContent 42 = .ok (.getfield 62, 3) := by decide +kernel
theorem dX6_takeContent_45 : decode cX6_takeContent 45 = .ok (.invokevirtual 65, 3) := by decide +kernel
theorem dX6_takeContent_48 : decode cX6_takeContent 48 = .ok (.ireturn, 1) := by decide +kernel
theorem dX6_takeContent_49 : decode cX6_takeContent 49 = .ok (.aload_n 0, 1) := by decide +kernel
theorem dX6_takeContent_50 : decode cX6_takeContent 50 = .ok (.ldc 69, 2) := by decide +kernel
theorem dX6_takeContent_52 : decode cX6_takeContent 52 = .ok (.invokevirtual 48, 3) := by decide +kernel
theorem dX6_takeContent_55 : decode cX6_takeContent 55 = .ok (.ifCond .eq 21, 3) := by decide +kernel
theorem dX6_takeContent_58 : decode cX6_takeContent 58 = .ok (.aload_n 0, 1) := by decide +kernel
theorem dX6_takeContent_59 : decode cX6_takeContent 59 = .ok (.aload_n 0, 1) := by decide +kernel
theorem dX6_takeContent_60 : decode cX6_takeContent 60 = .ok (.getfield 15, 3) := by decide +kernel
theorem dX6_takeContent_63 : decode cX6_takeContent 63 = .ok (.getfield 71, 3) := by decide +kernel
theorem dX6_takeContent_66 : decode cX6_takeContent 66 = .ok (.invokevirtual 65, 3) := by decide +kernel
theorem dX6_takeContent_69 : decode cX6_takeContent 69 = .ok (.ifCond .eq 7, 3) := by decide +kernel
theorem dX6_takeContent_72 : decode cX6_takeContent 72 = .ok (.iconst 1, 1) := by decide +kernel
theorem dX6_takeContent_73 : decode cX6_takeContent 73 = .ok (.goto 4, 3) := by decide +kernel
theorem dX6_takeContent_76 : decode cX6_takeContent 76 = .ok (.iconst 0, 1) := by decide +kernel
theorem dX6_takeContent_77 : decode cX6_takeContent 77 = .ok (.ireturn, 1) := by decide +kernel
theorem dX6_takePerson_0 : decode cX6_takePerson 0 = .ok (.aload_n 0, 1) := by decide +kernel
theorem dX6_takePerson_1 : decode cX6_takePerson 1 = .ok (.getfield 15, 3) := by decide +kernel
theorem dX6_takePerson_4 : decode cX6_takePerson 4 = .ok (.getfield 73, 3) := by decide +kernel
theorem dX6_takePerson_7 : decode cX6_takePerson 7 = .ok (.bipush 8, 2) := by decide +kernel
theorem dX6_takePerson_9 : decode cX6_takePerson 9 = .ok (.if_icmp .ge 16, 3) := by decide +kernel
theorem dX6_takePerson_12 : decode cX6_takePerson 12 = .ok (.aload_n 0, 1) := by decide +kernel
theorem dX6_takePerson_13 : decode cX6_takePerson 13 = .ok (.sipush 1800, 3) := by decide +kernel
theorem dX6_takePerson_16 : decode cX6_takePerson 16 = .ok (.sipush 2199, 3) := by decide +kernel
theorem dX6_takePerson_19 : decode cX6_takePerson 19 = .ok (.invokevirtual 78, 3) := by decide +kernel
theorem dX6_takePerson_22 : decode cX6_takePerson 22 = .ok (.ifCond .ne 5, 3) := by decide +kernel
theorem dX6_takePerson_25 : decode cX6_takePerson 25 = .ok (.iconst 0, 1) := by decide +kernel
theorem dX6_takePerson_26 : decode cX6_takePerson 26 = .ok (.ireturn, 1) := by decide +kernel
theorem dX6_takePerson_27 : decode cX6_takePerson 27 = .ok (.aload_n 0, 1) := by decide +kernel
theorem dX6_takePerson_28 : decode cX6_takePerson 28 = .ok (.getfield 82, 3) := by decide +kernel
theorem dX6_takePerson_31 : decode cX6_takePerson 31 = .ok (.istore_n 1, 1) := by decide +kernel
theorem dX6_takePerson_32 : decode cX6_takePerson 32 = .ok (.aload_n 0, 1) := by decide +kernel
theorem dX6_takePerson_33 : decode cX6_takePerson 33 = .ok (.iconst 1, 1) := by decide +kernel
theorem dX6_takePerson_34 : decode cX6_takePerson 34 = .ok (.bipush 12, 2) := by decide +kernel
theorem dX6_takePerson_36 : decode cX6_takePerson 36 = .ok (.invokevirtual 78, 3) := by decide +kernel
theorem dX6_takePerson_39 : decode cX6_takePerson 39 = .ok (.ifCond .ne 5, 3) := by decide +kernel
theorem dX6_takePerson_42 : decode cX6_takePerson 42 = .ok (.iconst 0, 1) := by decide +kernel
theorem dX6_takePerson_43 : decode cX6_takePerson 43 = .ok (.ireturn, 1) := by decide +kernel
theorem dX6_takePerson_44 : decode cX6_takePerson 44 = .ok (.aload_n 0, 1) := by decide +kernel
theorem dX6_takePerson_45 : decode cX6_takePerson 45 = .ok (.getfield 82, 3) := by decide +kernel
theorem dX6_takePerson_48 : decode cX6_takePerson 48 = .ok (.istore_n 2, 1) := by decide +kernel
theorem dX6_takePerson_49 : decode cX6_takePerson 49 = .ok (.aload_n 0, 1) := by decide +kernel
theorem dX6_takePerson_50 : decode cX6_takePerson 50 = .ok (.iconst 1, 1) := by decide +kernel
theorem dX6_takePerson_51 : decode cX6_takePerson 51 = .ok (.iload_n 1, 1) := by decide +kernel
theorem dX6_takePerson_52 : decode cX6_takePerson 52 = .ok (.iload_n 2, 1) := by decide +kernel
theorem dX6_takePerson_53 : decode cX6_takePerson 53 = .ok (.invokestatic 85, 3) := by decide +kernel
theorem dX6_takePerson_56 : decode cX6_takePerson 56 = .ok (.invokevirtual 78, 3) := by decide +kernel
theorem dX6_takePerson_59 : decode cX6_takePerson 59 = .ok (.ifCond .ne 5, 3) := by decide +kernel
theorem dX6_takePerson_62 : decode cX6_takePerson 62 = .ok (.iconst 0, 1) := by decide +kernel
theorem dX6_takePerson_63 : decode cX6_takePerson 63 = .ok (.ireturn, 1) := by decide +kernel
theorem dX6_takePerson_64 : decode cX6_takePerson 64 = .ok (.aload_n 0, 1) := by decide +kernel
theorem dX6_takePerson_65 : decode cX6_takePerson 65 = .ok (.getfield 15, 3) := by decide +kernel
theorem dX6_takePerson_68 : decode cX6_takePerson 68 = .ok (.iload_n 1, 1) := by decide +kernel
theorem dX6_takePerson_69 : decode cX6_takePerson 69 = .ok (.iload_n 2, 1) := by decide +kernel
theorem dX6_takePerson_70 : decode cX6_takePerson 70 = .ok (.aload_n 0, 1) := by decide +kernel
theorem dX6_takePerson_71 : decode cX6_takePerson 71 = .ok (.getfield 82, 3) := by decide +kernel
theorem dX6_takePerson_74 : decode cX6_takePerson 74 = .ok (.invokestatic 89, 3) := by decide +kernel
theorem dX6_takePerson_77 : decode cX6_takePerson 77 = .ok (.invokevirtual 93, 3) := by decide +kernel
theorem dX6_takePerson_80 : decode cX6_takePerson 80 = .ok (.pop, 1) := by decide +kernel
theorem dX6_takePerson_81 : decode cX6_takePerson 81 = .ok (.iconst 1, 1) := by decide +kernel
theorem dX6_takePerson_82 : decode cX6_takePerson 82 = .ok (.ireturn, 1) := by decide +kernel
theorem dX6_takeGate_0 : decode cX6_takeGate 0 = .ok (.aload_n 0, 1) := by decide +kernel
theorem dX6_takeGate_1 : decode cX6_takeGate 1 = .ok (.getfield 15, 3) := by decide +kernel
theorem dX6_takeGate_4 : decode cX6_takeGate 4 = .ok (.getfield 97, 3) := by decide +kernel
theorem dX6_takeGate_7 : decode cX6_takeGate 7 = .ok (.iconst 4, 1) := by decide +kernel
theorem dX6_takeGate_8 : decode cX6_takeGate 8 = .ok (.if_icmp .ge 12, 3) := by decide +kernel
theorem dX6_takeGate_11 : decode cX6_takeGate 11 = .ok (.aload_n 0, 1) := by decide +kernel
theorem dX6_takeGate_12 : decode cX6_takeGate 12 = .ok (.iconst 0, 1) := by decide +kernel
theorem dX6_takeGate_13 : decode cX6_takeGate 13 = .ok (.iconst 4, 1) := by decide +kernel
theorem dX6_takeGate_14 : decode cX6_takeGate 14 = .ok (.invokevirtual 78, 3) := by decide +kernel
theorem dX6_takeGate_17 : decode cX6_takeGate 17 = .ok (.ifCond .ne 5, 3) := by decide +kernel
theorem dX6_takeGate_20 : decode cX6_takeGate 20 = .ok (.iconst 0, 1) := by decide +kernel
theorem dX6_takeGate_21 : decode cX6_takeGate 21 = .ok (.ireturn, 1) := by decide +kernel
theorem dX6_takeGate_22 : decode cX6_takeGate 22 = .ok (.aload_n 0, 1) := by decide +kernel
theorem dX6_takeGate_23 : decode cX6_takeGate 23 = .ok (.getfield 82, 3) := by decide +kernel
theorem dX6_takeGate_26 : decode cX6_takeGate 26 = .ok (.istore_n 1, 1) := by decide +kernel
theorem dX6_takeGate_27 : decode cX6_takeGate 27 = .ok (.aload_n 0, 1) := by decide +kernel
theorem dX6_takeGate_28 : decode cX6_takeGate 28 = .ok (.iconst 1, 1) := by decide +kernel
theorem dX6_takeGate_29 : decode cX6_takeGate 29 = .ok (.bipush 8, 2) := by decide +kernel
theorem dX6_takeGate_31 : decode cX6_takeGate 31 = .ok (.invokevirtual 78, 3) := by decide +kernel
theorem dX6_takeGate_34 : decode cX6_takeGate 34 = .ok (.ifCond .ne 5, 3) := by decide +kernel
theorem dX6_takeGate_37 : decode cX6_takeGate 37 = .ok (.iconst 0, 1) := by decide +kernel
theorem dX6_takeGate_38 : decode cX6_takeGate 38 = .ok (.ireturn, 1) := by decide +kernel
theorem dX6_takeGate_39 : decode cX6_takeGate 39 = .ok (.aload_n 0, 1) := by decide +kernel
theorem dX6_takeGate_40 : decode cX6_takeGate 40 = .ok (.getfield 15, 3) := by decide +kernel
theorem dX6_takeGate_43 : decode cX6_takeGate 43 = .ok (.iload_n 1, 1) := by decide +kernel
theorem dX6_takeGate_44 : decode cX6_takeGate 44 = .ok (.aload_n 0, 1) := by decide +kernel
theorem dX6_takeGate_45 : decode cX6_takeGate 45 = .ok (.getfield 82, 3) := by decide +kernel
theorem dX6_takeGate_48 : decode cX6_takeGate 48 = .ok (.invokevirtual 100, 3) := by decide +kernel
theorem dX6_takeGate_51 : decode cX6_takeGate 51 = .ok (.pop, 1) := by decide +kernel
theorem dX6_takeGate_52 : decode cX6_takeGate 52 = .ok (.iconst 1, 1) := by decide +kernel
theorem dX6_takeGate_53 : decode cX6_takeGate 53 = .ok (.ireturn, 1) := by decide +kernel
theorem dX6_takeTie_0 : decode cX6_takeTie 0 = .ok (.aload_n 0, 1) := by decide +kernel
theorem dX6_takeTie_1 : decode cX6_takeTie 1 = .ok (.iconst 0, 1) := by decide +kernel
theorem dX6_takeTie_2 : decode cX6_takeTie 2 = .ok (.aload_n 0, 1) := by decide +kernel
theorem dX6_takeTie_3 : decode cX6_takeTie 3 = .ok (.getfield 15, 3) := by decide +kernel
theorem dX6_takeTie_6 : decode cX6_takeTie 6 = .ok (.getfield 73, 3) := by decide +kernel
theorem dX6_takeTie_9 : decode cX6_takeTie 9 = .ok (.iconst 1, 1) := by decide +kernel
theorem dX6_takeTie_10 : decode cX6_takeTie 10 = .ok (.isub, 1) := by decide +kernel
theorem dX6_takeTie_11 : decode cX6_takeTie 11 = .ok (.invokevirtual 78, 3) := by decide +kernel
theorem dX6_takeTie_14 : decode cX6_takeTie 14 = .ok (.ifCond .ne 5, 3) := by decide +kernel
theorem dX6_takeTie_17 : decode cX6_takeTie 17 = .ok (.iconst 0, 1) := by decide +kernel
theorem dX6_takeTie_18 : decode cX6_takeTie 18 = .ok (.ireturn, 1) := by decide +kernel
theorem dX6_takeTie_19 : decode cX6_takeTie 19 = .ok (.aload_n 0, 1) := by decide +kernel
theorem dX6_takeTie_20 : decode cX6_takeTie 20 = .ok (.getfield 82, 3) := by decide +kernel
theorem dX6_takeTie_23 : decode cX6_takeTie 23 = .ok (.istore_n 2, 1) := by decide +kernel
theorem dX6_takeTie_24 : decode cX6_takeTie 24 = .ok (.aload_n 0, 1) := by decide +kernel
theorem dX6_takeTie_25 : decode cX6_takeTie 25 = .ok (.iconst 0, 1) := by decide +kernel
theorem dX6_takeTie_26 : decode cX6_takeTie 26 = .ok (.aload_n 0, 1) := by decide +kernel
theorem dX6_takeTie_27 : decode cX6_takeTie 27 = .ok (.getfield 15, 3) := by decide +kernel
theorem dX6_takeTie_30 : decode cX6_takeTie 30 = .ok (.getfield 73, 3) := by decide +kernel
theorem dX6_takeTie_33 : decode cX6_takeTie 33 = .ok (.iconst 1, 1) := by decide +kernel
theorem dX6_takeTie_34 : decode cX6_takeTie 34 = .ok (.isub, 1) := by decide +kernel
theorem dX6_takeTie_35 : decode cX6_takeTie 35 = .ok (.invokevirtual 78, 3) := by decide +kernel
theorem dX6_takeTie_38 : decode cX6_takeTie 38 = .ok (.ifCond .eq 11, 3) := by decide +kernel
theorem dX6_takeTie_41 : decode cX6_takeTie 41 = .ok (.aload_n 0, 1) := by decide +kernel
theorem dX6_takeTie_42 : decode cX6_takeTie 42 = .ok (.getfield 82, 3) := by decide +kernel
theorem dX6_takeTie_45 : decode cX6_takeTie 45 = .ok (.iload_n 2, 1) := by decide +kernel
theorem dX6_takeTie_46 : decode cX6_takeTie 46 = .ok (.if_icmp .ne 5, 3) := by decide +kernel
theorem dX6_takeTie_49 : decode cX6_takeTie 49 = .ok (.iconst 0, 1) := by decide +kernel
theorem dX6_takeTie_50 : decode cX6_takeTie 50 = .ok (.ireturn, 1) := by decide +kernel
theorem dX6_takeTie_51 : decode cX6_takeTie 51 = .ok (.aload_n 1, 1) := by decide +kernel
theorem dX6_takeTie_52 : decode cX6_takeTie 52 = .ok (.iload_n 2, 1) := by decide +kernel
theorem dX6_takeTie_53 : decode cX6_takeTie 53 = .ok (.aload_n 0, 1) := by decide +kernel
theorem dX6_takeTie_54 : decode cX6_takeTie 54 = .ok (.getfield 82, 3) := by decide +kernel
theorem dX6_takeTie_57 : decode cX6_takeTie 57 = .ok (.invokestatic 103, 3) := by decide +kernel
theorem dX6_takeTie_60 : decode cX6_takeTie 60 = .ok (.pop, 1) := by decide +kernel
theorem dX6_takeTie_61 : decode cX6_takeTie 61 = .ok (.iconst 1, 1) := by decide +kernel
theorem dX6_takeTie_62 : decode cX6_takeTie 62 = .ok (.ireturn, 1) := by decide +kernel
theorem dX6_takeSemicolon_0 : decode cX6_takeSemicolon 0 = .ok (.aload_n 0, 1) := by decide +kernel
theorem dX6_takeSemicolon_1 : decode cX6_takeSemicolon 1 = .ok (.invokevirtual 28, 3) := by decide +kernel
theorem dX6_takeSemicolon_4 : decode cX6_takeSemicolon 4 = .ok (.aload_n 0, 1) := by decide +kernel
theorem dX6_takeSemicolon_5 : decode cX6_takeSemicolon 5 = .ok (.getfield 33, 3) := by decide +kernel
theorem dX6_takeSemicolon_8 : decode cX6_takeSemicolon 8 = .ok (.iconst 3, 1) := by decide +kernel
theorem dX6_takeSemicolon_9 : decode cX6_takeSemicolon 9 = .ok (.if_icmp .ne 7, 3) := by decide +kernel
theorem dX6_takeSemicolon_12 : decode cX6_takeSemicolon 12 = .ok (.iconst 1, 1) := by decide +kernel
theorem dX6_takeSemicolon_13 : decode cX6_takeSemicolon 13 = .ok (.goto 4, 3) := by decide +kernel
theorem dX6_takeSemicolon_16 : decode cX6_takeSemicolon 16 = .ok (.iconst 0, 1) := by decide +kernel
theorem dX6_takeSemicolon_17 : decode cX6_takeSemicolon 17 = .ok (.ireturn, 1) := by decide +kernel
theorem dX6_takeNumber_0 : decode cX6_takeNumber 0 = .ok (.aload_n 0, 1) := by decide +kernel
theorem dX6_takeNumber_1 : decode cX6_takeNumber 1 = .ok (.invokevirtual 28, 3) := by decide +kernel
theorem dX6_takeNumber_4 : decode cX6_takeNumber 4 = .ok (.aload_n 0, 1) := by decide +kernel
theorem dX6_takeNumber_5 : decode cX6_takeNumber 5 = .ok (.getfield 33, 3) := by decide +kernel
theorem dX6_takeNumber_8 : decode cX6_takeNumber 8 = .ok (.iconst 2, 1) := by decide +kernel
theorem dX6_takeNumber_9 : decode cX6_takeNumber 9 = .ok (.if_icmp .ne 16, 3) := by decide +kernel
theorem dX6_takeNumber_12 : decode cX6_takeNumber 12 = .ok (.aload_n 0, 1) := by decide +kernel
theorem dX6_takeNumber_13 : decode cX6_takeNumber 13 = .ok (.getfield 24, 3) := by decide +kernel
theorem dX6_takeNumber_16 : decode cX6_takeNumber 16 = .ok (.aload_n 0, 1) := by decide +kernel
theorem dX6_takeNumber_17 : decode cX6_takeNumber 17 = .ok (.getfield 43, 3) := by decide +kernel
theorem dX6_takeNumber_20 : decode cX6_takeNumber 20 = .ok (.isub, 1) := by decide +kernel
theorem dX6_takeNumber_21 : decode cX6_takeNumber 21 = .ok (.iconst 4, 1) := by decide +kernel
theorem dX6_takeNumber_22 : decode cX6_takeNumber 22 = .ok (.if_icmp .le 5, 3) := by decide +kernel
theorem dX6_takeNumber_25 : decode cX6_takeNumber 25 = .ok (.iconst 0, 1) := by decide +kernel
theorem dX6_takeNumber_26 : decode cX6_takeNumber 26 = .ok (.ireturn, 1) := by decide +kernel
theorem dX6_takeNumber_27 : decode cX6_takeNumber 27 = .ok (.aload_n 0, 1) := by decide +kernel
theorem dX6_takeNumber_28 : decode cX6_takeNumber 28 = .ok (.iconst 0, 1) := by decide +kernel
theorem dX6_takeNumber_29 : decode cX6_takeNumber 29 = .ok (.putfield 82, 3) := by decide +kernel
theorem dX6_takeNumber_32 : decode cX6_takeNumber 32 = .ok (.aload_n 0, 1) := by decide +kernel
theorem dX6_takeNumber_33 : decode cX6_takeNumber 33 = .ok (.getfield 43, 3) := by decide +kernel
theorem dX6_takeNumber_36 : decode cX6_takeNumber 36 = .ok (.istore_n 3, 1) := by decide +kernel
theorem dX6_takeNumber_37 : decode cX6_takeNumber 37 = .ok (.iload_n 3, 1) := by decide +kernel
theorem dX6_takeNumber_38 : decode cX6_takeNumber 38 = .ok (.aload_n 0, 1) := by decide +kernel
theorem dX6_takeNumber_39 : decode cX6_takeNumber 39 = .ok (.getfield 24, 3) := by decide +kernel
theorem dX6_takeNumber_42 : decode cX6_takeNumber 42 = .ok (.if_icmp .ge 32, 3) := by decide +kernel
theorem dX6_takeNumber_45 : decode cX6_takeNumber 45 = .ok (.aload_n 0, 1) := by decide +kernel
theorem dX6_takeNumber_46 : decode cX6_takeNumber 46 = .ok (.bipush 10, 2) := by decide +kernel
theorem dX6_takeNumber_48 : decode cX6_takeNumber 48 = .ok (.aload_n 0, 1) := by decide +kernel
theorem dX6_takeNumber_49 : decode cX6_takeNumber 49 = .ok (.getfield 82, 3) := by decide +kernel
theorem dX6_takeNumber_52 : decode cX6_takeNumber 52 = .ok (.imul, 1) := by decide +kernel
theorem dX6_takeNumber_53 : decode cX6_takeNumber 53 = .ok (.aload_n 0, 1) := by decide +kernel
theorem dX6_takeNumber_54 : decode cX6_takeNumber 54 = .ok (.getfield 9, 3) := by decide +kernel
theorem dX6_takeNumber_57 : decode cX6_takeNumber 57 = .ok (.iload_n 3, 1) := by decide +kernel
theorem dX6_takeNumber_58 : decode cX6_takeNumber 58 = .ok (.invokevirtual 107, 3) := by decide +kernel
theorem dX6_takeNumber_61 : decode cX6_takeNumber 61 = .ok (.iadd, 1) := by decide +kernel
theorem dX6_takeNumber_62 : decode cX6_takeNumber 62 = .ok (.bipush 48, 2) := by decide +kernel
theorem dX6_takeNumber_64 : decode cX6_takeNumber 64 = .ok (.isub, 1) := by decide +kernel
theorem dX6_takeNumber_65 : decode cX6_takeNumber 65 = .ok (.putfield 82, 3) := by decide +kernel
theorem dX6_takeNumber_68 : decode cX6_takeNumber 68 = .ok (.iinc 3 1, 3) := by decide +kernel
theorem dX6_takeNumber_71 : decode cX6_takeNumber 71 = .ok (.goto (-34), 3) := by decide +kernel
theorem dX6_takeNumber_74 : decode cX6_takeNumber 74 = .ok (.aload_n 0, 1) := by decide +kernel
theorem dX6_takeNumber_75 : decode cX6_takeNumber 75 = .ok (.getfield 82, 3) := by decide +kernel
theorem dX6_takeNumber_78 : decode cX6_takeNumber 78 = .ok (.iload_n 1, 1) := by decide +kernel
theorem dX6_takeNumber_79 : decode cX6_takeNumber 79 = .ok (.if_icmp .lt 15, 3) := by decide +kernel
theorem dX6_takeNumber_82 : decode cX6_takeNumber 82 = .ok (.aload_n 0, 1) := by decide +kernel
theorem dX6_takeNumber_83 : decode cX6_takeNumber 83 = .ok (.getfield 82, 3) := by decide +kernel
theorem dX6_takeNumber_86 : decode cX6_takeNumber 86 = .ok (.iload_n 2, 1) := by decide +kernel
theorem dX6_takeNumber_87 : decode cX6_takeNumber 87 = .ok (.if_icmp .gt 7, 3) := by decide +kernel
theorem dX6_takeNumber_90 : decode cX6_takeNumber 90 = .ok (.iconst 1, 1) := by decide +kernel
theorem dX6_takeNumber_91 : decode cX6_takeNumber 91 = .ok (.goto 4, 3) := by decide +kernel
theorem dX6_takeNumber_94 : decode cX6_takeNumber 94 = .ok (.iconst 0, 1) := by decide +kernel
theorem dX6_takeNumber_95 : decode cX6_takeNumber 95 = .ok (.ireturn, 1) := by decide +kernel
theorem dX6_isWord_0 : decode cX6_isWord 0 = .ok (.aload_n 0, 1) := by decide +kernel
theorem dX6_isWord_1 : decode cX6_isWord 1 = .ok (.getfield 33, 3) := by decide +kernel
theorem dX6_isWord_4 : decode cX6_isWord 4 = .ok (.iconst 1, 1) := by decide +kernel
theorem dX6_isWord_5 : decode cX6_isWord 5 = .ok (.if_icmp .ne 19, 3) := by decide +kernel
theorem dX6_isWord_8 : decode cX6_isWord 8 = .ok (.aload_n 0, 1) := by decide +kernel
theorem dX6_isWord_9 : decode cX6_isWord 9 = .ok (.getfield 24, 3) := by decide +kernel
theorem dX6_isWord_12 : decode cX6_isWord 12 = .ok (.aload_n 0, 1) := by decide +kernel
theorem dX6_isWord_13 : decode cX6_isWord 13 = .ok (.getfield 43, 3) := by decide +kernel
theorem dX6_isWord_16 : decode cX6_isWord 16 = .ok (.isub, 1) := by decide +kernel
theorem dX6_isWord_17 : decode cX6_isWord 17 = .ok (.aload_n 1, 1) := by decide +kernel
theorem dX6_isWord_18 : decode cX6_isWord 18 = .ok (.invokevirtual 110, 3) := by decide +kernel
theorem dX6_isWord_21 : decode cX6_isWord 21 = .ok (.if_icmp .eq 5, 3) := by decide +kernel
theorem dX6_isWord_24 : decode cX6_isWord 24 = .ok (.iconst 0, 1) := by decide +kernel
theorem dX6_isWord_25 : decode cX6_isWord 25 = .ok (.ireturn, 1) := by decide +kernel
theorem dX6_isWord_26 : decode cX6_isWord 26 = .ok (.iconst 0, 1) := by decide +kernel
theorem dX6_isWord_27 : decode cX6_isWord 27 = .ok (.istore_n 2, 1) := by decide +kernel
theorem dX6_isWord_28 : decode cX6_isWord 28 = .ok (.iload_n 2, 1) := by decide +kernel
theorem dX6_isWord_29 : decode cX6_isWord 29 = .ok (.aload_n 1, 1) := by decide +kernel
theorem dX6_isWord_30 : decode cX6_isWord 30 = .ok (.invokevirtual 110, 3) := by decide +kernel
theorem dX6_isWord_33 : decode cX6_isWord 33 = .ok (.if_icmp .ge 32, 3) := by decide +kernel
theorem dX6_isWord_36 : decode cX6_isWord 36 = .ok (.aload_n 0, 1) := by decide +kernel
theorem dX6_isWord_37 : decode cX6_isWord 37 = .ok (.getfield 9, 3) := by decide +kernel
theorem dX6_isWord_40 : decode cX6_isWord 40 = .ok (.aload_n 0, 1) := by decide +kernel
theorem dX6_isWord_41 : decode cX6_isWord 41 = .ok (.getfield 43, 3) := by decide +kernel
theorem dX6_isWord_44 : decode cX6_isWord 44 = .ok (.iload_n 2, 1) := by decide +kernel
theorem dX6_isWord_45 : decode cX6_isWord 45 = .ok (.iadd, 1) := by decide +kernel
theorem dX6_isWord_46 : decode cX6_isWord 46 = .ok (.invokevirtual 107, 3) := by decide +kernel
theorem dX6_isWord_49 : decode cX6_isWord 49 = .ok (.aload_n 1, 1) := by decide +kernel
theorem dX6_isWord_50 : decode cX6_isWord 50 = .ok (.iload_n 2, 1) := by decide +kernel
theorem dX6_isWord_51 : decode cX6_isWord 51 = .ok (.invokevirtual 116, 3) := by decide +kernel
theorem dX6_isWord_54 : decode cX6_isWord 54 = .ok (.if_icmp .eq 5, 3) := by decide +kernel
theorem dX6_isWord_57 : decode cX6_isWord 57 = .ok (.iconst 0, 1) := by decide +kernel
theorem dX6_isWord_58 : decode cX6_isWord 58 = .ok (.ireturn, 1) := by decide +kernel
theorem dX6_isWord_59 : decode cX6_isWord 59 = .ok (.iinc 2 1, 3) := by decide +kernel
theorem dX6_isWord_62 : decode cX6_isWord 62 = .ok (.goto (-34), 3) := by decide +kernel
theorem dX6_isWord_65 : decode cX6_isWord 65 = .ok (.iconst 1, 1) := by decide +kernel
theorem dX6_isWord_66 : decode cX6_isWord 66 = .ok (.ireturn, 1) := by decide +kernel
theorem dX6_takeToken_0 : decode cX6_takeToken 0 = .ok (.aload_n 0, 1) := by decide +kernel
theorem dX6_takeToken_1 : decode cX6_takeToken 1 = .ok (.getfield 24, 3) := by decide +kernel
theorem dX6_takeToken_4 : decode cX6_takeToken 4 = .ok (.aload_n 0, 1) := by decide +kernel
theorem dX6_takeToken_5 : decode cX6_takeToken 5 = .ok (.getfield 9, 3) := by decide +kernel
theorem dX6_takeToken_8 : decode cX6_takeToken 8 = .ok (.getfield 120, 3) := by decide +kernel
theorem dX6_takeToken_11 : decode cX6_takeToken 11 = .ok (.if_icmp .ge 32, 3) := by decide +kernel
theorem dX6_takeToken_14 : decode cX6_takeToken 14 = .ok (.aload_n 0, 1) := by decide +kernel
theorem dX6_takeToken_15 : decode cX6_takeToken 15 = .ok (.getfield 9, 3) := by decide +kernel
theorem dX6_takeToken_18 : decode cX6_takeToken 18 = .ok (.aload_n 0, 1) := by decide +kernel
theorem dX6_takeToken_19 : decode cX6_takeToken 19 = .ok (.getfield 24, 3) := by decide +kernel
theorem dX6_takeToken_22 : decode cX6_takeToken 22 = .ok (.invokevirtual 107, 3) := by decide +kernel
theorem dX6_takeToken_25 : decode cX6_takeToken 25 = .ok (.bipush 32, 2) := by decide +kernel
theorem dX6_takeToken_27 : decode cX6_takeToken 27 = .ok (.if_icmp .ne 16, 3) := by decide +kernel
theorem dX6_takeToken_30 : decode cX6_takeToken 30 = .ok (.aload_n 0, 1) := by decide +kernel
theorem dX6_takeToken_31 : decode cX6_takeToken 31 = .ok (.dup, 1) := by decide +kernel
theorem dX6_takeToken_32 : decode cX6_takeToken 32 = .ok (.getfield 24, 3) := by decide +kernel
theorem dX6_takeToken_35 : decode cX6_takeToken 35 = .ok (.iconst 1, 1) := by decide +kernel
theorem dX6_takeToken_36 : decode cX6_takeToken 36 = .ok (.iadd, 1) := by decide +kernel
theorem dX6_takeToken_37 : decode cX6_takeToken 37 = .ok (.putfield 24, 3) := by decide +kernel
theorem dX6_takeToken_40 : decode cX6_takeToken 40 = .ok (.goto (-40), 3) := by decide +kernel
theorem dX6_takeToken_43 : decode cX6_takeToken 43 = .ok (.aload_n 0, 1) := by decide +kernel
theorem dX6_takeToken_44 : decode cX6_takeToken 44 = .ok (.aload_n 0, 1) := by decide +kernel
theorem dX6_takeToken_45 : decode cX6_takeToken 45 = .ok (.getfield 24, 3) := by decide +kernel
theorem dX6_takeToken_48 : decode cX6_takeToken 48 = .ok (.putfield 43, 3) := by decide +kernel
theorem dX6_takeToken_51 : decode cX6_takeToken 51 = .ok (.aload_n 0, 1) := by decide +kernel
theorem dX6_takeToken_52 : decode cX6_takeToken 52 = .ok (.aload_n 0, 1) := by decide +kernel
theorem dX6_takeToken_53 : decode cX6_takeToken 53 = .ok (.getfield 9, 3) := by decide +kernel
theorem dX6_takeToken_56 : decode cX6_takeToken 56 = .ok (.aload_n 0, 1) := by decide +kernel
theorem dX6_takeToken_57 : decode cX6_takeToken 57 = .ok (.getfield 43, 3) := by decide +kernel
theorem dX6_takeToken_60 : decode cX6_takeToken 60 = .ok (.invokevirtual 107, 3) := by decide +kernel
theorem dX6_takeToken_63 : decode cX6_takeToken 63 = .ok (.invokestatic 122, 3) := by decide +kernel
theorem dX6_takeToken_66 : decode cX6_takeToken 66 = .ok (.putfield 33, 3) := by decide +kernel
theorem dX6_takeToken_69 : decode cX6_takeToken 69 = .ok (.aload_n 0, 1) := by decide +kernel
theorem dX6_takeToken_70 : decode cX6_takeToken 70 = .ok (.getfield 33, 3) := by decide +kernel
theorem dX6_takeToken_73 : decode cX6_takeToken 73 = .ok (.iconst 1, 1) := by decide +kernel
theorem dX6_takeToken_74 : decode cX6_takeToken 74 = .ok (.if_icmp .eq 11, 3) := by decide +kernel
theorem dX6_takeToken_77 : decode cX6_takeToken 77 = .ok (.aload_n 0, 1) := by decide +kernel
theorem dX6_takeToken_78 : decode cX6_takeToken 78 = .ok (.getfield 33, 3) := by decide +kernel
theorem dX6_takeToken_81 : decode cX6_takeToken 81 = .ok (.iconst 2, 1) := by decide +kernel
theorem dX6_takeToken_82 : decode cX6_takeToken 82 = .ok (.if_icmp .ne 51, 3) := by decide +kernel
theorem dX6_takeToken_85 : decode cX6_takeToken 85 = .ok (.aload_n 0, 1) := by decide +kernel
theorem dX6_takeToken_86 : decode cX6_takeToken 86 = .ok (.getfield 24, 3) := by decide +kernel
theorem dX6_takeToken_89 : decode cX6_takeToken 89 = .ok (.aload_n 0, 1) := by decide +kernel
theorem dX6_takeToken_90 : decode cX6_takeToken 90 = .ok (.getfield 9, 3) := by decide +kernel
theorem dX6_takeToken_93 : decode cX6_takeToken 93 = .ok (.getfield 120, 3) := by decide +kernel
theorem dX6_takeToken_96 : decode cX6_takeToken 96 = .ok (.if_icmp .ge 54, 3) := by decide +kernel
theorem dX6_takeToken_99 : decode cX6_takeToken 99 = .ok (.aload_n 0, 1) := by decide +kernel
theorem dX6_takeToken_100 : decode cX6_takeToken 100 = .ok (.getfield 9, 3) := by decide +kernel
theorem dX6_takeToken_103 : decode cX6_takeToken 103 = .ok (.aload_n 0, 1) := by decide +kernel
theorem dX6_takeToken_104 : decode cX6_takeToken 104 = .ok (.getfield 24, 3) := by decide +kernel
theorem dX6_takeToken_107 : decode cX6_takeToken 107 = .ok (.invokevirtual 107, 3) := by decide +kernel
theorem dX6_takeToken_110 : decode cX6_takeToken 110 = .ok (.invokestatic 122, 3) := by decide +kernel
theorem dX6_takeToken_113 : decode cX6_takeToken 113 = .ok (.aload_n 0, 1) := by decide +kernel
theorem dX6_takeToken_114 : decode cX6_takeToken 114 = .ok (.getfield 33, 3) := by decide +kernel
theorem dX6_takeToken_117 : decode cX6_takeToken 117 = .ok (.if_icmp .ne 33, 3) := by decide +kernel
theorem dX6_takeToken_120 : decode cX6_takeToken 120 = .ok (.aload_n 0, 1) := by decide +kernel
theorem dX6_takeToken_121 : decode cX6_takeToken 121 = .ok (.dup, 1) := by decide +kernel
theorem dX6_takeToken_122 : decode cX6_takeToken 122 = .ok (.getfield 24, 3) := by decide +kernel
theorem dX6_takeToken_125 : decode cX6_takeToken 125 = .ok (.iconst 1, 1) := by decide +kernel
theorem dX6_takeToken_126 : decode cX6_takeToken 126 = .ok (.iadd, 1) := by decide +kernel
theorem dX6_takeToken_127 : decode cX6_takeToken 127 = .ok (.putfield 24, 3) := by decide +kernel
theorem dX6_takeToken_130 : decode cX6_takeToken 130 = .ok (.goto (-45), 3) := by decide +kernel
theorem dX6_takeToken_133 : decode cX6_takeToken 133 = .ok (.aload_n 0, 1) := by decide +kernel
theorem dX6_takeToken_134 : decode cX6_takeToken 134 = .ok (.getfield 33, 3) := by decide +kernel
theorem dX6_takeToken_137 : decode cX6_takeToken 137 = .ok (.ifCond .eq 13, 3) := by decide +kernel
theorem dX6_takeToken_140 : decode cX6_takeToken 140 = .ok (.aload_n 0, 1) := by decide +kernel
theorem dX6_takeToken_141 : decode cX6_takeToken 141 = .ok (.dup, 1) := by decide +kernel
theorem dX6_takeToken_142 : decode cX6_takeToken 142 = .ok (.getfield 24, 3) := by decide +kernel
theorem dX6_takeToken_145 : decode cX6_takeToken 145 = .ok (.iconst 1, 1) := by decide +kernel
theorem dX6_takeToken_146 : decode cX6_takeToken 146 = .ok (.iadd, 1) := by decide +kernel
theorem dX6_takeToken_147 : decode cX6_takeToken 147 = .ok (.putfield 24, 3) := by decide +kernel
theorem dX6_takeToken_150 : decode cX6_takeToken 150 = .ok (.return_, 1) := by decide +kernel
theorem dX6_kindOf_0 : decode cX6_kindOf 0 = .ok (.iload_n 0, 1) := by decide +kernel
theorem dX6_kindOf_1 : decode cX6_kindOf 1 = .ok (.iconst (-1), 1) := by decide +kernel
theorem dX6_kindOf_2 : decode cX6_kindOf 2 = .ok (.if_icmp .ne 5, 3) := by decide +kernel
theorem dX6_kindOf_5 : decode cX6_kindOf 5 = .ok (.iconst 0, 1) := by decide +kernel
theorem dX6_kindOf_6 : decode cX6_kindOf 6 = .ok (.ireturn, 1) := by decide +kernel
theorem dX6_kindOf_7 : decode cX6_kindOf 7 = .ok (.iload_n 0, 1) := by decide +kernel
theorem dX6_kindOf_8 : decode cX6_kindOf 8 = .ok (.bipush 97, 2) := by decide +kernel
theorem dX6_kindOf_10 : decode cX6_kindOf 10 = .ok (.if_icmp .lt 11, 3) := by decide +kernel
theorem dX6_kindOf_13 : decode cX6_kindOf 13 = .ok (.iload_n 0, 1) := by decide +kernel
theorem dX6_kindOf_14 : decode cX6_kindOf 14 = .ok (.bipush 122, 2) := by decide +kernel
theorem dX6_kindOf_16 : decode cX6_kindOf 16 = .ok (.if_icmp .gt 5, 3) := by decide +kernel
theorem dX6_kindOf_19 : decode cX6_kindOf 19 = .ok (.iconst 1, 1) := by decide +kernel
theorem dX6_kindOf_20 : decode cX6_kindOf 20 = .ok (.ireturn, 1) := by decide +kernel
theorem dX6_kindOf_21 : decode cX6_kindOf 21 = .ok (.iload_n 0, 1) := by decide +kernel
theorem dX6_kindOf_22 : decode cX6_kindOf 22 = .ok (.bipush 48, 2) := by decide +kernel
theorem dX6_kindOf_24 : decode cX6_kindOf 24 = .ok (.if_icmp .lt 11, 3) := by decide +kernel
theorem dX6_kindOf_27 : decode cX6_kindOf 27 = .ok (.iload_n 0, 1) := by decide +kernel
theorem dX6_kindOf_28 : decode cX6_kindOf 28 = .ok (.bipush 57, 2) := by decide +kernel
theorem dX6_kindOf_30 : decode cX6_kindOf 30 = .ok (.if_icmp .gt 5, 3) := by decide +kernel
theorem dX6_kindOf_33 : decode cX6_kindOf 33 = .ok (.iconst 2, 1) := by decide +kernel
theorem dX6_kindOf_34 : decode cX6_kindOf 34 = .ok (.ireturn, 1) := by decide +kernel
theorem dX6_kindOf_35 : decode cX6_kindOf 35 = .ok (.iload_n 0, 1) := by decide +kernel
theorem dX6_kindOf_36 : decode cX6_kindOf 36 = .ok (.bipush 59, 2) := by decide +kernel
theorem dX6_kindOf_38 : decode cX6_kindOf 38 = .ok (.if_icmp .ne 7, 3) := by decide +kernel
theorem dX6_kindOf_41 : decode cX6_kindOf 41 = .ok (.iconst 3, 1) := by decide +kernel
theorem dX6_kindOf_42 : decode cX6_kindOf 42 = .ok (.goto 4, 3) := by decide +kernel
theorem dX6_kindOf_45 : decode cX6_kindOf 45 = .ok (.iconst 4, 1) := by decide +kernel
theorem dX6_kindOf_46 : decode cX6_kindOf 46 = .ok (.ireturn, 1) := by decide +kernel
theorem dX7_init_0 : decode cX7_init 0 = .ok (.aload_n 0, 1) := by decide +kernel
theorem dX7_init_1 : decode cX7_init 1 = .ok (.invokespecial 3, 3) := by decide +kernel
theorem dX7_init_4 : decode cX7_init 4 = .ok (.aload_n 0, 1) := by decide +kernel
theorem dX7_init_5 : decode cX7_init 5 = .ok (.bipush 8, 2) := by decide +kernel
theorem dX7_init_7 : decode cX7_init 7 = .ok (.newarray .int, 2) := by decide +kernel
theorem dX7_init_9 : decode cX7_init 9 = .ok (.putfield 11, 3) := by decide +kernel
theorem dX7_init_12 : decode cX7_init 12 = .ok (.aload_n 0, 1) := by decide +kernel
theorem dX7_init_13 : decode cX7_init 13 = .ok (.bipush 8, 2) := by decide +kernel
theorem dX7_init_15 : decode cX7_init 15 = .ok (.newarray .int, 2) := by decide +kernel
theorem dX7_init_17 : decode cX7_init 17 = .ok (.putfield 15, 3) := by decide +kernel
theorem dX7_init_20 : decode cX7_init 20 = .ok (.aload_n 0, 1) := by decide +kernel
theorem dX7_init_21 : decode cX7_init 21 = .ok (.bipush 8, 2) := by decide +kernel
theorem dX7_init_23 : decode cX7_init 23 = .ok (.newarray .int, 2) := by decide +kernel
theorem dX7_init_25 : decode cX7_init 25 = .ok (.putfield 18, 3) := by decide +kernel
theorem dX7_init_28 : decode cX7_init 28 = .ok (.aload_n 0, 1) := by decide +kernel
theorem dX7_init_29 : decode cX7_init 29 = .ok (.bipush 8, 2) := by decide +kernel
theorem dX7_init_31 : decode cX7_init 31 = .ok (.newarray .int, 2) := by decide +kernel
theorem dX7_init_33 : decode cX7_init 33 = .ok (.putfield 21, 3) := by decide +kernel
theorem dX7_init_36 : decode cX7_init 36 = .ok (.aload_n 0, 1) := by decide +kernel
theorem dX7_init_37 : decode cX7_init 37 = .ok (.bipush 8, 2) := by decide +kernel
theorem dX7_init_39 : decode cX7_init 39 = .ok (.newarray .int, 2) := by decide +kernel
theorem dX7_init_41 : decode cX7_init 41 = .ok (.putfield 24, 3) := by decide +kernel
theorem dX7_init_44 : decode cX7_init 44 = .ok (.aload_n 0, 1) := by decide +kernel
theorem dX7_init_45 : decode cX7_init 45 = .ok (.iconst 4, 1) := by decide +kernel
theorem dX7_init_46 : decode cX7_init 46 = .ok (.newarray .int, 2) := by decide +kernel
theorem dX7_init_48 : decode cX7_init 48 = .ok (.putfield 27, 3) := by decide +kernel
theorem dX7_init_51 : decode cX7_init 51 = .ok (.aload_n 0, 1) := by decide +kernel
theorem dX7_init_52 : decode cX7_init 52 = .ok (.iconst 4, 1) := by decide +kernel
theorem dX7_init_53 : decode cX7_init 53 = .ok (.newarray .int, 2) := by decide +kernel
theorem dX7_init_55 : decode cX7_init 55 = .ok (.putfield 30, 3) := by decide +kernel
theorem dX7_init_58 : decode cX7_init 58 = .ok (.return_, 1) := by decide +kernel
theorem dX7_isLaw_0 : decode cX7_isLaw 0 = .ok (.iload_n 0, 1) := by decide +kernel
theorem dX7_isLaw_1 : decode cX7_isLaw 1 = .ok (.ifCond .lt 12, 3) := by decide +kernel
theorem dX7_isLaw_4 : decode cX7_isLaw 4 = .ok (.iload_n 0, 1) := by decide +kernel
theorem dX7_isLaw_5 : decode cX7_isLaw 5 = .ok (.iconst 4, 1) := by decide +kernel
theorem dX7_isLaw_6 : decode cX7_isLaw 6 = .ok (.if_icmp .gt 7, 3) := by decide +kernel
theorem dX7_isLaw_9 : decode cX7_isLaw 9 = .ok (.iconst 1, 1) := by decide +kernel
theorem dX7_isLaw_10 : decode cX7_isLaw 10 = .ok (.goto 4, 3) := by decide +kernel
theorem dX7_isLaw_13 : decode cX7_isLaw 13 = .ok (.iconst 0, 1) := by decide +kernel
theorem dX7_isLaw_14 : decode cX7_isLaw 14 = .ok (.ireturn, 1) := by decide +kernel
theorem dX7_isSeats_0 : decode cX7_isSeats 0 = .ok (.iload_n 0, 1) := by decide +kernel
theorem dX7_isSeats_1 : decode cX7_isSeats 1 = .ok (.iconst 1, 1) := by decide +kernel
theorem dX7_isSeats_2 : decode cX7_isSeats 2 = .ok (.if_icmp .lt 13, 3) := by decide +kernel
theorem dX7_isSeats_5 : decode cX7_isSeats 5 = .ok (.iload_n 0, 1) := by decide +kernel
theorem dX7_isSeats_6 : decode cX7_isSeats 6 = .ok (.bipush 8, 2) := by decide +kernel
theorem dX7_isSeats_8 : decode cX7_isSeats 8 = .ok (.if_icmp .gt 7, 3) := by decide +kernel
theorem dX7_isSeats_11 : decode cX7_isSeats 11 = .ok (.iconst 1, 1) := by decide +kernel
theorem dX7_isSeats_12 : decode cX7_isSeats 12 = .ok (.goto 4, 3) := by decide +kernel
theorem dX7_isSeats_15 : decode cX7_isSeats 15 = .ok (.iconst 0, 1) := by decide +kernel
theorem dX7_isSeats_16 : decode cX7_isSeats 16 = .ok (.ireturn, 1) := by decide +kernel
theorem dX7_hasPerson_0 : decode cX7_hasPerson 0 = .ok (.iload_n 1, 1) := by decide +kernel
theorem dX7_hasPerson_1 : decode cX7_hasPerson 1 = .ok (.ifCond .lt 15, 3) := by decide +kernel
theorem dX7_hasPerson_4 : decode cX7_hasPerson 4 = .ok (.iload_n 1, 1) := by decide +kernel
theorem dX7_hasPerson_5 : decode cX7_hasPerson 5 = .ok (.aload_n 0, 1) := by decide +kernel
theorem dX7_hasPerson_6 : decode cX7_hasPerson 6 = .ok (.getfield 33, 3) := by decide +kernel
theorem dX7_hasPerson_9 : decode cX7_hasPerson 9 = .ok (.if_icmp .ge 7, 3) := by decide +kernel
theorem dX7_hasPerson_12 : decode cX7_hasPerson 12 = .ok (.iconst 1, 1) := by decide +kernel
theorem dX7_hasPerson_13 : decode cX7_hasPerson 13 = .ok (.goto 4, 3) := by decide +kernel
theorem dX7_hasPerson_16 : decode cX7_hasPerson 16 = .ok (.iconst 0, 1) := by decide +kernel
theorem dX7_hasPerson_17 : decode cX7_hasPerson 17 = .ok (.ireturn, 1) := by decide +kernel
theorem dX7_hasGate_0 : decode cX7_hasGate 0 = .ok (.iload_n 1, 1) := by decide +kernel
theorem dX7_hasGate_1 : decode cX7_hasGate 1 = .ok (.ifCond .lt 15, 3) := by decide +kernel
theorem dX7_hasGate_4 : decode cX7_hasGate 4 = .ok (.iload_n 1, 1) := by decide +kernel
theorem dX7_hasGate_5 : decode cX7_hasGate 5 = .ok (.aload_n 0, 1) := by decide +kernel
theorem dX7_hasGate_6 : decode cX7_hasGate 6 = .ok (.getfield 37, 3) := by decide +kernel
theorem dX7_hasGate_9 : decode cX7_hasGate 9 = .ok (.if_icmp .ge 7, 3) := by decide +kernel
theorem dX7_hasGate_12 : decode cX7_hasGate 12 = .ok (.iconst 1, 1) := by decide +kernel
theorem dX7_hasGate_13 : decode cX7_hasGate 13 = .ok (.goto 4, 3) := by decide +kernel
theorem dX7_hasGate_16 : decode cX7_hasGate 16 = .ok (.iconst 0, 1) := by decide +kernel
theorem dX7_hasGate_17 : decode cX7_hasGate 17 = .ok (.ireturn, 1) := by decide +kernel
theorem dX7_everyone_0 : decode cX7_everyone 0 = .ok (.iconst 1, 1) := by decide +kernel
theorem dX7_everyone_1 : decode cX7_everyone 1 = .ok (.aload_n 0, 1) := by decide +kernel
theorem dX7_everyone_2 : decode cX7_everyone 2 = .ok (.getfield 33, 3) := by decide +kernel
theorem dX7_everyone_5 : decode cX7_everyone 5 = .ok (.ishl, 1) := by decide +kernel
theorem dX7_everyone_6 : decode cX7_everyone 6 = .ok (.iconst 1, 1) := by decide +kernel
theorem dX7_everyone_7 : decode cX7_everyone 7 = .ok (.isub, 1) := by decide +kernel
theorem dX7_everyone_8 : decode cX7_everyone 8 = .ok (.ireturn, 1) := by decide +kernel
theorem dX7_hasSet_0 : decode cX7_hasSet 0 = .ok (.iload_n 1, 1) := by decide +kernel
theorem dX7_hasSet_1 : decode cX7_hasSet 1 = .ok (.ifCond .lt 15, 3) := by decide +kernel
theorem dX7_hasSet_4 : decode cX7_hasSet 4 = .ok (.iload_n 1, 1) := by decide +kernel
theorem dX7_hasSet_5 : decode cX7_hasSet 5 = .ok (.aload_n 0, 1) := by decide +kernel
theorem dX7_hasSet_6 : decode cX7_hasSet 6 = .ok (.invokevirtual 40, 3) := by decide +kernel
theorem dX7_hasSet_9 : decode cX7_hasSet 9 = .ok (.if_icmp .gt 7, 3) := by decide +kernel
theorem dX7_hasSet_12 : decode cX7_hasSet 12 = .ok (.iconst 1, 1) := by decide +kernel
theorem dX7_hasSet_13 : decode cX7_hasSet 13 = .ok (.goto 4, 3) := by decide +kernel
theorem dX7_hasSet_16 : decode cX7_hasSet 16 = .ok (.iconst 0, 1) := by decide +kernel
theorem dX7_hasSet_17 : decode cX7_hasSet 17 = .ok (.ireturn, 1) := by decide +kernel
theorem dX7_hasCompany_0 : decode cX7_hasCompany 0 = .ok (.iload_n 1, 1) := by decide +kernel
theorem dX7_hasCompany_1 : decode cX7_hasCompany 1 = .ok (.ifCond .eq 15, 3) := by decide +kernel
theorem dX7_hasCompany_4 : decode cX7_hasCompany 4 = .ok (.aload_n 0, 1) := by decide +kernel
theorem dX7_hasCompany_5 : decode cX7_hasCompany 5 = .ok (.iload_n 1, 1) := by decide +kernel
theorem dX7_hasCompany_6 : decode cX7_hasCompany 6 = .ok (.invokevirtual 44, 3) := by decide +kernel
theorem dX7_hasCompany_9 : decode cX7_hasCompany 9 = .ok (.ifCond .eq 7, 3) := by decide +kernel
theorem dX7_hasCompany_12 : decode cX7_hasCompany 12 = .ok (.iconst 1, 1) := by decide +kernel
theorem dX7_hasCompany_13 : decode cX7_hasCompany 13 = .ok (.goto 4, 3) := by decide +kernel
theorem dX7_hasCompany_16 : decode cX7_hasCompany 16 = .ok (.iconst 0, 1) := by decide +kernel
theorem dX7_hasCompany_17 : decode cX7_hasCompany 17 = .ok (.ireturn, 1) := by decide +kernel
theorem dX7_empty_0 : decode cX7_empty 0 = .ok (.aload_n 0, 1) := by decide +kernel
theorem dX7_empty_1 : decode cX7_empty 1 = .ok (.iconst 0, 1) := by decide +kernel
theorem dX7_empty_2 : decode cX7_empty 2 = .ok (.putfield 33, 3) := by decide +kernel
theorem dX7_empty_5 : decode cX7_empty 5 = .ok (.aload_n 0, 1) := by decide +kernel
theorem dX7_empty_6 : decode cX7_empty 6 = .ok (.iconst 0, 1) := by decide +kernel
theorem dX7_empty_7 : decode cX7_empty 7 = .ok (.putfield 37, 3) := by decide +kernel
theorem dX7_empty_10 : decode cX7_empty 10 = .ok (.return_, 1) := by decide +kernel
theorem dX7_addPerson_0 : decode cX7_addPerson 0 = .ok (.aload_n 0, 1) := by decide +kernel
theorem dX7_addPerson_1 : decode cX7_addPerson 1 = .ok (.getfield 33, 3) := by decide +kernel
theorem dX7_addPerson_4 : decode cX7_addPerson 4 = .ok (.bipush 8, 2) := by decide +kernel
theorem dX7_addPerson_6 : decode cX7_addPerson 6 = .ok (.if_icmp .lt 6, 3) := by decide +kernel
theorem dX7_addPerson_9 : decode cX7_addPerson 9 = .ok (.bipush (-4), 2) := by decide +kernel
theorem dX7_addPerson_11 : decode cX7_addPerson 11 = .ok (.ireturn, 1) := by decide +kernel
theorem dX7_addPerson_12 : decode cX7_addPerson 12 = .ok (.aload_n 0, 1) := by decide +kernel
theorem dX7_addPerson_13 : decode cX7_addPerson 13 = .ok (.getfield 11, 3) := by decide +kernel
theorem dX7_addPerson_16 : decode cX7_addPerson 16 = .ok (.aload_n 0, 1) := by decide +kernel
theorem dX7_addPerson_17 : decode cX7_addPerson 17 = .ok (.getfield 33, 3) := by decide +kernel
theorem dX7_addPerson_20 : decode cX7_addPerson 20 = .ok (.iload_n 1, 1) := by decide +kernel
theorem dX7_addPerson_21 : decode cX7_addPerson 21 = .ok (.iastore, 1) := by decide +kernel
theorem dX7_addPerson_22 : decode cX7_addPerson 22 = .ok (.aload_n 0, 1) := by decide +kernel
theorem dX7_addPerson_23 : decode cX7_addPerson 23 = .ok (.getfield 15, 3) := by decide +kernel
theorem dX7_addPerson_26 : decode cX7_addPerson 26 = .ok (.aload_n 0, 1) := by decide +kernel
theorem dX7_addPerson_27 : decode cX7_addPerson 27 = .ok (.getfield 33, 3) := by decide +kernel
theorem dX7_addPerson_30 : decode cX7_addPerson 30 = .ok (.iload_n 1, 1) := by decide +kernel
theorem dX7_addPerson_31 : decode cX7_addPerson 31 = .ok (.invokestatic 48, 3) := by decide +kernel
theorem dX7_addPerson_34 : decode cX7_addPerson 34 = .ok (.iastore, 1) := by decide +kernel
theorem dX7_addPerson_35 : decode cX7_addPerson 35 = .ok (.aload_n 0, 1) := by decide +kernel
theorem dX7_addPerson_36 : decode cX7_addPerson 36 = .ok (.getfield 18, 3) := by decide +kernel
theorem dX7_addPerson_39 : decode cX7_addPerson 39 = .ok (.aload_n 0, 1) := by decide +kernel
theorem dX7_addPerson_40 : decode cX7_addPerson 40 = .ok (.getfield 33, 3) := by decide +kernel
theorem dX7_addPerson_43 : decode cX7_addPerson 43 = .ok (.iload_n 1, 1) := by decide +kernel
theorem dX7_addPerson_44 : decode cX7_addPerson 44 = .ok (.aload_n 0, 1) := by decide +kernel
theorem dX7_addPerson_45 : decode cX7_addPerson 45 = .ok (.getfield 15, 3) := by decide +kernel
theorem dX7_addPerson_48 : decode cX7_addPerson 48 = .ok (.aload_n 0, 1) := by decide +kernel
theorem dX7_addPerson_49 : decode cX7_addPerson 49 = .ok (.getfield 33, 3) := by decide +kernel
theorem dX7_addPerson_52 : decode cX7_addPerson 52 = .ok (.iaload, 1) := by decide +kernel
theorem dX7_addPerson_53 : decode cX7_addPerson 53 = .ok (.invokestatic 54, 3) := by decide +kernel
theorem dX7_addPerson_56 : decode cX7_addPerson 56 = .ok (.iastore, 1) := by decide +kernel
theorem dX7_addPerson_57 : decode cX7_addPerson 57 = .ok (.aload_n 0, 1) := by decide +kernel
theorem dX7_addPerson_58 : decode cX7_addPerson 58 = .ok (.getfield 21, 3) := by decide +kernel
theorem dX7_addPerson_61 : decode cX7_addPerson 61 = .ok (.aload_n 0, 1) := by decide +kernel
theorem dX7_addPerson_62 : decode cX7_addPerson 62 = .ok (.getfield 33, 3) := by decide +kernel
theorem dX7_addPerson_65 : decode cX7_addPerson 65 = .ok (.iconst 0, 1) := by decide +kernel
theorem dX7_addPerson_66 : decode cX7_addPerson 66 = .ok (.iastore, 1) := by decide +kernel
theorem dX7_addPerson_67 : decode cX7_addPerson 67 = .ok (.aload_n 0, 1) := by decide +kernel
theorem dX7_addPerson_68 : decode cX7_addPerson 68 = .ok (.getfield 24, 3) := by decide +kernel
theorem dX7_addPerson_71 : decode cX7_addPerson 71 = .ok (.aload_n 0, 1) := by decide +kernel
theorem dX7_addPerson_72 : decode cX7_addPerson 72 = .ok (.getfield 33, 3) := by decide +kernel
theorem dX7_addPerson_75 : decode cX7_addPerson 75 = .ok (.iconst 0, 1) := by decide +kernel
theorem dX7_addPerson_76 : decode cX7_addPerson 76 = .ok (.iastore, 1) := by decide +kernel
theorem dX7_addPerson_77 : decode cX7_addPerson 77 = .ok (.aload_n 0, 1) := by decide +kernel
theorem dX7_addPerson_78 : decode cX7_addPerson 78 = .ok (.dup, 1) := by decide +kernel
theorem dX7_addPerson_79 : decode cX7_addPerson 79 = .ok (.getfield 33, 3) := by decide +kernel
theorem dX7_addPerson_82 : decode cX7_addPerson 82 = .ok (.dup_x1, 1) := by decide +kernel
theorem dX7_addPerson_83 : decode cX7_addPerson 83 = .ok (.iconst 1, 1) := by decide +kernel
theorem dX7_addPerson_84 : decode cX7_addPerson 84 = .ok (.iadd, 1) := by decide +kernel
theorem dX7_addPerson_85 : decode cX7_addPerson 85 = .ok (.putfield 33, 3) := by decide +kernel
theorem dX7_addPerson_88 : decode cX7_addPerson 88 = .ok (.ireturn, 1) := by decide +kernel
theorem dX7_addGate_0 : decode cX7_addGate 0 = .ok (.aload_n 0, 1) := by decide +kernel
theorem dX7_addGate_1 : decode cX7_addGate 1 = .ok (.getfield 37, 3) := by decide +kernel
theorem dX7_addGate_4 : decode cX7_addGate 4 = .ok (.iconst 4, 1) := by decide +kernel
theorem dX7_addGate_5 : decode cX7_addGate 5 = .ok (.if_icmp .lt 6, 3) := by decide +kernel
theorem dX7_addGate_8 : decode cX7_addGate 8 = .ok (.bipush (-4), 2) := by decide +kernel
theorem dX7_addGate_10 : decode cX7_addGate 10 = .ok (.ireturn, 1) := by decide +kernel
theorem dX7_addGate_11 : decode cX7_addGate 11 = .ok (.aload_n 0, 1) := by decide +kernel
theorem dX7_addGate_12 : decode cX7_addGate 12 = .ok (.getfield 27, 3) := by decide +kernel
theorem dX7_addGate_15 : decode cX7_addGate 15 = .ok (.aload_n 0, 1) := by decide +kernel
theorem dX7_addGate_16 : decode cX7_addGate 16 = .ok (.getfield 37, 3) := by decide +kernel
theorem dX7_addGate_19 : decode cX7_addGate 19 = .ok (.iload_n 1, 1) := by decide +kernel
theorem dX7_addGate_20 : decode cX7_addGate 20 = .ok (.iastore, 1) := by decide +kernel
theorem dX7_addGate_21 : decode cX7_addGate 21 = .ok (.aload_n 0, 1) := by decide +kernel
theorem dX7_addGate_22 : decode cX7_addGate 22 = .ok (.getfield 30, 3) := by decide +kernel
theorem dX7_addGate_25 : decode cX7_addGate 25 = .ok (.aload_n 0, 1) := by decide +kernel
theorem dX7_addGate_26 : decode cX7_addGate 26 = .ok (.getfield 37, 3) := by decide +kernel
theorem dX7_addGate_29 : decode cX7_addGate 29 = .ok (.iload_n 2, 1) := by decide +kernel
theorem dX7_addGate_30 : decode cX7_addGate 30 = .ok (.iastore, 1) := by decide +kernel
theorem dX7_addGate_31 : decode cX7_addGate 31 = .ok (.aload_n 0, 1) := by decide +kernel
theorem dX7_addGate_32 : decode cX7_addGate 32 = .ok (.dup, 1) := by decide +kernel
theorem dX7_addGate_33 : decode cX7_addGate 33 = .ok (.getfield 37, 3) := by decide +kernel
theorem dX7_addGate_36 : decode cX7_addGate 36 = .ok (.dup_x1, 1) := by decide +kernel
theorem dX7_addGate_37 : decode cX7_addGate 37 = .ok (.iconst 1, 1) := by decide +kernel
theorem dX7_addGate_38 : decode cX7_addGate 38 = .ok (.iadd, 1) := by decide +kernel
theorem dX7_addGate_39 : decode cX7_addGate 39 = .ok (.putfield 37, 3) := by decide +kernel
theorem dX7_addGate_42 : decode cX7_addGate 42 = .ok (.ireturn, 1) := by decide +kernel
theorem dX7_tie_0 : decode cX7_tie 0 = .ok (.aload_n 0, 1) := by decide +kernel
theorem dX7_tie_1 : decode cX7_tie 1 = .ok (.iload_n 1, 1) := by decide +kernel
theorem dX7_tie_2 : decode cX7_tie 2 = .ok (.iaload, 1) := by decide +kernel
theorem dX7_tie_3 : decode cX7_tie 3 = .ok (.iload_n 2, 1) := by decide +kernel
theorem dX7_tie_4 : decode cX7_tie 4 = .ok (.ishr, 1) := by decide +kernel
theorem dX7_tie_5 : decode cX7_tie 5 = .ok (.iconst 1, 1) := by decide +kernel
theorem dX7_tie_6 : decode cX7_tie 6 = .ok (.iand, 1) := by decide +kernel
theorem dX7_tie_7 : decode cX7_tie 7 = .ok (.ifCond .eq 5, 3) := by decide +kernel
