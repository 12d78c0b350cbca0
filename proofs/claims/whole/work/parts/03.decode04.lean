theorem dX10_lent_68 : decode cX10_lent 68 = .ok (.iand, 1) := by decide +kernel
theorem dX10_lent_69 : decode cX10_lent 69 = .ok (.istore 7, 2) := by decide +kernel
theorem dX10_lent_71 : decode cX10_lent 71 = .ok (.iload 7, 2) := by decide +kernel
theorem dX10_lent_73 : decode cX10_lent 73 = .ok (.invokestatic 199, 3) := by decide +kernel
theorem dX10_lent_76 : decode cX10_lent 76 = .ok (.iload 5, 2) := by decide +kernel
theorem dX10_lent_78 : decode cX10_lent 78 = .ok (.if_icmp .ge 7, 3) := by decide +kernel
theorem dX10_lent_81 : decode cX10_lent 81 = .ok (.iconst 1, 1) := by decide +kernel
theorem dX10_lent_82 : decode cX10_lent 82 = .ok (.goto 4, 3) := by decide +kernel
theorem dX10_lent_85 : decode cX10_lent 85 = .ok (.iconst 0, 1) := by decide +kernel
theorem dX10_lent_86 : decode cX10_lent 86 = .ok (.istore 8, 2) := by decide +kernel
theorem dX10_lent_88 : decode cX10_lent 88 = .ok (.iload 6, 2) := by decide +kernel
theorem dX10_lent_90 : decode cX10_lent 90 = .ok (.iload_n 1, 1) := by decide +kernel
theorem dX10_lent_91 : decode cX10_lent 91 = .ok (.iand, 1) := by decide +kernel
theorem dX10_lent_92 : decode cX10_lent 92 = .ok (.iload_n 1, 1) := by decide +kernel
theorem dX10_lent_93 : decode cX10_lent 93 = .ok (.if_icmp .ne 32, 3) := by decide +kernel
theorem dX10_lent_96 : decode cX10_lent 96 = .ok (.iload 8, 2) := by decide +kernel
theorem dX10_lent_98 : decode cX10_lent 98 = .ok (.ifCond .eq 27, 3) := by decide +kernel
theorem dX10_lent_101 : decode cX10_lent 101 = .ok (.aload_n 0, 1) := by decide +kernel
theorem dX10_lent_102 : decode cX10_lent 102 = .ok (.getfield 52, 3) := by decide +kernel
theorem dX10_lent_105 : decode cX10_lent 105 = .ok (.iload 6, 2) := by decide +kernel
theorem dX10_lent_107 : decode cX10_lent 107 = .ok (.iload_n 2, 1) := by decide +kernel
theorem dX10_lent_108 : decode cX10_lent 108 = .ok (.invokevirtual 177, 3) := by decide +kernel
theorem dX10_lent_111 : decode cX10_lent 111 = .ok (.ifCond .ne 14, 3) := by decide +kernel
theorem dX10_lent_114 : decode cX10_lent 114 = .ok (.iload 7, 2) := by decide +kernel
theorem dX10_lent_116 : decode cX10_lent 116 = .ok (.istore 4, 2) := by decide +kernel
theorem dX10_lent_118 : decode cX10_lent 118 = .ok (.iload 7, 2) := by decide +kernel
theorem dX10_lent_120 : decode cX10_lent 120 = .ok (.invokestatic 199, 3) := by decide +kernel
theorem dX10_lent_123 : decode cX10_lent 123 = .ok (.istore 5, 2) := by decide +kernel
theorem dX10_lent_125 : decode cX10_lent 125 = .ok (.iinc 6 1, 3) := by decide +kernel
theorem dX10_lent_128 : decode cX10_lent 128 = .ok (.goto (-80), 3) := by decide +kernel
theorem dX10_lent_131 : decode cX10_lent 131 = .ok (.iload 4, 2) := by decide +kernel
theorem dX10_lent_133 : decode cX10_lent 133 = .ok (.ireturn, 1) := by decide +kernel
theorem dX10_worth_0 : decode cX10_worth 0 = .ok (.aload_n 0, 1) := by decide +kernel
theorem dX10_worth_1 : decode cX10_worth 1 = .ok (.getfield 10, 3) := by decide +kernel
theorem dX10_worth_4 : decode cX10_worth 4 = .ok (.getfield 46, 3) := by decide +kernel
theorem dX10_worth_7 : decode cX10_worth 7 = .ok (.iload_n 1, 1) := by decide +kernel
theorem dX10_worth_8 : decode cX10_worth 8 = .ok (.invokevirtual 147, 3) := by decide +kernel
theorem dX10_worth_11 : decode cX10_worth 11 = .ok (.ifCond .eq 12, 3) := by decide +kernel
theorem dX10_worth_14 : decode cX10_worth 14 = .ok (.aload_n 0, 1) := by decide +kernel
theorem dX10_worth_15 : decode cX10_worth 15 = .ok (.iload_n 2, 1) := by decide +kernel
theorem dX10_worth_16 : decode cX10_worth 16 = .ok (.iload_n 3, 1) := by decide +kernel
theorem dX10_worth_17 : decode cX10_worth 17 = .ok (.invokevirtual 166, 3) := by decide +kernel
theorem dX10_worth_20 : decode cX10_worth 20 = .ok (.ifCond .ne 10, 3) := by decide +kernel
theorem dX10_worth_23 : decode cX10_worth 23 = .ok (.aload_n 0, 1) := by decide +kernel
theorem dX10_worth_24 : decode cX10_worth 24 = .ok (.bipush (-2), 2) := by decide +kernel
theorem dX10_worth_26 : decode cX10_worth 26 = .ok (.invokevirtual 108, 3) := by decide +kernel
theorem dX10_worth_29 : decode cX10_worth 29 = .ok (.ireturn, 1) := by decide +kernel
theorem dX10_worth_30 : decode cX10_worth 30 = .ok (.aload_n 0, 1) := by decide +kernel
theorem dX10_worth_31 : decode cX10_worth 31 = .ok (.getfield 52, 3) := by decide +kernel
theorem dX10_worth_34 : decode cX10_worth 34 = .ok (.iload_n 3, 1) := by decide +kernel
theorem dX10_worth_35 : decode cX10_worth 35 = .ok (.invokevirtual 173, 3) := by decide +kernel
theorem dX10_worth_38 : decode cX10_worth 38 = .ok (.iconst 0, 1) := by decide +kernel
theorem dX10_worth_39 : decode cX10_worth 39 = .ok (.istore 4, 2) := by decide +kernel
theorem dX10_worth_41 : decode cX10_worth 41 = .ok (.iconst 1, 1) := by decide +kernel
theorem dX10_worth_42 : decode cX10_worth 42 = .ok (.istore 5, 2) := by decide +kernel
theorem dX10_worth_44 : decode cX10_worth 44 = .ok (.iload 5, 2) := by decide +kernel
theorem dX10_worth_46 : decode cX10_worth 46 = .ok (.aload_n 0, 1) := by decide +kernel
theorem dX10_worth_47 : decode cX10_worth 47 = .ok (.getfield 10, 3) := by decide +kernel
theorem dX10_worth_50 : decode cX10_worth 50 = .ok (.getfield 46, 3) := by decide +kernel
theorem dX10_worth_53 : decode cX10_worth 53 = .ok (.invokevirtual 196, 3) := by decide +kernel
theorem dX10_worth_56 : decode cX10_worth 56 = .ok (.if_icmp .gt 34, 3) := by decide +kernel
theorem dX10_worth_59 : decode cX10_worth 59 = .ok (.iload 5, 2) := by decide +kernel
theorem dX10_worth_61 : decode cX10_worth 61 = .ok (.iload_n 1, 1) := by decide +kernel
theorem dX10_worth_62 : decode cX10_worth 62 = .ok (.ishr, 1) := by decide +kernel
theorem dX10_worth_63 : decode cX10_worth 63 = .ok (.iconst 1, 1) := by decide +kernel
theorem dX10_worth_64 : decode cX10_worth 64 = .ok (.iand, 1) := by decide +kernel
theorem dX10_worth_65 : decode cX10_worth 65 = .ok (.ifCond .eq 19, 3) := by decide +kernel
theorem dX10_worth_68 : decode cX10_worth 68 = .ok (.aload_n 0, 1) := by decide +kernel
theorem dX10_worth_69 : decode cX10_worth 69 = .ok (.getfield 52, 3) := by decide +kernel
theorem dX10_worth_72 : decode cX10_worth 72 = .ok (.iload 5, 2) := by decide +kernel
theorem dX10_worth_74 : decode cX10_worth 74 = .ok (.iload_n 2, 1) := by decide +kernel
theorem dX10_worth_75 : decode cX10_worth 75 = .ok (.invokevirtual 177, 3) := by decide +kernel
theorem dX10_worth_78 : decode cX10_worth 78 = .ok (.ifCond .ne 6, 3) := by decide +kernel
theorem dX10_worth_81 : decode cX10_worth 81 = .ok (.iinc 4 1, 3) := by decide +kernel
theorem dX10_worth_84 : decode cX10_worth 84 = .ok (.iinc 5 1, 3) := by decide +kernel
theorem dX10_worth_87 : decode cX10_worth 87 = .ok (.goto (-43), 3) := by decide +kernel
theorem dX10_worth_90 : decode cX10_worth 90 = .ok (.iload 4, 2) := by decide +kernel
theorem dX10_worth_92 : decode cX10_worth 92 = .ok (.ireturn, 1) := by decide +kernel
theorem dX10_dates_0 : decode cX10_dates 0 = .ok (.aload_n 0, 1) := by decide +kernel
theorem dX10_dates_1 : decode cX10_dates 1 = .ok (.getfield 10, 3) := by decide +kernel
theorem dX10_dates_4 : decode cX10_dates 4 = .ok (.getfield 46, 3) := by decide +kernel
theorem dX10_dates_7 : decode cX10_dates 7 = .ok (.iload_n 1, 1) := by decide +kernel
theorem dX10_dates_8 : decode cX10_dates 8 = .ok (.invokevirtual 163, 3) := by decide +kernel
theorem dX10_dates_11 : decode cX10_dates 11 = .ok (.ifCond .eq 24, 3) := by decide +kernel
theorem dX10_dates_14 : decode cX10_dates 14 = .ok (.aload_n 0, 1) := by decide +kernel
theorem dX10_dates_15 : decode cX10_dates 15 = .ok (.getfield 10, 3) := by decide +kernel
theorem dX10_dates_18 : decode cX10_dates 18 = .ok (.getfield 46, 3) := by decide +kernel
theorem dX10_dates_21 : decode cX10_dates 21 = .ok (.iload_n 2, 1) := by decide +kernel
theorem dX10_dates_22 : decode cX10_dates 22 = .ok (.invokevirtual 220, 3) := by decide +kernel
theorem dX10_dates_25 : decode cX10_dates 25 = .ok (.ifCond .eq 10, 3) := by decide +kernel
theorem dX10_dates_28 : decode cX10_dates 28 = .ok (.iload_n 3, 1) := by decide +kernel
theorem dX10_dates_29 : decode cX10_dates 29 = .ok (.invokestatic 223, 3) := by decide +kernel
theorem dX10_dates_32 : decode cX10_dates 32 = .ok (.ifCond .ne 10, 3) := by decide +kernel
theorem dX10_dates_35 : decode cX10_dates 35 = .ok (.aload_n 0, 1) := by decide +kernel
theorem dX10_dates_36 : decode cX10_dates 36 = .ok (.bipush (-2), 2) := by decide +kernel
theorem dX10_dates_38 : decode cX10_dates 38 = .ok (.invokevirtual 108, 3) := by decide +kernel
theorem dX10_dates_41 : decode cX10_dates 41 = .ok (.ireturn, 1) := by decide +kernel
theorem dX10_dates_42 : decode cX10_dates 42 = .ok (.aload_n 0, 1) := by decide +kernel
theorem dX10_dates_43 : decode cX10_dates 43 = .ok (.getfield 52, 3) := by decide +kernel
theorem dX10_dates_46 : decode cX10_dates 46 = .ok (.iload_n 1, 1) := by decide +kernel
theorem dX10_dates_47 : decode cX10_dates 47 = .ok (.iload_n 2, 1) := by decide +kernel
theorem dX10_dates_48 : decode cX10_dates 48 = .ok (.iload_n 3, 1) := by decide +kernel
theorem dX10_dates_49 : decode cX10_dates 49 = .ok (.invokevirtual 226, 3) := by decide +kernel
theorem dX10_dates_52 : decode cX10_dates 52 = .ok (.ireturn, 1) := by decide +kernel
theorem dX10_next_0 : decode cX10_next 0 = .ok (.aload_n 0, 1) := by decide +kernel
theorem dX10_next_1 : decode cX10_next 1 = .ok (.getfield 10, 3) := by decide +kernel
theorem dX10_next_4 : decode cX10_next 4 = .ok (.getfield 46, 3) := by decide +kernel
theorem dX10_next_7 : decode cX10_next 7 = .ok (.iload_n 1, 1) := by decide +kernel
theorem dX10_next_8 : decode cX10_next 8 = .ok (.invokevirtual 163, 3) := by decide +kernel
theorem dX10_next_11 : decode cX10_next 11 = .ok (.ifCond .eq 12, 3) := by decide +kernel
theorem dX10_next_14 : decode cX10_next 14 = .ok (.aload_n 0, 1) := by decide +kernel
theorem dX10_next_15 : decode cX10_next 15 = .ok (.iload_n 2, 1) := by decide +kernel
theorem dX10_next_16 : decode cX10_next 16 = .ok (.iload_n 3, 1) := by decide +kernel
theorem dX10_next_17 : decode cX10_next 17 = .ok (.invokevirtual 166, 3) := by decide +kernel
theorem dX10_next_20 : decode cX10_next 20 = .ok (.ifCond .ne 10, 3) := by decide +kernel
theorem dX10_next_23 : decode cX10_next 23 = .ok (.aload_n 0, 1) := by decide +kernel
theorem dX10_next_24 : decode cX10_next 24 = .ok (.bipush (-2), 2) := by decide +kernel
theorem dX10_next_26 : decode cX10_next 26 = .ok (.invokevirtual 108, 3) := by decide +kernel
theorem dX10_next_29 : decode cX10_next 29 = .ok (.ireturn, 1) := by decide +kernel
theorem dX10_next_30 : decode cX10_next 30 = .ok (.aload_n 0, 1) := by decide +kernel
theorem dX10_next_31 : decode cX10_next 31 = .ok (.getfield 52, 3) := by decide +kernel
theorem dX10_next_34 : decode cX10_next 34 = .ok (.iload_n 1, 1) := by decide +kernel
theorem dX10_next_35 : decode cX10_next 35 = .ok (.iload_n 2, 1) := by decide +kernel
theorem dX10_next_36 : decode cX10_next 36 = .ok (.iload_n 3, 1) := by decide +kernel
theorem dX10_next_37 : decode cX10_next 37 = .ok (.invokevirtual 229, 3) := by decide +kernel
theorem dX10_next_40 : decode cX10_next 40 = .ok (.ireturn, 1) := by decide +kernel
theorem dX10_wedding_0 : decode cX10_wedding 0 = .ok (.aload_n 0, 1) := by decide +kernel
theorem dX10_wedding_1 : decode cX10_wedding 1 = .ok (.getfield 10, 3) := by decide +kernel
theorem dX10_wedding_4 : decode cX10_wedding 4 = .ok (.getfield 46, 3) := by decide +kernel
theorem dX10_wedding_7 : decode cX10_wedding 7 = .ok (.iload_n 1, 1) := by decide +kernel
theorem dX10_wedding_8 : decode cX10_wedding 8 = .ok (.invokevirtual 204, 3) := by decide +kernel
theorem dX10_wedding_11 : decode cX10_wedding 11 = .ok (.ifCond .eq 33, 3) := by decide +kernel
theorem dX10_wedding_14 : decode cX10_wedding 14 = .ok (.aload_n 0, 1) := by decide +kernel
theorem dX10_wedding_15 : decode cX10_wedding 15 = .ok (.getfield 10, 3) := by decide +kernel
theorem dX10_wedding_18 : decode cX10_wedding 18 = .ok (.getfield 46, 3) := by decide +kernel
theorem dX10_wedding_21 : decode cX10_wedding 21 = .ok (.iload_n 2, 1) := by decide +kernel
theorem dX10_wedding_22 : decode cX10_wedding 22 = .ok (.invokevirtual 204, 3) := by decide +kernel
theorem dX10_wedding_25 : decode cX10_wedding 25 = .ok (.ifCond .eq 19, 3) := by decide +kernel
theorem dX10_wedding_28 : decode cX10_wedding 28 = .ok (.iload_n 1, 1) := by decide +kernel
theorem dX10_wedding_29 : decode cX10_wedding 29 = .ok (.iload_n 2, 1) := by decide +kernel
theorem dX10_wedding_30 : decode cX10_wedding 30 = .ok (.iand, 1) := by decide +kernel
theorem dX10_wedding_31 : decode cX10_wedding 31 = .ok (.ifCond .ne 13, 3) := by decide +kernel
theorem dX10_wedding_34 : decode cX10_wedding 34 = .ok (.aload_n 0, 1) := by decide +kernel
theorem dX10_wedding_35 : decode cX10_wedding 35 = .ok (.iload_n 3, 1) := by decide +kernel
theorem dX10_wedding_36 : decode cX10_wedding 36 = .ok (.iload 4, 2) := by decide +kernel
theorem dX10_wedding_38 : decode cX10_wedding 38 = .ok (.invokevirtual 166, 3) := by decide +kernel
theorem dX10_wedding_41 : decode cX10_wedding 41 = .ok (.ifCond .ne 10, 3) := by decide +kernel
theorem dX10_wedding_44 : decode cX10_wedding 44 = .ok (.aload_n 0, 1) := by decide +kernel
theorem dX10_wedding_45 : decode cX10_wedding 45 = .ok (.bipush (-2), 2) := by decide +kernel
theorem dX10_wedding_47 : decode cX10_wedding 47 = .ok (.invokevirtual 108, 3) := by decide +kernel
theorem dX10_wedding_50 : decode cX10_wedding 50 = .ok (.ireturn, 1) := by decide +kernel
theorem dX10_wedding_51 : decode cX10_wedding 51 = .ok (.aload_n 0, 1) := by decide +kernel
theorem dX10_wedding_52 : decode cX10_wedding 52 = .ok (.getfield 61, 3) := by decide +kernel
theorem dX10_wedding_55 : decode cX10_wedding 55 = .ok (.iload_n 1, 1) := by decide +kernel
theorem dX10_wedding_56 : decode cX10_wedding 56 = .ok (.iload_n 2, 1) := by decide +kernel
theorem dX10_wedding_57 : decode cX10_wedding 57 = .ok (.iload_n 3, 1) := by decide +kernel
theorem dX10_wedding_58 : decode cX10_wedding 58 = .ok (.iload 4, 2) := by decide +kernel
theorem dX10_wedding_60 : decode cX10_wedding 60 = .ok (.invokevirtual 232, 3) := by decide +kernel
theorem dX10_wedding_63 : decode cX10_wedding 63 = .ok (.ireturn, 1) := by decide +kernel
theorem dX10_crowd_0 : decode cX10_crowd 0 = .ok (.iload_n 1, 1) := by decide +kernel
theorem dX10_crowd_1 : decode cX10_crowd 1 = .ok (.ifCond .lt 19, 3) := by decide +kernel
theorem dX10_crowd_4 : decode cX10_crowd 4 = .ok (.iload_n 1, 1) := by decide +kernel
theorem dX10_crowd_5 : decode cX10_crowd 5 = .ok (.bipush 10, 2) := by decide +kernel
theorem dX10_crowd_7 : decode cX10_crowd 7 = .ok (.if_icmp .ge 13, 3) := by decide +kernel
theorem dX10_crowd_10 : decode cX10_crowd 10 = .ok (.iload_n 2, 1) := by decide +kernel
theorem dX10_crowd_11 : decode cX10_crowd 11 = .ok (.ifCond .lt 9, 3) := by decide +kernel
theorem dX10_crowd_14 : decode cX10_crowd 14 = .ok (.iload_n 2, 1) := by decide +kernel
theorem dX10_crowd_15 : decode cX10_crowd 15 = .ok (.bipush 6, 2) := by decide +kernel
theorem dX10_crowd_17 : decode cX10_crowd 17 = .ok (.if_icmp .le 10, 3) := by decide +kernel
theorem dX10_crowd_20 : decode cX10_crowd 20 = .ok (.aload_n 0, 1) := by decide +kernel
theorem dX10_crowd_21 : decode cX10_crowd 21 = .ok (.bipush (-2), 2) := by decide +kernel
theorem dX10_crowd_23 : decode cX10_crowd 23 = .ok (.invokevirtual 108, 3) := by decide +kernel
theorem dX10_crowd_26 : decode cX10_crowd 26 = .ok (.ireturn, 1) := by decide +kernel
theorem dX10_crowd_27 : decode cX10_crowd 27 = .ok (.aload_n 0, 1) := by decide +kernel
theorem dX10_crowd_28 : decode cX10_crowd 28 = .ok (.getfield 10, 3) := by decide +kernel
theorem dX10_crowd_31 : decode cX10_crowd 31 = .ok (.getfield 67, 3) := by decide +kernel
theorem dX10_crowd_34 : decode cX10_crowd 34 = .ok (.iload_n 1, 1) := by decide +kernel
theorem dX10_crowd_35 : decode cX10_crowd 35 = .ok (.iaload, 1) := by decide +kernel
theorem dX10_crowd_36 : decode cX10_crowd 36 = .ok (.istore_n 3, 1) := by decide +kernel
theorem dX10_crowd_37 : decode cX10_crowd 37 = .ok (.aload_n 0, 1) := by decide +kernel
theorem dX10_crowd_38 : decode cX10_crowd 38 = .ok (.getfield 10, 3) := by decide +kernel
theorem dX10_crowd_41 : decode cX10_crowd 41 = .ok (.getfield 67, 3) := by decide +kernel
theorem dX10_crowd_44 : decode cX10_crowd 44 = .ok (.iload_n 1, 1) := by decide +kernel
theorem dX10_crowd_45 : decode cX10_crowd 45 = .ok (.iload_n 2, 1) := by decide +kernel
theorem dX10_crowd_46 : decode cX10_crowd 46 = .ok (.iastore, 1) := by decide +kernel
theorem dX10_crowd_47 : decode cX10_crowd 47 = .ok (.iload_n 3, 1) := by decide +kernel
theorem dX10_crowd_48 : decode cX10_crowd 48 = .ok (.ireturn, 1) := by decide +kernel
theorem dX10_tens_0 : decode cX10_tens 0 = .ok (.iload_n 1, 1) := by decide +kernel
theorem dX10_tens_1 : decode cX10_tens 1 = .ok (.ifCond .lt 9, 3) := by decide +kernel
theorem dX10_tens_4 : decode cX10_tens 4 = .ok (.iload_n 1, 1) := by decide +kernel
theorem dX10_tens_5 : decode cX10_tens 5 = .ok (.bipush 60, 2) := by decide +kernel
theorem dX10_tens_7 : decode cX10_tens 7 = .ok (.if_icmp .le 11, 3) := by decide +kernel
theorem dX10_tens_10 : decode cX10_tens 10 = .ok (.aload_n 0, 1) := by decide +kernel
theorem dX10_tens_11 : decode cX10_tens 11 = .ok (.bipush (-2), 2) := by decide +kernel
theorem dX10_tens_13 : decode cX10_tens 13 = .ok (.invokevirtual 108, 3) := by decide +kernel
theorem dX10_tens_16 : decode cX10_tens 16 = .ok (.i2l, 1) := by decide +kernel
theorem dX10_tens_17 : decode cX10_tens 17 = .ok (.lreturn, 1) := by decide +kernel
theorem dX10_tens_18 : decode cX10_tens 18 = .ok (.aload_n 0, 1) := by decide +kernel
theorem dX10_tens_19 : decode cX10_tens 19 = .ok (.getfield 74, 3) := by decide +kernel
theorem dX10_tens_22 : decode cX10_tens 22 = .ok (.invokevirtual 236, 3) := by decide +kernel
theorem dX10_tens_25 : decode cX10_tens 25 = .ok (.pop, 1) := by decide +kernel
theorem dX10_tens_26 : decode cX10_tens 26 = .ok (.aload_n 0, 1) := by decide +kernel
theorem dX10_tens_27 : decode cX10_tens 27 = .ok (.getfield 74, 3) := by decide +kernel
theorem dX10_tens_30 : decode cX10_tens 30 = .ok (.iload_n 1, 1) := by decide +kernel
theorem dX10_tens_31 : decode cX10_tens 31 = .ok (.invokevirtual 239, 3) := by decide +kernel
theorem dX10_tens_34 : decode cX10_tens 34 = .ok (.lreturn, 1) := by decide +kernel
theorem dX10_spare_0 : decode cX10_spare 0 = .ok (.aload_n 0, 1) := by decide +kernel
theorem dX10_spare_1 : decode cX10_spare 1 = .ok (.getfield 74, 3) := by decide +kernel
theorem dX10_spare_4 : decode cX10_spare 4 = .ok (.invokevirtual 236, 3) := by decide +kernel
theorem dX10_spare_7 : decode cX10_spare 7 = .ok (.istore_n 1, 1) := by decide +kernel
theorem dX10_spare_8 : decode cX10_spare 8 = .ok (.iload_n 1, 1) := by decide +kernel
theorem dX10_spare_9 : decode cX10_spare 9 = .ok (.istore_n 2, 1) := by decide +kernel
theorem dX10_spare_10 : decode cX10_spare 10 = .ok (.iload_n 2, 1) := by decide +kernel
theorem dX10_spare_11 : decode cX10_spare 11 = .ok (.iconst 1, 1) := by decide +kernel
theorem dX10_spare_12 : decode cX10_spare 12 = .ok (.if_icmp .lt 26, 3) := by decide +kernel
theorem dX10_spare_15 : decode cX10_spare 15 = .ok (.aload_n 0, 1) := by decide +kernel
theorem dX10_spare_16 : decode cX10_spare 16 = .ok (.getfield 74, 3) := by decide +kernel
theorem dX10_spare_19 : decode cX10_spare 19 = .ok (.iload_n 2, 1) := by decide +kernel
theorem dX10_spare_20 : decode cX10_spare 20 = .ok (.invokevirtual 239, 3) := by decide +kernel
theorem dX10_spare_23 : decode cX10_spare 23 = .ok (.lconst 0, 1) := by decide +kernel
theorem dX10_spare_24 : decode cX10_spare 24 = .ok (.lcmp, 1) := by decide +kernel
theorem dX10_spare_25 : decode cX10_spare 25 = .ok (.ifCond .le 7, 3) := by decide +kernel
theorem dX10_spare_28 : decode cX10_spare 28 = .ok (.iload_n 1, 1) := by decide +kernel
theorem dX10_spare_29 : decode cX10_spare 29 = .ok (.iload_n 2, 1) := by decide +kernel
theorem dX10_spare_30 : decode cX10_spare 30 = .ok (.isub, 1) := by decide +kernel
theorem dX10_spare_31 : decode cX10_spare 31 = .ok (.ireturn, 1) := by decide +kernel
theorem dX10_spare_32 : decode cX10_spare 32 = .ok (.iinc 2 (-1), 3) := by decide +kernel
theorem dX10_spare_35 : decode cX10_spare 35 = .ok (.goto (-25), 3) := by decide +kernel
theorem dX10_spare_38 : decode cX10_spare 38 = .ok (.iload_n 1, 1) := by decide +kernel
theorem dX10_spare_39 : decode cX10_spare 39 = .ok (.ireturn, 1) := by decide +kernel
theorem dX10_passing_0 : decode cX10_passing 0 = .ok (.iload_n 1, 1) := by decide +kernel
theorem dX10_passing_1 : decode cX10_passing 1 = .ok (.iconst 1, 1) := by decide +kernel
theorem dX10_passing_2 : decode cX10_passing 2 = .ok (.if_icmp .lt 19, 3) := by decide +kernel
theorem dX10_passing_5 : decode cX10_passing 5 = .ok (.iload_n 1, 1) := by decide +kernel
theorem dX10_passing_6 : decode cX10_passing 6 = .ok (.bipush 32, 2) := by decide +kernel
theorem dX10_passing_8 : decode cX10_passing 8 = .ok (.if_icmp .ge 13, 3) := by decide +kernel
theorem dX10_passing_11 : decode cX10_passing 11 = .ok (.iload_n 2, 1) := by decide +kernel
theorem dX10_passing_12 : decode cX10_passing 12 = .ok (.ifCond .lt 9, 3) := by decide +kernel
theorem dX10_passing_15 : decode cX10_passing 15 = .ok (.iload_n 2, 1) := by decide +kernel
theorem dX10_passing_16 : decode cX10_passing 16 = .ok (.bipush 99, 2) := by decide +kernel
theorem dX10_passing_18 : decode cX10_passing 18 = .ok (.if_icmp .le 10, 3) := by decide +kernel
theorem dX10_passing_21 : decode cX10_passing 21 = .ok (.aload_n 0, 1) := by decide +kernel
theorem dX10_passing_22 : decode cX10_passing 22 = .ok (.bipush (-2), 2) := by decide +kernel
theorem dX10_passing_24 : decode cX10_passing 24 = .ok (.invokevirtual 108, 3) := by decide +kernel
theorem dX10_passing_27 : decode cX10_passing 27 = .ok (.ireturn, 1) := by decide +kernel
theorem dX10_passing_28 : decode cX10_passing 28 = .ok (.aload_n 0, 1) := by decide +kernel
theorem dX10_passing_29 : decode cX10_passing 29 = .ok (.getfield 10, 3) := by decide +kernel
theorem dX10_passing_32 : decode cX10_passing 32 = .ok (.getfield 80, 3) := by decide +kernel
theorem dX10_passing_35 : decode cX10_passing 35 = .ok (.getfield 245, 3) := by decide +kernel
theorem dX10_passing_38 : decode cX10_passing 38 = .ok (.bipush 10, 2) := by decide +kernel
theorem dX10_passing_40 : decode cX10_passing 40 = .ok (.if_icmp .ge 19, 3) := by decide +kernel
theorem dX10_passing_43 : decode cX10_passing 43 = .ok (.aload_n 0, 1) := by decide +kernel
theorem dX10_passing_44 : decode cX10_passing 44 = .ok (.getfield 10, 3) := by decide +kernel
theorem dX10_passing_47 : decode cX10_passing 47 = .ok (.getfield 80, 3) := by decide +kernel
theorem dX10_passing_50 : decode cX10_passing 50 = .ok (.iload_n 1, 1) := by decide +kernel
theorem dX10_passing_51 : decode cX10_passing 51 = .ok (.iload_n 2, 1) := by decide +kernel
theorem dX10_passing_52 : decode cX10_passing 52 = .ok (.iload_n 3, 1) := by decide +kernel
theorem dX10_passing_53 : decode cX10_passing 53 = .ok (.invokevirtual 246, 3) := by decide +kernel
theorem dX10_passing_56 : decode cX10_passing 56 = .ok (.goto 9, 3) := by decide +kernel
theorem dX10_passing_59 : decode cX10_passing 59 = .ok (.aload_n 0, 1) := by decide +kernel
theorem dX10_passing_60 : decode cX10_passing 60 = .ok (.bipush (-4), 2) := by decide +kernel
theorem dX10_passing_62 : decode cX10_passing 62 = .ok (.invokevirtual 108, 3) := by decide +kernel
theorem dX10_passing_65 : decode cX10_passing 65 = .ok (.ireturn, 1) := by decide +kernel
theorem dX10_forget_0 : decode cX10_forget 0 = .ok (.aload_n 0, 1) := by decide +kernel
theorem dX10_forget_1 : decode cX10_forget 1 = .ok (.getfield 10, 3) := by decide +kernel
theorem dX10_forget_4 : decode cX10_forget 4 = .ok (.getfield 80, 3) := by decide +kernel
theorem dX10_forget_7 : decode cX10_forget 7 = .ok (.invokevirtual 249, 3) := by decide +kernel
theorem dX10_forget_10 : decode cX10_forget 10 = .ok (.ireturn, 1) := by decide +kernel
theorem dX10_liars_0 : decode cX10_liars 0 = .ok (.iload_n 1, 1) := by decide +kernel
theorem dX10_liars_1 : decode cX10_liars 1 = .ok (.ifCond .lt 8, 3) := by decide +kernel
theorem dX10_liars_4 : decode cX10_liars 4 = .ok (.iload_n 1, 1) := by decide +kernel
theorem dX10_liars_5 : decode cX10_liars 5 = .ok (.iconst 3, 1) := by decide +kernel
theorem dX10_liars_6 : decode cX10_liars 6 = .ok (.if_icmp .le 12, 3) := by decide +kernel
theorem dX10_liars_9 : decode cX10_liars 9 = .ok (.aload_n 0, 1) := by decide +kernel
theorem dX10_liars_10 : decode cX10_liars 10 = .ok (.bipush (-2), 2) := by decide +kernel
theorem dX10_liars_12 : decode cX10_liars 12 = .ok (.invokevirtual 108, 3) := by decide +kernel
theorem dX10_liars_15 : decode cX10_liars 15 = .ok (.goto 14, 3) := by decide +kernel
theorem dX10_liars_18 : decode cX10_liars 18 = .ok (.aload_n 0, 1) := by decide +kernel
theorem dX10_liars_19 : decode cX10_liars 19 = .ok (.getfield 10, 3) := by decide +kernel
theorem dX10_liars_22 : decode cX10_liars 22 = .ok (.getfield 80, 3) := by decide +kernel
theorem dX10_liars_25 : decode cX10_liars 25 = .ok (.iload_n 1, 1) := by decide +kernel
theorem dX10_liars_26 : decode cX10_liars 26 = .ok (.invokevirtual 252, 3) := by decide +kernel
theorem dX10_liars_29 : decode cX10_liars 29 = .ok (.ireturn, 1) := by decide +kernel
theorem dX10_fits_0 : decode cX10_fits 0 = .ok (.iload_n 1, 1) := by decide +kernel
theorem dX10_fits_1 : decode cX10_fits 1 = .ok (.iconst (-1), 1) := by decide +kernel
theorem dX10_fits_2 : decode cX10_fits 2 = .ok (.if_icmp .ge 12, 3) := by decide +kernel
theorem dX10_fits_5 : decode cX10_fits 5 = .ok (.aload_n 0, 1) := by decide +kernel
theorem dX10_fits_6 : decode cX10_fits 6 = .ok (.bipush (-2), 2) := by decide +kernel
theorem dX10_fits_8 : decode cX10_fits 8 = .ok (.bipush (-10), 2) := by decide +kernel
theorem dX10_fits_10 : decode cX10_fits 10 = .ok (.invokevirtual 170, 3) := by decide +kernel
theorem dX10_fits_13 : decode cX10_fits 13 = .ok (.ireturn, 1) := by decide +kernel
theorem dX10_fits_14 : decode cX10_fits 14 = .ok (.aload_n 0, 1) := by decide +kernel
theorem dX10_fits_15 : decode cX10_fits 15 = .ok (.getfield 87, 3) := by decide +kernel
theorem dX10_fits_18 : decode cX10_fits 18 = .ok (.invokevirtual 255, 3) := by decide +kernel
theorem dX10_fits_21 : decode cX10_fits 21 = .ok (.istore_n 2, 1) := by decide +kernel
theorem dX10_fits_22 : decode cX10_fits 22 = .ok (.iload_n 1, 1) := by decide +kernel
theorem dX10_fits_23 : decode cX10_fits 23 = .ok (.iconst (-1), 1) := by decide +kernel
theorem dX10_fits_24 : decode cX10_fits 24 = .ok (.if_icmp .ne 5, 3) := by decide +kernel
theorem dX10_fits_27 : decode cX10_fits 27 = .ok (.iload_n 2, 1) := by decide +kernel
theorem dX10_fits_28 : decode cX10_fits 28 = .ok (.ireturn, 1) := by decide +kernel
theorem dX10_fits_29 : decode cX10_fits 29 = .ok (.iload_n 1, 1) := by decide +kernel
theorem dX10_fits_30 : decode cX10_fits 30 = .ok (.iload_n 2, 1) := by decide +kernel
theorem dX10_fits_31 : decode cX10_fits 31 = .ok (.if_icmp .ge 14, 3) := by decide +kernel
theorem dX10_fits_34 : decode cX10_fits 34 = .ok (.aload_n 0, 1) := by decide +kernel
theorem dX10_fits_35 : decode cX10_fits 35 = .ok (.getfield 87, 3) := by decide +kernel
theorem dX10_fits_38 : decode cX10_fits 38 = .ok (.iload_n 1, 1) := by decide +kernel
theorem dX10_fits_39 : decode cX10_fits 39 = .ok (.invokevirtual 258, 3) := by decide +kernel
theorem dX10_fits_42 : decode cX10_fits 42 = .ok (.goto 5, 3) := by decide +kernel
theorem dX10_fits_45 : decode cX10_fits 45 = .ok (.bipush (-5), 2) := by decide +kernel
theorem dX10_fits_47 : decode cX10_fits 47 = .ok (.ireturn, 1) := by decide +kernel
theorem dX10_untold_0 : decode cX10_untold 0 = .ok (.iload_n 1, 1) := by decide +kernel
theorem dX10_untold_1 : decode cX10_untold 1 = .ok (.ifCond .lt 18, 3) := by decide +kernel
theorem dX10_untold_4 : decode cX10_untold 4 = .ok (.iload_n 1, 1) := by decide +kernel
theorem dX10_untold_5 : decode cX10_untold 5 = .ok (.iconst 5, 1) := by decide +kernel
theorem dX10_untold_6 : decode cX10_untold 6 = .ok (.if_icmp .ge 13, 3) := by decide +kernel
theorem dX10_untold_9 : decode cX10_untold 9 = .ok (.iload_n 2, 1) := by decide +kernel
theorem dX10_untold_10 : decode cX10_untold 10 = .ok (.ifCond .lt 9, 3) := by decide +kernel
theorem dX10_untold_13 : decode cX10_untold 13 = .ok (.iload_n 2, 1) := by decide +kernel
theorem dX10_untold_14 : decode cX10_untold 14 = .ok (.bipush 9, 2) := by decide +kernel
theorem dX10_untold_16 : decode cX10_untold 16 = .ok (.if_icmp .le 10, 3) := by decide +kernel
theorem dX10_untold_19 : decode cX10_untold 19 = .ok (.aload_n 0, 1) := by decide +kernel
theorem dX10_untold_20 : decode cX10_untold 20 = .ok (.bipush (-2), 2) := by decide +kernel
theorem dX10_untold_22 : decode cX10_untold 22 = .ok (.invokevirtual 108, 3) := by decide +kernel
theorem dX10_untold_25 : decode cX10_untold 25 = .ok (.ireturn, 1) := by decide +kernel
theorem dX10_untold_26 : decode cX10_untold 26 = .ok (.aload_n 0, 1) := by decide +kernel
theorem dX10_untold_27 : decode cX10_untold 27 = .ok (.getfield 87, 3) := by decide +kernel
theorem dX10_untold_30 : decode cX10_untold 30 = .ok (.invokevirtual 255, 3) := by decide +kernel
theorem dX10_untold_33 : decode cX10_untold 33 = .ok (.istore_n 3, 1) := by decide +kernel
theorem dX10_untold_34 : decode cX10_untold 34 = .ok (.iload_n 3, 1) := by decide +kernel
theorem dX10_untold_35 : decode cX10_untold 35 = .ok (.ifCond .ne 10, 3) := by decide +kernel
theorem dX10_untold_38 : decode cX10_untold 38 = .ok (.aload_n 0, 1) := by decide +kernel
theorem dX10_untold_39 : decode cX10_untold 39 = .ok (.bipush (-3), 2) := by decide +kernel
theorem dX10_untold_41 : decode cX10_untold 41 = .ok (.invokevirtual 108, 3) := by decide +kernel
theorem dX10_untold_44 : decode cX10_untold 44 = .ok (.ireturn, 1) := by decide +kernel
theorem dX10_untold_45 : decode cX10_untold 45 = .ok (.aload_n 0, 1) := by decide +kernel
theorem dX10_untold_46 : decode cX10_untold 46 = .ok (.aload_n 0, 1) := by decide +kernel
theorem dX10_untold_47 : decode cX10_untold 47 = .ok (.getfield 87, 3) := by decide +kernel
theorem dX10_untold_50 : decode cX10_untold 50 = .ok (.iload_n 1, 1) := by decide +kernel
theorem dX10_untold_51 : decode cX10_untold 51 = .ok (.iload_n 2, 1) := by decide +kernel
theorem dX10_untold_52 : decode cX10_untold 52 = .ok (.invokevirtual 261, 3) := by decide +kernel
theorem dX10_untold_55 : decode cX10_untold 55 = .ok (.iload_n 3, 1) := by decide +kernel
theorem dX10_untold_56 : decode cX10_untold 56 = .ok (.invokevirtual 264, 3) := by decide +kernel
theorem dX10_untold_59 : decode cX10_untold 59 = .ok (.iconst 1, 1) := by decide +kernel
theorem dX10_untold_60 : decode cX10_untold 60 = .ok (.ireturn, 1) := by decide +kernel
theorem dX10_part_0 : decode cX10_part 0 = .ok (.iload_n 1, 1) := by decide +kernel
theorem dX10_part_1 : decode cX10_part 1 = .ok (.ifCond .lt 8, 3) := by decide +kernel
theorem dX10_part_4 : decode cX10_part 4 = .ok (.iload_n 1, 1) := by decide +kernel
theorem dX10_part_5 : decode cX10_part 5 = .ok (.iconst 1, 1) := by decide +kernel
theorem dX10_part_6 : decode cX10_part 6 = .ok (.if_icmp .le 10, 3) := by decide +kernel
theorem dX10_part_9 : decode cX10_part 9 = .ok (.aload_n 0, 1) := by decide +kernel
theorem dX10_part_10 : decode cX10_part 10 = .ok (.bipush (-2), 2) := by decide +kernel
theorem dX10_part_12 : decode cX10_part 12 = .ok (.invokevirtual 108, 3) := by decide +kernel
theorem dX10_part_15 : decode cX10_part 15 = .ok (.ireturn, 1) := by decide +kernel
theorem dX10_part_16 : decode cX10_part 16 = .ok (.iload_n 1, 1) := by decide +kernel
theorem dX10_part_17 : decode cX10_part 17 = .ok (.ifCond .ne 10, 3) := by decide +kernel
theorem dX10_part_20 : decode cX10_part 20 = .ok (.aload_n 0, 1) := by decide +kernel
theorem dX10_part_21 : decode cX10_part 21 = .ok (.getfield 91, 3) := by decide +kernel
theorem dX10_part_24 : decode cX10_part 24 = .ok (.goto 7, 3) := by decide +kernel
theorem dX10_part_27 : decode cX10_part 27 = .ok (.aload_n 0, 1) := by decide +kernel
theorem dX10_part_28 : decode cX10_part 28 = .ok (.getfield 95, 3) := by decide +kernel
theorem dX10_part_31 : decode cX10_part 31 = .ok (.ireturn, 1) := by decide +kernel
theorem dX10_image_0 : decode cX10_image 0 = .ok (.iload_n 1, 1) := by decide +kernel
theorem dX10_image_1 : decode cX10_image 1 = .ok (.ifCond .lt 8, 3) := by decide +kernel
theorem dX10_image_4 : decode cX10_image 4 = .ok (.iload_n 1, 1) := by decide +kernel
theorem dX10_image_5 : decode cX10_image 5 = .ok (.iconst 2, 1) := by decide +kernel
theorem dX10_image_6 : decode cX10_image 6 = .ok (.if_icmp .lt 10, 3) := by decide +kernel
theorem dX10_image_9 : decode cX10_image 9 = .ok (.aload_n 0, 1) := by decide +kernel
theorem dX10_image_10 : decode cX10_image 10 = .ok (.bipush (-2), 2) := by decide +kernel
theorem dX10_image_12 : decode cX10_image 12 = .ok (.invokevirtual 108, 3) := by decide +kernel
theorem dX10_image_15 : decode cX10_image 15 = .ok (.ireturn, 1) := by decide +kernel
theorem dX10_image_16 : decode cX10_image 16 = .ok (.aload_n 0, 1) := by decide +kernel
theorem dX10_image_17 : decode cX10_image 17 = .ok (.getfield 16, 3) := by decide +kernel
theorem dX10_image_20 : decode cX10_image 20 = .ok (.iload_n 1, 1) := by decide +kernel
theorem dX10_image_21 : decode cX10_image 21 = .ok (.aaload, 1) := by decide +kernel
theorem dX10_image_22 : decode cX10_image 22 = .ok (.aload_n 0, 1) := by decide +kernel
theorem dX10_image_23 : decode cX10_image 23 = .ok (.getfield 10, 3) := by decide +kernel
theorem dX10_image_26 : decode cX10_image 26 = .ok (.invokevirtual 267, 3) := by decide +kernel
theorem dX10_image_29 : decode cX10_image 29 = .ok (.aload_n 0, 1) := by decide +kernel
theorem dX10_image_30 : decode cX10_image 30 = .ok (.getfield 20, 3) := by decide +kernel
theorem dX10_image_33 : decode cX10_image 33 = .ok (.iload_n 1, 1) := by decide +kernel
theorem dX10_image_34 : decode cX10_image 34 = .ok (.iconst 1, 1) := by decide +kernel
theorem dX10_image_35 : decode cX10_image 35 = .ok (.bastore, 1) := by decide +kernel
theorem dX10_image_36 : decode cX10_image 36 = .ok (.iconst 1, 1) := by decide +kernel
theorem dX10_image_37 : decode cX10_image 37 = .ok (.ireturn, 1) := by decide +kernel
theorem dX10_from_0 : decode cX10_from 0 = .ok (.iload_n 1, 1) := by decide +kernel
theorem dX10_from_1 : decode cX10_from 1 = .ok (.ifCond .lt 8, 3) := by decide +kernel
theorem dX10_from_4 : decode cX10_from 4 = .ok (.iload_n 1, 1) := by decide +kernel
theorem dX10_from_5 : decode cX10_from 5 = .ok (.iconst 2, 1) := by decide +kernel
theorem dX10_from_6 : decode cX10_from 6 = .ok (.if_icmp .lt 10, 3) := by decide +kernel
theorem dX10_from_9 : decode cX10_from 9 = .ok (.aload_n 0, 1) := by decide +kernel
theorem dX10_from_10 : decode cX10_from 10 = .ok (.bipush (-2), 2) := by decide +kernel
theorem dX10_from_12 : decode cX10_from 12 = .ok (.invokevirtual 108, 3) := by decide +kernel
theorem dX10_from_15 : decode cX10_from 15 = .ok (.ireturn, 1) := by decide +kernel
theorem dX10_from_16 : decode cX10_from 16 = .ok (.aload_n 0, 1) := by decide +kernel
theorem dX10_from_17 : decode cX10_from 17 = .ok (.getfield 20, 3) := by decide +kernel
theorem dX10_from_20 : decode cX10_from 20 = .ok (.iload_n 1, 1) := by decide +kernel
theorem dX10_from_21 : decode cX10_from 21 = .ok (.baload, 1) := by decide +kernel
theorem dX10_from_22 : decode cX10_from 22 = .ok (.ifCond .ne 10, 3) := by decide +kernel
theorem dX10_from_25 : decode cX10_from 25 = .ok (.aload_n 0, 1) := by decide +kernel
theorem dX10_from_26 : decode cX10_from 26 = .ok (.bipush (-3), 2) := by decide +kernel
theorem dX10_from_28 : decode cX10_from 28 = .ok (.invokevirtual 108, 3) := by decide +kernel
theorem dX10_from_31 : decode cX10_from 31 = .ok (.ireturn, 1) := by decide +kernel
theorem dX10_from_32 : decode cX10_from 32 = .ok (.aload_n 0, 1) := by decide +kernel
theorem dX10_from_33 : decode cX10_from 33 = .ok (.getfield 10, 3) := by decide +kernel
theorem dX10_from_36 : decode cX10_from 36 = .ok (.aload_n 0, 1) := by decide +kernel
theorem dX10_from_37 : decode cX10_from 37 = .ok (.getfield 16, 3) := by decide +kernel
theorem dX10_from_40 : decode cX10_from 40 = .ok (.iload_n 1, 1) := by decide +kernel
theorem dX10_from_41 : decode cX10_from 41 = .ok (.aaload, 1) := by decide +kernel
theorem dX10_from_42 : decode cX10_from 42 = .ok (.invokevirtual 267, 3) := by decide +kernel
theorem dX10_from_45 : decode cX10_from 45 = .ok (.iconst 1, 1) := by decide +kernel
theorem dX10_from_46 : decode cX10_from 46 = .ok (.ireturn, 1) := by decide +kernel
theorem dX10_status_0 : decode cX10_status 0 = .ok (.iload_n 1, 1) := by decide +kernel
theorem dX10_status_1 : decode cX10_status 1 = .ok (.tableswitch 42 0 2 #[27, 32, 37], 27) := by decide +kernel
theorem dX10_status_28 : decode cX10_status 28 = .ok (.aload_n 0, 1) := by decide +kernel
theorem dX10_status_29 : decode cX10_status 29 = .ok (.getfield 270, 3) := by decide +kernel
theorem dX10_status_32 : decode cX10_status 32 = .ok (.ireturn, 1) := by decide +kernel
theorem dX10_status_33 : decode cX10_status 33 = .ok (.aload_n 0, 1) := by decide +kernel
theorem dX10_status_34 : decode cX10_status 34 = .ok (.getfield 273, 3) := by decide +kernel
theorem dX10_status_37 : decode cX10_status 37 = .ok (.ireturn, 1) := by decide +kernel
theorem dX10_status_38 : decode cX10_status 38 = .ok (.aload_n 0, 1) := by decide +kernel
theorem dX10_status_39 : decode cX10_status 39 = .ok (.getfield 276, 3) := by decide +kernel
theorem dX10_status_42 : decode cX10_status 42 = .ok (.ireturn, 1) := by decide +kernel
theorem dX10_status_43 : decode cX10_status 43 = .ok (.aload_n 0, 1) := by decide +kernel
theorem dX10_status_44 : decode cX10_status 44 = .ok (.bipush (-2), 2) := by decide +kernel
theorem dX10_status_46 : decode cX10_status 46 = .ok (.iconst (-1), 1) := by decide +kernel
theorem dX10_status_47 : decode cX10_status 47 = .ok (.invokevirtual 170, 3) := by decide +kernel
theorem dX10_status_50 : decode cX10_status 50 = .ok (.ireturn, 1) := by decide +kernel
theorem dX10_count_0 : decode cX10_count 0 = .ok (.iload_n 1, 1) := by decide +kernel
theorem dX10_count_1 : decode cX10_count 1 = .ok (.tableswitch 75 0 3 #[31, 42, 53, 64], 31) := by decide +kernel
theorem dX10_count_32 : decode cX10_count 32 = .ok (.aload_n 0, 1) := by decide +kernel
theorem dX10_count_33 : decode cX10_count 33 = .ok (.getfield 10, 3) := by decide +kernel
theorem dX10_count_36 : decode cX10_count 36 = .ok (.getfield 46, 3) := by decide +kernel
theorem dX10_count_39 : decode cX10_count 39 = .ok (.getfield 129, 3) := by decide +kernel
theorem dX10_count_42 : decode cX10_count 42 = .ok (.ireturn, 1) := by decide +kernel
theorem dX10_count_43 : decode cX10_count 43 = .ok (.aload_n 0, 1) := by decide +kernel
theorem dX10_count_44 : decode cX10_count 44 = .ok (.getfield 10, 3) := by decide +kernel
theorem dX10_count_47 : decode cX10_count 47 = .ok (.getfield 46, 3) := by decide +kernel
theorem dX10_count_50 : decode cX10_count 50 = .ok (.getfield 141, 3) := by decide +kernel
theorem dX10_count_53 : decode cX10_count 53 = .ok (.ireturn, 1) := by decide +kernel
theorem dX10_count_54 : decode cX10_count 54 = .ok (.aload_n 0, 1) := by decide +kernel
theorem dX10_count_55 : decode cX10_count 55 = .ok (.getfield 10, 3) := by decide +kernel
theorem dX10_count_58 : decode cX10_count 58 = .ok (.getfield 33, 3) := by decide +kernel
theorem dX10_count_61 : decode cX10_count 61 = .ok (.getfield 180, 3) := by decide +kernel
theorem dX10_count_64 : decode cX10_count 64 = .ok (.ireturn, 1) := by decide +kernel
theorem dX10_count_65 : decode cX10_count 65 = .ok (.aload_n 0, 1) := by decide +kernel
theorem dX10_count_66 : decode cX10_count 66 = .ok (.getfield 10, 3) := by decide +kernel
theorem dX10_count_69 : decode cX10_count 69 = .ok (.getfield 80, 3) := by decide +kernel
theorem dX10_count_72 : decode cX10_count 72 = .ok (.getfield 245, 3) := by decide +kernel
theorem dX10_count_75 : decode cX10_count 75 = .ok (.ireturn, 1) := by decide +kernel
theorem dX10_count_76 : decode cX10_count 76 = .ok (.aload_n 0, 1) := by decide +kernel
theorem dX10_count_77 : decode cX10_count 77 = .ok (.bipush (-2), 2) := by decide +kernel
theorem dX10_count_79 : decode cX10_count 79 = .ok (.invokevirtual 108, 3) := by decide +kernel
theorem dX10_count_82 : decode cX10_count 82 = .ok (.ireturn, 1) := by decide +kernel
theorem dX10_digest_0 : decode cX10_digest 0 = .ok (.ldc2_w 279, 3) := by decide +kernel
theorem dX10_digest_3 : decode cX10_digest 3 = .ok (.ldc2_w 279, 3) := by decide +kernel
theorem dX10_digest_6 : decode cX10_digest 6 = .ok (.aload_n 0, 1) := by decide +kernel
theorem dX10_digest_7 : decode cX10_digest 7 = .ok (.getfield 10, 3) := by decide +kernel
theorem dX10_digest_10 : decode cX10_digest 10 = .ok (.ldc2_w 281, 3) := by decide +kernel
theorem dX10_digest_13 : decode cX10_digest 13 = .ok (.invokevirtual 283, 3) := by decide +kernel
theorem dX10_digest_16 : decode cX10_digest 16 = .ok (.lmul, 1) := by decide +kernel
theorem dX10_digest_17 : decode cX10_digest 17 = .ok (.aload_n 0, 1) := by decide +kernel
theorem dX10_digest_18 : decode cX10_digest 18 = .ok (.getfield 91, 3) := by decide +kernel
theorem dX10_digest_21 : decode cX10_digest 21 = .ok (.i2l, 1) := by decide +kernel
theorem dX10_digest_22 : decode cX10_digest 22 = .ok (.ladd, 1) := by decide +kernel
theorem dX10_digest_23 : decode cX10_digest 23 = .ok (.lmul, 1) := by decide +kernel
theorem dX10_digest_24 : decode cX10_digest 24 = .ok (.aload_n 0, 1) := by decide +kernel
theorem dX10_digest_25 : decode cX10_digest 25 = .ok (.getfield 95, 3) := by decide +kernel
theorem dX10_digest_28 : decode cX10_digest 28 = .ok (.i2l, 1) := by decide +kernel
theorem dX10_digest_29 : decode cX10_digest 29 = .ok (.ladd, 1) := by decide +kernel
theorem dX10_digest_30 : decode cX10_digest 30 = .ok (.lreturn, 1) := by decide +kernel
theorem dX10_isPlace_0 : decode cX10_isPlace 0 = .ok (.aload_n 0, 1) := by decide +kernel
theorem dX10_isPlace_1 : decode cX10_isPlace 1 = .ok (.getfield 10, 3) := by decide +kernel
theorem dX10_isPlace_4 : decode cX10_isPlace 4 = .ok (.getfield 46, 3) := by decide +kernel
theorem dX10_isPlace_7 : decode cX10_isPlace 7 = .ok (.iload_n 1, 1) := by decide +kernel
theorem dX10_isPlace_8 : decode cX10_isPlace 8 = .ok (.invokevirtual 220, 3) := by decide +kernel
theorem dX10_isPlace_11 : decode cX10_isPlace 11 = .ok (.ifCond .eq 14, 3) := by decide +kernel
theorem dX10_isPlace_14 : decode cX10_isPlace 14 = .ok (.iload_n 2, 1) := by decide +kernel
theorem dX10_isPlace_15 : decode cX10_isPlace 15 = .ok (.invokestatic 112, 3) := by decide +kernel
theorem dX10_isPlace_18 : decode cX10_isPlace 18 = .ok (.ifCond .eq 7, 3) := by decide +kernel
theorem dX10_isPlace_21 : decode cX10_isPlace 21 = .ok (.iconst 1, 1) := by decide +kernel
theorem dX10_isPlace_22 : decode cX10_isPlace 22 = .ok (.goto 4, 3) := by decide +kernel
theorem dX10_isPlace_25 : decode cX10_isPlace 25 = .ok (.iconst 0, 1) := by decide +kernel
theorem dX10_isPlace_26 : decode cX10_isPlace 26 = .ok (.ireturn, 1) := by decide +kernel
theorem dX10_refuse_0 : decode cX10_refuse 0 = .ok (.aload_n 0, 1) := by decide +kernel
theorem dX10_refuse_1 : decode cX10_refuse 1 = .ok (.iload_n 1, 1) := by decide +kernel
theorem dX10_refuse_2 : decode cX10_refuse 2 = .ok (.iload_n 1, 1) := by decide +kernel
theorem dX10_refuse_3 : decode cX10_refuse 3 = .ok (.invokevirtual 170, 3) := by decide +kernel
theorem dX10_refuse_6 : decode cX10_refuse 6 = .ok (.ireturn, 1) := by decide +kernel
theorem dX10_refuseAs_0 : decode cX10_refuseAs 0 = .ok (.iload_n 1, 1) := by decide +kernel
theorem dX10_refuseAs_1 : decode cX10_refuseAs 1 = .ok (.bipush (-2), 2) := by decide +kernel
theorem dX10_refuseAs_3 : decode cX10_refuseAs 3 = .ok (.if_icmp .ne 16, 3) := by decide +kernel
theorem dX10_refuseAs_6 : decode cX10_refuseAs 6 = .ok (.aload_n 0, 1) := by decide +kernel
theorem dX10_refuseAs_7 : decode cX10_refuseAs 7 = .ok (.dup, 1) := by decide +kernel
theorem dX10_refuseAs_8 : decode cX10_refuseAs 8 = .ok (.getfield 270, 3) := by decide +kernel
theorem dX10_refuseAs_11 : decode cX10_refuseAs 11 = .ok (.iconst 1, 1) := by decide +kernel
theorem dX10_refuseAs_12 : decode cX10_refuseAs 12 = .ok (.iadd, 1) := by decide +kernel
theorem dX10_refuseAs_13 : decode cX10_refuseAs 13 = .ok (.putfield 270, 3) := by decide +kernel
theorem dX10_refuseAs_16 : decode cX10_refuseAs 16 = .ok (.goto 32, 3) := by decide +kernel
theorem dX10_refuseAs_19 : decode cX10_refuseAs 19 = .ok (.iload_n 1, 1) := by decide +kernel
theorem dX10_refuseAs_20 : decode cX10_refuseAs 20 = .ok (.bipush (-3), 2) := by decide +kernel
theorem dX10_refuseAs_22 : decode cX10_refuseAs 22 = .ok (.if_icmp .ne 16, 3) := by decide +kernel
theorem dX10_refuseAs_25 : decode cX10_refuseAs 25 = .ok (.aload_n 0, 1) := by decide +kernel
theorem dX10_refuseAs_26 : decode cX10_refuseAs 26 = .ok (.dup, 1) := by decide +kernel
theorem dX10_refuseAs_27 : decode cX10_refuseAs 27 = .ok (.getfield 273, 3) := by decide +kernel
theorem dX10_refuseAs_30 : decode cX10_refuseAs 30 = .ok (.iconst 1, 1) := by decide +kernel
theorem dX10_refuseAs_31 : decode cX10_refuseAs 31 = .ok (.iadd, 1) := by decide +kernel
theorem dX10_refuseAs_32 : decode cX10_refuseAs 32 = .ok (.putfield 273, 3) := by decide +kernel
theorem dX10_refuseAs_35 : decode cX10_refuseAs 35 = .ok (.goto 13, 3) := by decide +kernel
theorem dX10_refuseAs_38 : decode cX10_refuseAs 38 = .ok (.aload_n 0, 1) := by decide +kernel
theorem dX10_refuseAs_39 : decode cX10_refuseAs 39 = .ok (.dup, 1) := by decide +kernel
theorem dX10_refuseAs_40 : decode cX10_refuseAs 40 = .ok (.getfield 276, 3) := by decide +kernel
theorem dX10_refuseAs_43 : decode cX10_refuseAs 43 = .ok (.iconst 1, 1) := by decide +kernel
theorem dX10_refuseAs_44 : decode cX10_refuseAs 44 = .ok (.iadd, 1) := by decide +kernel
theorem dX10_refuseAs_45 : decode cX10_refuseAs 45 = .ok (.putfield 276, 3) := by decide +kernel
theorem dX10_refuseAs_48 : decode cX10_refuseAs 48 = .ok (.iload_n 2, 1) := by decide +kernel
theorem dX10_refuseAs_49 : decode cX10_refuseAs 49 = .ok (.ireturn, 1) := by decide +kernel
theorem dX10_setFraction_0 : decode cX10_setFraction 0 = .ok (.iload_n 2, 1) := by decide +kernel
theorem dX10_setFraction_1 : decode cX10_setFraction 1 = .ok (.istore_n 3, 1) := by decide +kernel
theorem dX10_setFraction_2 : decode cX10_setFraction 2 = .ok (.iload_n 1, 1) := by decide +kernel
theorem dX10_setFraction_3 : decode cX10_setFraction 3 = .ok (.istore 4, 2) := by decide +kernel
theorem dX10_setFraction_5 : decode cX10_setFraction 5 = .ok (.iconst 0, 1) := by decide +kernel
theorem dX10_setFraction_6 : decode cX10_setFraction 6 = .ok (.istore 5, 2) := by decide +kernel
theorem dX10_setFraction_8 : decode cX10_setFraction 8 = .ok (.iload 5, 2) := by decide +kernel
theorem dX10_setFraction_10 : decode cX10_setFraction 10 = .ok (.bipush 64, 2) := by decide +kernel
theorem dX10_setFraction_12 : decode cX10_setFraction 12 = .ok (.if_icmp .ge 27, 3) := by decide +kernel
theorem dX10_setFraction_15 : decode cX10_setFraction 15 = .ok (.iload 4, 2) := by decide +kernel
theorem dX10_setFraction_17 : decode cX10_setFraction 17 = .ok (.ifCond .eq 22, 3) := by decide +kernel
theorem dX10_setFraction_20 : decode cX10_setFraction 20 = .ok (.iload_n 3, 1) := by decide +kernel
theorem dX10_setFraction_21 : decode cX10_setFraction 21 = .ok (.iload 4, 2) := by decide +kernel
theorem dX10_setFraction_23 : decode cX10_setFraction 23 = .ok (.irem, 1) := by decide +kernel
theorem dX10_setFraction_24 : decode cX10_setFraction 24 = .ok (.istore 6, 2) := by decide +kernel
theorem dX10_setFraction_26 : decode cX10_setFraction 26 = .ok (.iload 4, 2) := by decide +kernel
theorem dX10_setFraction_28 : decode cX10_setFraction 28 = .ok (.istore_n 3, 1) := by decide +kernel
theorem dX10_setFraction_29 : decode cX10_setFraction 29 = .ok (.iload 6, 2) := by decide +kernel
theorem dX10_setFraction_31 : decode cX10_setFraction 31 = .ok (.istore 4, 2) := by decide +kernel
theorem dX10_setFraction_33 : decode cX10_setFraction 33 = .ok (.iinc 5 1, 3) := by decide +kernel
theorem dX10_setFraction_36 : decode cX10_setFraction 36 = .ok (.goto (-28), 3) := by decide +kernel
theorem dX10_setFraction_39 : decode cX10_setFraction 39 = .ok (.iload_n 3, 1) := by decide +kernel
theorem dX10_setFraction_40 : decode cX10_setFraction 40 = .ok (.ifCond .le 17, 3) := by decide +kernel
theorem dX10_setFraction_43 : decode cX10_setFraction 43 = .ok (.aload_n 0, 1) := by decide +kernel
theorem dX10_setFraction_44 : decode cX10_setFraction 44 = .ok (.iload_n 1, 1) := by decide +kernel
theorem dX10_setFraction_45 : decode cX10_setFraction 45 = .ok (.iload_n 3, 1) := by decide +kernel
theorem dX10_setFraction_46 : decode cX10_setFraction 46 = .ok (.idiv, 1) := by decide +kernel
theorem dX10_setFraction_47 : decode cX10_setFraction 47 = .ok (.putfield 91, 3) := by decide +kernel
theorem dX10_setFraction_50 : decode cX10_setFraction 50 = .ok (.aload_n 0, 1) := by decide +kernel
theorem dX10_setFraction_51 : decode cX10_setFraction 51 = .ok (.iload_n 2, 1) := by decide +kernel
theorem dX10_setFraction_52 : decode cX10_setFraction 52 = .ok (.iload_n 3, 1) := by decide +kernel
theorem dX10_setFraction_53 : decode cX10_setFraction 53 = .ok (.idiv, 1) := by decide +kernel
theorem dX10_setFraction_54 : decode cX10_setFraction 54 = .ok (.putfield 95, 3) := by decide +kernel
theorem dX10_setFraction_57 : decode cX10_setFraction 57 = .ok (.return_, 1) := by decide +kernel
theorem dX11_init_0 : decode cX11_init 0 = .ok (.aload_n 0, 1) := by decide +kernel
theorem dX11_init_1 : decode cX11_init 1 = .ok (.invokespecial 1, 3) := by decide +kernel
theorem dX11_init_4 : decode cX11_init 4 = .ok (.aload_n 0, 1) := by decide +kernel
theorem dX11_init_5 : decode cX11_init 5 = .ok (.sipush 277, 3) := by decide +kernel
theorem dX11_init_8 : decode cX11_init 8 = .ok (.newarray .int, 2) := by decide +kernel
theorem dX11_init_10 : decode cX11_init 10 = .ok (.putfield 7, 3) := by decide +kernel
theorem dX11_init_13 : decode cX11_init 13 = .ok (.aload_n 0, 1) := by decide +kernel
theorem dX11_init_14 : decode cX11_init 14 = .ok (.sipush 277, 3) := by decide +kernel
theorem dX11_init_17 : decode cX11_init 17 = .ok (.newarray .int, 2) := by decide +kernel
theorem dX11_init_19 : decode cX11_init 19 = .ok (.putfield 13, 3) := by decide +kernel
theorem dX11_init_22 : decode cX11_init 22 = .ok (.aload_n 0, 1) := by decide +kernel
theorem dX11_init_23 : decode cX11_init 23 = .ok (.sipush 277, 3) := by decide +kernel
theorem dX11_init_26 : decode cX11_init 26 = .ok (.newarray .int, 2) := by decide +kernel
theorem dX11_init_28 : decode cX11_init 28 = .ok (.putfield 16, 3) := by decide +kernel
theorem dX11_init_31 : decode cX11_init 31 = .ok (.aload_n 0, 1) := by decide +kernel
theorem dX11_init_32 : decode cX11_init 32 = .ok (.lconst 1, 1) := by decide +kernel
theorem dX11_init_33 : decode cX11_init 33 = .ok (.putfield 19, 3) := by decide +kernel
theorem dX11_init_36 : decode cX11_init 36 = .ok (.aload_n 0, 1) := by decide +kernel
theorem dX11_init_37 : decode cX11_init 37 = .ok (.iconst 3, 1) := by decide +kernel
theorem dX11_init_38 : decode cX11_init 38 = .ok (.newarray .int, 2) := by decide +kernel
theorem dX11_init_40 : decode cX11_init 40 = .ok (.putfield 23, 3) := by decide +kernel
theorem dX11_init_43 : decode cX11_init 43 = .ok (.aload_n 0, 1) := by decide +kernel
theorem dX11_init_44 : decode cX11_init 44 = .ok (.bipush 8, 2) := by decide +kernel
theorem dX11_init_46 : decode cX11_init 46 = .ok (.newarray .int, 2) := by decide +kernel
theorem dX11_init_48 : decode cX11_init 48 = .ok (.putfield 26, 3) := by decide +kernel
theorem dX11_init_51 : decode cX11_init 51 = .ok (.aload_n 0, 1) := by decide +kernel
theorem dX11_init_52 : decode cX11_init 52 = .ok (.bipush 8, 2) := by decide +kernel
theorem dX11_init_54 : decode cX11_init 54 = .ok (.newarray .int, 2) := by decide +kernel
theorem dX11_init_56 : decode cX11_init 56 = .ok (.putfield 29, 3) := by decide +kernel
theorem dX11_init_59 : decode cX11_init 59 = .ok (.aload_n 0, 1) := by decide +kernel
theorem dX11_init_60 : decode cX11_init 60 = .ok (.bipush 8, 2) := by decide +kernel
theorem dX11_init_62 : decode cX11_init 62 = .ok (.newarray .int, 2) := by decide +kernel
theorem dX11_init_64 : decode cX11_init 64 = .ok (.putfield 32, 3) := by decide +kernel
theorem dX11_init_67 : decode cX11_init 67 = .ok (.aload_n 0, 1) := by decide +kernel
theorem dX11_init_68 : decode cX11_init 68 = .ok (.bipush 37, 2) := by decide +kernel
theorem dX11_init_70 : decode cX11_init 70 = .ok (.newarray .int, 2) := by decide +kernel
theorem dX11_init_72 : decode cX11_init 72 = .ok (.putfield 35, 3) := by decide +kernel
theorem dX11_init_75 : decode cX11_init 75 = .ok (.aload_n 0, 1) := by decide +kernel
theorem dX11_init_76 : decode cX11_init 76 = .ok (.sipush 256, 3) := by decide +kernel
theorem dX11_init_79 : decode cX11_init 79 = .ok (.newarray .boolean, 2) := by decide +kernel
theorem dX11_init_81 : decode cX11_init 81 = .ok (.putfield 38, 3) := by decide +kernel
theorem dX11_init_84 : decode cX11_init 84 = .ok (.aload_n 0, 1) := by decide +kernel
theorem dX11_init_85 : decode cX11_init 85 = .ok (.sipush 256, 3) := by decide +kernel
theorem dX11_init_88 : decode cX11_init 88 = .ok (.newarray .int, 2) := by decide +kernel
theorem dX11_init_90 : decode cX11_init 90 = .ok (.putfield 42, 3) := by decide +kernel
theorem dX11_init_93 : decode cX11_init 93 = .ok (.aload_n 0, 1) := by decide +kernel
theorem dX11_init_94 : decode cX11_init 94 = .ok (.bipush 8, 2) := by decide +kernel
theorem dX11_init_96 : decode cX11_init 96 = .ok (.newarray .int, 2) := by decide +kernel
theorem dX11_init_98 : decode cX11_init 98 = .ok (.putfield 45, 3) := by decide +kernel
theorem dX11_init_101 : decode cX11_init 101 = .ok (.aload_n 0, 1) := by decide +kernel
theorem dX11_init_102 : decode cX11_init 102 = .ok (.bipush 8, 2) := by decide +kernel
theorem dX11_init_104 : decode cX11_init 104 = .ok (.newarray .int, 2) := by decide +kernel
theorem dX11_init_106 : decode cX11_init 106 = .ok (.putfield 48, 3) := by decide +kernel
theorem dX11_init_109 : decode cX11_init 109 = .ok (.aload_n 0, 1) := by decide +kernel
theorem dX11_init_110 : decode cX11_init 110 = .ok (.sipush 610, 3) := by decide +kernel
theorem dX11_init_113 : decode cX11_init 113 = .ok (.newarray .long, 2) := by decide +kernel
theorem dX11_init_115 : decode cX11_init 115 = .ok (.putfield 51, 3) := by decide +kernel
theorem dX11_init_118 : decode cX11_init 118 = .ok (.aload_n 0, 1) := by decide +kernel
theorem dX11_init_119 : decode cX11_init 119 = .ok (.sipush 610, 3) := by decide +kernel
theorem dX11_init_122 : decode cX11_init 122 = .ok (.newarray .long, 2) := by decide +kernel
theorem dX11_init_124 : decode cX11_init 124 = .ok (.putfield 55, 3) := by decide +kernel
theorem dX11_init_127 : decode cX11_init 127 = .ok (.return_, 1) := by decide +kernel
theorem dX11_in_0 : decode cX11_in 0 = .ok (.lload_n 0, 1) := by decide +kernel
theorem dX11_in_1 : decode cX11_in 1 = .ok (.lload_n 2, 1) := by decide +kernel
theorem dX11_in_2 : decode cX11_in 2 = .ok (.lcmp, 1) := by decide +kernel
theorem dX11_in_3 : decode cX11_in 3 = .ok (.ifCond .lt 14, 3) := by decide +kernel
theorem dX11_in_6 : decode cX11_in 6 = .ok (.lload_n 0, 1) := by decide +kernel
theorem dX11_in_7 : decode cX11_in 7 = .ok (.lload 4, 2) := by decide +kernel
theorem dX11_in_9 : decode cX11_in 9 = .ok (.lcmp, 1) := by decide +kernel
theorem dX11_in_10 : decode cX11_in 10 = .ok (.ifCond .gt 7, 3) := by decide +kernel
theorem dX11_in_13 : decode cX11_in 13 = .ok (.iconst 1, 1) := by decide +kernel
theorem dX11_in_14 : decode cX11_in 14 = .ok (.goto 4, 3) := by decide +kernel
theorem dX11_in_17 : decode cX11_in 17 = .ok (.iconst 0, 1) := by decide +kernel
theorem dX11_in_18 : decode cX11_in 18 = .ok (.ireturn, 1) := by decide +kernel
theorem dX11_has_0 : decode cX11_has 0 = .ok (.iload_n 0, 1) := by decide +kernel
theorem dX11_has_1 : decode cX11_has 1 = .ok (.iload_n 1, 1) := by decide +kernel
theorem dX11_has_2 : decode cX11_has 2 = .ok (.ishr, 1) := by decide +kernel
theorem dX11_has_3 : decode cX11_has 3 = .ok (.iconst 1, 1) := by decide +kernel
theorem dX11_has_4 : decode cX11_has 4 = .ok (.iand, 1) := by decide +kernel
theorem dX11_has_5 : decode cX11_has 5 = .ok (.iconst 1, 1) := by decide +kernel
theorem dX11_has_6 : decode cX11_has 6 = .ok (.if_icmp .ne 7, 3) := by decide +kernel
theorem dX11_has_9 : decode cX11_has 9 = .ok (.iconst 1, 1) := by decide +kernel
theorem dX11_has_10 : decode cX11_has 10 = .ok (.goto 4, 3) := by decide +kernel
theorem dX11_has_13 : decode cX11_has 13 = .ok (.iconst 0, 1) := by decide +kernel
theorem dX11_has_14 : decode cX11_has 14 = .ok (.ireturn, 1) := by decide +kernel
theorem dX11_bad_0 : decode cX11_bad 0 = .ok (.aload_n 0, 1) := by decide +kernel
theorem dX11_bad_1 : decode cX11_bad 1 = .ok (.getfield 23, 3) := by decide +kernel
theorem dX11_bad_4 : decode cX11_bad 4 = .ok (.iconst 0, 1) := by decide +kernel
theorem dX11_bad_5 : decode cX11_bad 5 = .ok (.dup2, 1) := by decide +kernel
theorem dX11_bad_6 : decode cX11_bad 6 = .ok (.iaload, 1) := by decide +kernel
theorem dX11_bad_7 : decode cX11_bad 7 = .ok (.iconst 1, 1) := by decide +kernel
theorem dX11_bad_8 : decode cX11_bad 8 = .ok (.iadd, 1) := by decide +kernel
theorem dX11_bad_9 : decode cX11_bad 9 = .ok (.iastore, 1) := by decide +kernel
theorem dX11_bad_10 : decode cX11_bad 10 = .ok (.iload_n 1, 1) := by decide +kernel
theorem dX11_bad_11 : decode cX11_bad 11 = .ok (.ireturn, 1) := by decide +kernel
theorem dX11_no_0 : decode cX11_no 0 = .ok (.aload_n 0, 1) := by decide +kernel
theorem dX11_no_1 : decode cX11_no 1 = .ok (.getfield 23, 3) := by decide +kernel
theorem dX11_no_4 : decode cX11_no 4 = .ok (.iconst 1, 1) := by decide +kernel
theorem dX11_no_5 : decode cX11_no 5 = .ok (.dup2, 1) := by decide +kernel
theorem dX11_no_6 : decode cX11_no 6 = .ok (.iaload, 1) := by decide +kernel
theorem dX11_no_7 : decode cX11_no 7 = .ok (.iconst 1, 1) := by decide +kernel
theorem dX11_no_8 : decode cX11_no 8 = .ok (.iadd, 1) := by decide +kernel
theorem dX11_no_9 : decode cX11_no 9 = .ok (.iastore, 1) := by decide +kernel
theorem dX11_no_10 : decode cX11_no 10 = .ok (.bipush (-3), 2) := by decide +kernel
theorem dX11_no_12 : decode cX11_no 12 = .ok (.ireturn, 1) := by decide +kernel
theorem dX11_full_0 : decode cX11_full 0 = .ok (.aload_n 0, 1) := by decide +kernel
theorem dX11_full_1 : decode cX11_full 1 = .ok (.getfield 23, 3) := by decide +kernel
theorem dX11_full_4 : decode cX11_full 4 = .ok (.iconst 2, 1) := by decide +kernel
theorem dX11_full_5 : decode cX11_full 5 = .ok (.dup2, 1) := by decide +kernel
theorem dX11_full_6 : decode cX11_full 6 = .ok (.iaload, 1) := by decide +kernel
theorem dX11_full_7 : decode cX11_full 7 = .ok (.iconst 1, 1) := by decide +kernel
theorem dX11_full_8 : decode cX11_full 8 = .ok (.iadd, 1) := by decide +kernel
theorem dX11_full_9 : decode cX11_full 9 = .ok (.iastore, 1) := by decide +kernel
theorem dX11_full_10 : decode cX11_full 10 = .ok (.bipush (-4), 2) := by decide +kernel
theorem dX11_full_12 : decode cX11_full 12 = .ok (.ireturn, 1) := by decide +kernel
theorem dX11_isLeap_0 : decode cX11_isLeap 0 = .ok (.iload_n 0, 1) := by decide +kernel
theorem dX11_isLeap_1 : decode cX11_isLeap 1 = .ok (.iconst 4, 1) := by decide +kernel
theorem dX11_isLeap_2 : decode cX11_isLeap 2 = .ok (.irem, 1) := by decide +kernel
theorem dX11_isLeap_3 : decode cX11_isLeap 3 = .ok (.ifCond .ne 22, 3) := by decide +kernel
theorem dX11_isLeap_6 : decode cX11_isLeap 6 = .ok (.iload_n 0, 1) := by decide +kernel
theorem dX11_isLeap_7 : decode cX11_isLeap 7 = .ok (.bipush 100, 2) := by decide +kernel
theorem dX11_isLeap_9 : decode cX11_isLeap 9 = .ok (.irem, 1) := by decide +kernel
theorem dX11_isLeap_10 : decode cX11_isLeap 10 = .ok (.ifCond .ne 11, 3) := by decide +kernel
theorem dX11_isLeap_13 : decode cX11_isLeap 13 = .ok (.iload_n 0, 1) := by decide +kernel
theorem dX11_isLeap_14 : decode cX11_isLeap 14 = .ok (.sipush 400, 3) := by decide +kernel
theorem dX11_isLeap_17 : decode cX11_isLeap 17 = .ok (.irem, 1) := by decide +kernel
theorem dX11_isLeap_18 : decode cX11_isLeap 18 = .ok (.ifCond .ne 7, 3) := by decide +kernel
theorem dX11_isLeap_21 : decode cX11_isLeap 21 = .ok (.iconst 1, 1) := by decide +kernel
theorem dX11_isLeap_22 : decode cX11_isLeap 22 = .ok (.goto 4, 3) := by decide +kernel
theorem dX11_isLeap_25 : decode cX11_isLeap 25 = .ok (.iconst 0, 1) := by decide +kernel
theorem dX11_isLeap_26 : decode cX11_isLeap 26 = .ok (.ireturn, 1) := by decide +kernel
theorem dX11_monthLong_0 : decode cX11_monthLong 0 = .ok (.iload_n 1, 1) := by decide +kernel
theorem dX11_monthLong_1 : decode cX11_monthLong 1 = .ok (.iconst 2, 1) := by decide +kernel
theorem dX11_monthLong_2 : decode cX11_monthLong 2 = .ok (.if_icmp .ne 18, 3) := by decide +kernel
theorem dX11_monthLong_5 : decode cX11_monthLong 5 = .ok (.iload_n 0, 1) := by decide +kernel
theorem dX11_monthLong_6 : decode cX11_monthLong 6 = .ok (.invokestatic 58, 3) := by decide +kernel
theorem dX11_monthLong_9 : decode cX11_monthLong 9 = .ok (.ifCond .eq 8, 3) := by decide +kernel
theorem dX11_monthLong_12 : decode cX11_monthLong 12 = .ok (.bipush 29, 2) := by decide +kernel
theorem dX11_monthLong_14 : decode cX11_monthLong 14 = .ok (.goto 5, 3) := by decide +kernel
theorem dX11_monthLong_17 : decode cX11_monthLong 17 = .ok (.bipush 28, 2) := by decide +kernel
theorem dX11_monthLong_19 : decode cX11_monthLong 19 = .ok (.ireturn, 1) := by decide +kernel
theorem dX11_monthLong_20 : decode cX11_monthLong 20 = .ok (.iload_n 1, 1) := by decide +kernel
theorem dX11_monthLong_21 : decode cX11_monthLong 21 = .ok (.iconst 4, 1) := by decide +kernel
theorem dX11_monthLong_22 : decode cX11_monthLong 22 = .ok (.if_icmp .eq 21, 3) := by decide +kernel
theorem dX11_monthLong_25 : decode cX11_monthLong 25 = .ok (.iload_n 1, 1) := by decide +kernel
theorem dX11_monthLong_26 : decode cX11_monthLong 26 = .ok (.bipush 6, 2) := by decide +kernel
theorem dX11_monthLong_28 : decode cX11_monthLong 28 = .ok (.if_icmp .eq 15, 3) := by decide +kernel
theorem dX11_monthLong_31 : decode cX11_monthLong 31 = .ok (.iload_n 1, 1) := by decide +kernel
theorem dX11_monthLong_32 : decode cX11_monthLong 32 = .ok (.bipush 9, 2) := by decide +kernel
theorem dX11_monthLong_34 : decode cX11_monthLong 34 = .ok (.if_icmp .eq 9, 3) := by decide +kernel
theorem dX11_monthLong_37 : decode cX11_monthLong 37 = .ok (.iload_n 1, 1) := by decide +kernel
theorem dX11_monthLong_38 : decode cX11_monthLong 38 = .ok (.bipush 11, 2) := by decide +kernel
theorem dX11_monthLong_40 : decode cX11_monthLong 40 = .ok (.if_icmp .ne 8, 3) := by decide +kernel
theorem dX11_monthLong_43 : decode cX11_monthLong 43 = .ok (.bipush 30, 2) := by decide +kernel
theorem dX11_monthLong_45 : decode cX11_monthLong 45 = .ok (.goto 5, 3) := by decide +kernel
theorem dX11_monthLong_48 : decode cX11_monthLong 48 = .ok (.bipush 31, 2) := by decide +kernel
theorem dX11_monthLong_50 : decode cX11_monthLong 50 = .ok (.ireturn, 1) := by decide +kernel
theorem dX11_isDate_0 : decode cX11_isDate 0 = .ok (.iload_n 0, 1) := by decide +kernel
theorem dX11_isDate_1 : decode cX11_isDate 1 = .ok (.i2l, 1) := by decide +kernel
theorem dX11_isDate_2 : decode cX11_isDate 2 = .ok (.ldc2_w 62, 3) := by decide +kernel
theorem dX11_isDate_5 : decode cX11_isDate 5 = .ok (.ldc2_w 64, 3) := by decide +kernel
theorem dX11_isDate_8 : decode cX11_isDate 8 = .ok (.invokestatic 66, 3) := by decide +kernel
theorem dX11_isDate_11 : decode cX11_isDate 11 = .ok (.ifCond .eq 33, 3) := by decide +kernel
theorem dX11_isDate_14 : decode cX11_isDate 14 = .ok (.iload_n 1, 1) := by decide +kernel
theorem dX11_isDate_15 : decode cX11_isDate 15 = .ok (.i2l, 1) := by decide +kernel
theorem dX11_isDate_16 : decode cX11_isDate 16 = .ok (.lconst 1, 1) := by decide +kernel
theorem dX11_isDate_17 : decode cX11_isDate 17 = .ok (.ldc2_w 70, 3) := by decide +kernel
theorem dX11_isDate_20 : decode cX11_isDate 20 = .ok (.invokestatic 66, 3) := by decide +kernel
theorem dX11_isDate_23 : decode cX11_isDate 23 = .ok (.ifCond .eq 21, 3) := by decide +kernel
theorem dX11_isDate_26 : decode cX11_isDate 26 = .ok (.iload_n 2, 1) := by decide +kernel
theorem dX11_isDate_27 : decode cX11_isDate 27 = .ok (.iconst 1, 1) := by decide +kernel
theorem dX11_isDate_28 : decode cX11_isDate 28 = .ok (.if_icmp .lt 16, 3) := by decide +kernel
theorem dX11_isDate_31 : decode cX11_isDate 31 = .ok (.iload_n 2, 1) := by decide +kernel
theorem dX11_isDate_32 : decode cX11_isDate 32 = .ok (.iload_n 0, 1) := by decide +kernel
theorem dX11_isDate_33 : decode cX11_isDate 33 = .ok (.iload_n 1, 1) := by decide +kernel
theorem dX11_isDate_34 : decode cX11_isDate 34 = .ok (.invokestatic 72, 3) := by decide +kernel
theorem dX11_isDate_37 : decode cX11_isDate 37 = .ok (.if_icmp .gt 7, 3) := by decide +kernel
theorem dX11_isDate_40 : decode cX11_isDate 40 = .ok (.iconst 1, 1) := by decide +kernel
theorem dX11_isDate_41 : decode cX11_isDate 41 = .ok (.goto 4, 3) := by decide +kernel
theorem dX11_isDate_44 : decode cX11_isDate 44 = .ok (.iconst 0, 1) := by decide +kernel
theorem dX11_isDate_45 : decode cX11_isDate 45 = .ok (.ireturn, 1) := by decide +kernel
theorem dX11_yearBegin_0 : decode cX11_yearBegin 0 = .ok (.iload_n 0, 1) := by decide +kernel
theorem dX11_yearBegin_1 : decode cX11_yearBegin 1 = .ok (.iconst 1, 1) := by decide +kernel
theorem dX11_yearBegin_2 : decode cX11_yearBegin 2 = .ok (.isub, 1) := by decide +kernel
theorem dX11_yearBegin_3 : decode cX11_yearBegin 3 = .ok (.istore_n 1, 1) := by decide +kernel
theorem dX11_yearBegin_4 : decode cX11_yearBegin 4 = .ok (.iload_n 1, 1) := by decide +kernel
theorem dX11_yearBegin_5 : decode cX11_yearBegin 5 = .ok (.iconst 4, 1) := by decide +kernel
theorem dX11_yearBegin_6 : decode cX11_yearBegin 6 = .ok (.idiv, 1) := by decide +kernel
theorem dX11_yearBegin_7 : decode cX11_yearBegin 7 = .ok (.iload_n 1, 1) := by decide +kernel
theorem dX11_yearBegin_8 : decode cX11_yearBegin 8 = .ok (.bipush 100, 2) := by decide +kernel
theorem dX11_yearBegin_10 : decode cX11_yearBegin 10 = .ok (.idiv, 1) := by decide +kernel
theorem dX11_yearBegin_11 : decode cX11_yearBegin 11 = .ok (.isub, 1) := by decide +kernel
theorem dX11_yearBegin_12 : decode cX11_yearBegin 12 = .ok (.iload_n 1, 1) := by decide +kernel
theorem dX11_yearBegin_13 : decode cX11_yearBegin 13 = .ok (.sipush 400, 3) := by decide +kernel
theorem dX11_yearBegin_16 : decode cX11_yearBegin 16 = .ok (.idiv, 1) := by decide +kernel
theorem dX11_yearBegin_17 : decode cX11_yearBegin 17 = .ok (.iadd, 1) := by decide +kernel
theorem dX11_yearBegin_18 : decode cX11_yearBegin 18 = .ok (.sipush 436, 3) := by decide +kernel
theorem dX11_yearBegin_21 : decode cX11_yearBegin 21 = .ok (.isub, 1) := by decide +kernel
theorem dX11_yearBegin_22 : decode cX11_yearBegin 22 = .ok (.istore_n 2, 1) := by decide +kernel
theorem dX11_yearBegin_23 : decode cX11_yearBegin 23 = .ok (.sipush 365, 3) := by decide +kernel
theorem dX11_yearBegin_26 : decode cX11_yearBegin 26 = .ok (.iload_n 0, 1) := by decide +kernel
theorem dX11_yearBegin_27 : decode cX11_yearBegin 27 = .ok (.sipush 1800, 3) := by decide +kernel
theorem dX11_yearBegin_30 : decode cX11_yearBegin 30 = .ok (.isub, 1) := by decide +kernel
theorem dX11_yearBegin_31 : decode cX11_yearBegin 31 = .ok (.imul, 1) := by decide +kernel
theorem dX11_yearBegin_32 : decode cX11_yearBegin 32 = .ok (.iload_n 2, 1) := by decide +kernel
theorem dX11_yearBegin_33 : decode cX11_yearBegin 33 = .ok (.iadd, 1) := by decide +kernel
theorem dX11_yearBegin_34 : decode cX11_yearBegin 34 = .ok (.ireturn, 1) := by decide +kernel
theorem dX11_numberOf_0 : decode cX11_numberOf 0 = .ok (.iload_n 0, 1) := by decide +kernel
theorem dX11_numberOf_1 : decode cX11_numberOf 1 = .ok (.invokestatic 76, 3) := by decide +kernel
theorem dX11_numberOf_4 : decode cX11_numberOf 4 = .ok (.istore_n 3, 1) := by decide +kernel
theorem dX11_numberOf_5 : decode cX11_numberOf 5 = .ok (.iconst 1, 1) := by decide +kernel
theorem dX11_numberOf_6 : decode cX11_numberOf 6 = .ok (.istore 4, 2) := by decide +kernel
theorem dX11_numberOf_8 : decode cX11_numberOf 8 = .ok (.iload 4, 2) := by decide +kernel
theorem dX11_numberOf_10 : decode cX11_numberOf 10 = .ok (.iload_n 1, 1) := by decide +kernel
theorem dX11_numberOf_11 : decode cX11_numberOf 11 = .ok (.if_icmp .ge 18, 3) := by decide +kernel
theorem dX11_numberOf_14 : decode cX11_numberOf 14 = .ok (.iload_n 3, 1) := by decide +kernel
theorem dX11_numberOf_15 : decode cX11_numberOf 15 = .ok (.iload_n 0, 1) := by decide +kernel
theorem dX11_numberOf_16 : decode cX11_numberOf 16 = .ok (.iload 4, 2) := by decide +kernel
theorem dX11_numberOf_18 : decode cX11_numberOf 18 = .ok (.invokestatic 72, 3) := by decide +kernel
theorem dX11_numberOf_21 : decode cX11_numberOf 21 = .ok (.iadd, 1) := by decide +kernel
theorem dX11_numberOf_22 : decode cX11_numberOf 22 = .ok (.istore_n 3, 1) := by decide +kernel
theorem dX11_numberOf_23 : decode cX11_numberOf 23 = .ok (.iinc 4 1, 3) := by decide +kernel
theorem dX11_numberOf_26 : decode cX11_numberOf 26 = .ok (.goto (-18), 3) := by decide +kernel
theorem dX11_numberOf_29 : decode cX11_numberOf 29 = .ok (.iload_n 3, 1) := by decide +kernel
theorem dX11_numberOf_30 : decode cX11_numberOf 30 = .ok (.iload_n 2, 1) := by decide +kernel
theorem dX11_numberOf_31 : decode cX11_numberOf 31 = .ok (.iadd, 1) := by decide +kernel
theorem dX11_numberOf_32 : decode cX11_numberOf 32 = .ok (.iconst 1, 1) := by decide +kernel
theorem dX11_numberOf_33 : decode cX11_numberOf 33 = .ok (.isub, 1) := by decide +kernel
theorem dX11_numberOf_34 : decode cX11_numberOf 34 = .ok (.ireturn, 1) := by decide +kernel
theorem dX11_yearOf_0 : decode cX11_yearOf 0 = .ok (.sipush 1800, 3) := by decide +kernel
theorem dX11_yearOf_3 : decode cX11_yearOf 3 = .ok (.iload_n 0, 1) := by decide +kernel
theorem dX11_yearOf_4 : decode cX11_yearOf 4 = .ok (.sipush 366, 3) := by decide +kernel
theorem dX11_yearOf_7 : decode cX11_yearOf 7 = .ok (.idiv, 1) := by decide +kernel
theorem dX11_yearOf_8 : decode cX11_yearOf 8 = .ok (.iadd, 1) := by decide +kernel
theorem dX11_yearOf_9 : decode cX11_yearOf 9 = .ok (.istore_n 1, 1) := by decide +kernel
theorem dX11_yearOf_10 : decode cX11_yearOf 10 = .ok (.iload_n 1, 1) := by decide +kernel
theorem dX11_yearOf_11 : decode cX11_yearOf 11 = .ok (.sipush 2199, 3) := by decide +kernel
theorem dX11_yearOf_14 : decode cX11_yearOf 14 = .ok (.if_icmp .ge 19, 3) := by decide +kernel
theorem dX11_yearOf_17 : decode cX11_yearOf 17 = .ok (.iload_n 1, 1) := by decide +kernel
theorem dX11_yearOf_18 : decode cX11_yearOf 18 = .ok (.iconst 1, 1) := by decide +kernel
theorem dX11_yearOf_19 : decode cX11_yearOf 19 = .ok (.iadd, 1) := by decide +kernel
theorem dX11_yearOf_20 : decode cX11_yearOf 20 = .ok (.invokestatic 76, 3) := by decide +kernel
theorem dX11_yearOf_23 : decode cX11_yearOf 23 = .ok (.iload_n 0, 1) := by decide +kernel
theorem dX11_yearOf_24 : decode cX11_yearOf 24 = .ok (.if_icmp .gt 9, 3) := by decide +kernel
theorem dX11_yearOf_27 : decode cX11_yearOf 27 = .ok (.iinc 1 1, 3) := by decide +kernel
theorem dX11_yearOf_30 : decode cX11_yearOf 30 = .ok (.goto (-20), 3) := by decide +kernel
theorem dX11_yearOf_33 : decode cX11_yearOf 33 = .ok (.iload_n 1, 1) := by decide +kernel
theorem dX11_yearOf_34 : decode cX11_yearOf 34 = .ok (.ireturn, 1) := by decide +kernel
theorem dX11_takeApart_0 : decode cX11_takeApart 0 = .ok (.aload_n 0, 1) := by decide +kernel
theorem dX11_takeApart_1 : decode cX11_takeApart 1 = .ok (.iload_n 1, 1) := by decide +kernel
theorem dX11_takeApart_2 : decode cX11_takeApart 2 = .ok (.invokestatic 80, 3) := by decide +kernel
theorem dX11_takeApart_5 : decode cX11_takeApart 5 = .ok (.putfield 83, 3) := by decide +kernel
theorem dX11_takeApart_8 : decode cX11_takeApart 8 = .ok (.iload_n 1, 1) := by decide +kernel
theorem dX11_takeApart_9 : decode cX11_takeApart 9 = .ok (.aload_n 0, 1) := by decide +kernel
theorem dX11_takeApart_10 : decode cX11_takeApart 10 = .ok (.getfield 83, 3) := by decide +kernel
theorem dX11_takeApart_13 : decode cX11_takeApart 13 = .ok (.invokestatic 76, 3) := by decide +kernel
theorem dX11_takeApart_16 : decode cX11_takeApart 16 = .ok (.isub, 1) := by decide +kernel
theorem dX11_takeApart_17 : decode cX11_takeApart 17 = .ok (.istore_n 2, 1) := by decide +kernel
theorem dX11_takeApart_18 : decode cX11_takeApart 18 = .ok (.aload_n 0, 1) := by decide +kernel
theorem dX11_takeApart_19 : decode cX11_takeApart 19 = .ok (.iconst 1, 1) := by decide +kernel
theorem dX11_takeApart_20 : decode cX11_takeApart 20 = .ok (.putfield 87, 3) := by decide +kernel
theorem dX11_takeApart_23 : decode cX11_takeApart 23 = .ok (.iload_n 2, 1) := by decide +kernel
theorem dX11_takeApart_24 : decode cX11_takeApart 24 = .ok (.aload_n 0, 1) := by decide +kernel
theorem dX11_takeApart_25 : decode cX11_takeApart 25 = .ok (.getfield 83, 3) := by decide +kernel
theorem dX11_takeApart_28 : decode cX11_takeApart 28 = .ok (.aload_n 0, 1) := by decide +kernel
theorem dX11_takeApart_29 : decode cX11_takeApart 29 = .ok (.getfield 87, 3) := by decide +kernel
theorem dX11_takeApart_32 : decode cX11_takeApart 32 = .ok (.invokestatic 72, 3) := by decide +kernel
theorem dX11_takeApart_35 : decode cX11_takeApart 35 = .ok (.if_icmp .lt 30, 3) := by decide +kernel
theorem dX11_takeApart_38 : decode cX11_takeApart 38 = .ok (.iload_n 2, 1) := by decide +kernel
theorem dX11_takeApart_39 : decode cX11_takeApart 39 = .ok (.aload_n 0, 1) := by decide +kernel
theorem dX11_takeApart_40 : decode cX11_takeApart 40 = .ok (.getfield 83, 3) := by decide +kernel
theorem dX11_takeApart_43 : decode cX11_takeApart 43 = .ok (.aload_n 0, 1) := by decide +kernel
theorem dX11_takeApart_44 : decode cX11_takeApart 44 = .ok (.getfield 87, 3) := by decide +kernel
theorem dX11_takeApart_47 : decode cX11_takeApart 47 = .ok (.invokestatic 72, 3) := by decide +kernel
theorem dX11_takeApart_50 : decode cX11_takeApart 50 = .ok (.isub, 1) := by decide +kernel
theorem dX11_takeApart_51 : decode cX11_takeApart 51 = .ok (.istore_n 2, 1) := by decide +kernel
theorem dX11_takeApart_52 : decode cX11_takeApart 52 = .ok (.aload_n 0, 1) := by decide +kernel
theorem dX11_takeApart_53 : decode cX11_takeApart 53 = .ok (.dup, 1) := by decide +kernel
theorem dX11_takeApart_54 : decode cX11_takeApart 54 = .ok (.getfield 87, 3) := by decide +kernel
theorem dX11_takeApart_57 : decode cX11_takeApart 57 = .ok (.iconst 1, 1) := by decide +kernel
theorem dX11_takeApart_58 : decode cX11_takeApart 58 = .ok (.iadd, 1) := by decide +kernel
theorem dX11_takeApart_59 : decode cX11_takeApart 59 = .ok (.putfield 87, 3) := by decide +kernel
theorem dX11_takeApart_62 : decode cX11_takeApart 62 = .ok (.goto (-39), 3) := by decide +kernel
theorem dX11_takeApart_65 : decode cX11_takeApart 65 = .ok (.aload_n 0, 1) := by decide +kernel
theorem dX11_takeApart_66 : decode cX11_takeApart 66 = .ok (.iload_n 2, 1) := by decide +kernel
theorem dX11_takeApart_67 : decode cX11_takeApart 67 = .ok (.iconst 1, 1) := by decide +kernel
theorem dX11_takeApart_68 : decode cX11_takeApart 68 = .ok (.iadd, 1) := by decide +kernel
theorem dX11_takeApart_69 : decode cX11_takeApart 69 = .ok (.putfield 90, 3) := by decide +kernel
theorem dX11_takeApart_72 : decode cX11_takeApart 72 = .ok (.return_, 1) := by decide +kernel
theorem dX11_isDay_0 : decode cX11_isDay 0 = .ok (.iload_n 0, 1) := by decide +kernel
theorem dX11_isDay_1 : decode cX11_isDay 1 = .ok (.i2l, 1) := by decide +kernel
theorem dX11_isDay_2 : decode cX11_isDay 2 = .ok (.lconst 0, 1) := by decide +kernel
theorem dX11_isDay_3 : decode cX11_isDay 3 = .ok (.ldc2_w 93, 3) := by decide +kernel
theorem dX11_isDay_6 : decode cX11_isDay 6 = .ok (.invokestatic 66, 3) := by decide +kernel
theorem dX11_isDay_9 : decode cX11_isDay 9 = .ok (.ireturn, 1) := by decide +kernel
theorem dX11_day_0 : decode cX11_day 0 = .ok (.iload_n 1, 1) := by decide +kernel
theorem dX11_day_1 : decode cX11_day 1 = .ok (.iload_n 2, 1) := by decide +kernel
theorem dX11_day_2 : decode cX11_day 2 = .ok (.iload_n 3, 1) := by decide +kernel
theorem dX11_day_3 : decode cX11_day 3 = .ok (.invokestatic 95, 3) := by decide +kernel
theorem dX11_day_6 : decode cX11_day 6 = .ok (.ifCond .eq 12, 3) := by decide +kernel
theorem dX11_day_9 : decode cX11_day 9 = .ok (.iload_n 1, 1) := by decide +kernel
theorem dX11_day_10 : decode cX11_day 10 = .ok (.iload_n 2, 1) := by decide +kernel
theorem dX11_day_11 : decode cX11_day 11 = .ok (.iload_n 3, 1) := by decide +kernel
theorem dX11_day_12 : decode cX11_day 12 = .ok (.invokestatic 99, 3) := by decide +kernel
theorem dX11_day_15 : decode cX11_day 15 = .ok (.goto 9, 3) := by decide +kernel
theorem dX11_day_18 : decode cX11_day 18 = .ok (.aload_n 0, 1) := by decide +kernel
theorem dX11_day_19 : decode cX11_day 19 = .ok (.bipush (-2), 2) := by decide +kernel
theorem dX11_day_21 : decode cX11_day 21 = .ok (.invokevirtual 103, 3) := by decide +kernel
theorem dX11_day_24 : decode cX11_day 24 = .ok (.ireturn, 1) := by decide +kernel
theorem dX11_date_0 : decode cX11_date 0 = .ok (.iload_n 1, 1) := by decide +kernel
theorem dX11_date_1 : decode cX11_date 1 = .ok (.invokestatic 106, 3) := by decide +kernel
theorem dX11_date_4 : decode cX11_date 4 = .ok (.ifCond .eq 15, 3) := by decide +kernel
theorem dX11_date_7 : decode cX11_date 7 = .ok (.iload_n 2, 1) := by decide +kernel
theorem dX11_date_8 : decode cX11_date 8 = .ok (.i2l, 1) := by decide +kernel
theorem dX11_date_9 : decode cX11_date 9 = .ok (.lconst 0, 1) := by decide +kernel
theorem dX11_date_10 : decode cX11_date 10 = .ok (.ldc2_w 109, 3) := by decide +kernel
theorem dX11_date_13 : decode cX11_date 13 = .ok (.invokestatic 66, 3) := by decide +kernel
theorem dX11_date_16 : decode cX11_date 16 = .ok (.ifCond .ne 10, 3) := by decide +kernel
theorem dX11_date_19 : decode cX11_date 19 = .ok (.aload_n 0, 1) := by decide +kernel
theorem dX11_date_20 : decode cX11_date 20 = .ok (.bipush (-2), 2) := by decide +kernel
theorem dX11_date_22 : decode cX11_date 22 = .ok (.invokevirtual 103, 3) := by decide +kernel
theorem dX11_date_25 : decode cX11_date 25 = .ok (.ireturn, 1) := by decide +kernel
theorem dX11_date_26 : decode cX11_date 26 = .ok (.aload_n 0, 1) := by decide +kernel
theorem dX11_date_27 : decode cX11_date 27 = .ok (.iload_n 1, 1) := by decide +kernel
theorem dX11_date_28 : decode cX11_date 28 = .ok (.invokevirtual 111, 3) := by decide +kernel
theorem dX11_date_31 : decode cX11_date 31 = .ok (.iload_n 2, 1) := by decide +kernel
theorem dX11_date_32 : decode cX11_date 32 = .ok (.ifCond .ne 10, 3) := by decide +kernel
theorem dX11_date_35 : decode cX11_date 35 = .ok (.aload_n 0, 1) := by decide +kernel
theorem dX11_date_36 : decode cX11_date 36 = .ok (.getfield 83, 3) := by decide +kernel
theorem dX11_date_39 : decode cX11_date 39 = .ok (.goto 19, 3) := by decide +kernel
theorem dX11_date_42 : decode cX11_date 42 = .ok (.iload_n 2, 1) := by decide +kernel
theorem dX11_date_43 : decode cX11_date 43 = .ok (.iconst 1, 1) := by decide +kernel
theorem dX11_date_44 : decode cX11_date 44 = .ok (.if_icmp .ne 10, 3) := by decide +kernel
theorem dX11_date_47 : decode cX11_date 47 = .ok (.aload_n 0, 1) := by decide +kernel
theorem dX11_date_48 : decode cX11_date 48 = .ok (.getfield 87, 3) := by decide +kernel
theorem dX11_date_51 : decode cX11_date 51 = .ok (.goto 7, 3) := by decide +kernel
theorem dX11_date_54 : decode cX11_date 54 = .ok (.aload_n 0, 1) := by decide +kernel
theorem dX11_date_55 : decode cX11_date 55 = .ok (.getfield 90, 3) := by decide +kernel
theorem dX11_date_58 : decode cX11_date 58 = .ok (.ireturn, 1) := by decide +kernel
theorem dX11_isPerson_0 : decode cX11_isPerson 0 = .ok (.iload_n 1, 1) := by decide +kernel
theorem dX11_isPerson_1 : decode cX11_isPerson 1 = .ok (.i2l, 1) := by decide +kernel
theorem dX11_isPerson_2 : decode cX11_isPerson 2 = .ok (.lconst 0, 1) := by decide +kernel
theorem dX11_isPerson_3 : decode cX11_isPerson 3 = .ok (.aload_n 0, 1) := by decide +kernel
theorem dX11_isPerson_4 : decode cX11_isPerson 4 = .ok (.getfield 7, 3) := by decide +kernel
theorem dX11_isPerson_7 : decode cX11_isPerson 7 = .ok (.iconst 0, 1) := by decide +kernel
theorem dX11_isPerson_8 : decode cX11_isPerson 8 = .ok (.iaload, 1) := by decide +kernel
theorem dX11_isPerson_9 : decode cX11_isPerson 9 = .ok (.iconst 1, 1) := by decide +kernel
theorem dX11_isPerson_10 : decode cX11_isPerson 10 = .ok (.isub, 1) := by decide +kernel
theorem dX11_isPerson_11 : decode cX11_isPerson 11 = .ok (.i2l, 1) := by decide +kernel
theorem dX11_isPerson_12 : decode cX11_isPerson 12 = .ok (.invokestatic 66, 3) := by decide +kernel
theorem dX11_isPerson_15 : decode cX11_isPerson 15 = .ok (.ireturn, 1) := by decide +kernel
theorem dX11_isGate_0 : decode cX11_isGate 0 = .ok (.iload_n 1, 1) := by decide +kernel
theorem dX11_isGate_1 : decode cX11_isGate 1 = .ok (.i2l, 1) := by decide +kernel
theorem dX11_isGate_2 : decode cX11_isGate 2 = .ok (.lconst 0, 1) := by decide +kernel
theorem dX11_isGate_3 : decode cX11_isGate 3 = .ok (.aload_n 0, 1) := by decide +kernel
theorem dX11_isGate_4 : decode cX11_isGate 4 = .ok (.getfield 7, 3) := by decide +kernel
theorem dX11_isGate_7 : decode cX11_isGate 7 = .ok (.iconst 1, 1) := by decide +kernel
theorem dX11_isGate_8 : decode cX11_isGate 8 = .ok (.iaload, 1) := by decide +kernel
theorem dX11_isGate_9 : decode cX11_isGate 9 = .ok (.iconst 1, 1) := by decide +kernel
theorem dX11_isGate_10 : decode cX11_isGate 10 = .ok (.isub, 1) := by decide +kernel
theorem dX11_isGate_11 : decode cX11_isGate 11 = .ok (.i2l, 1) := by decide +kernel
theorem dX11_isGate_12 : decode cX11_isGate 12 = .ok (.invokestatic 66, 3) := by decide +kernel
theorem dX11_isGate_15 : decode cX11_isGate 15 = .ok (.ireturn, 1) := by decide +kernel
theorem dX11_person_0 : decode cX11_person 0 = .ok (.iload_n 1, 1) := by decide +kernel
theorem dX11_person_1 : decode cX11_person 1 = .ok (.invokestatic 106, 3) := by decide +kernel
theorem dX11_person_4 : decode cX11_person 4 = .ok (.ifCond .ne 10, 3) := by decide +kernel
theorem dX11_person_7 : decode cX11_person 7 = .ok (.aload_n 0, 1) := by decide +kernel
theorem dX11_person_8 : decode cX11_person 8 = .ok (.bipush (-2), 2) := by decide +kernel
theorem dX11_person_10 : decode cX11_person 10 = .ok (.invokevirtual 103, 3) := by decide +kernel
theorem dX11_person_13 : decode cX11_person 13 = .ok (.ireturn, 1) := by decide +kernel
theorem dX11_person_14 : decode cX11_person 14 = .ok (.aload_n 0, 1) := by decide +kernel
theorem dX11_person_15 : decode cX11_person 15 = .ok (.getfield 7, 3) := by decide +kernel
theorem dX11_person_18 : decode cX11_person 18 = .ok (.iconst 0, 1) := by decide +kernel
theorem dX11_person_19 : decode cX11_person 19 = .ok (.iaload, 1) := by decide +kernel
theorem dX11_person_20 : decode cX11_person 20 = .ok (.bipush 8, 2) := by decide +kernel
theorem dX11_person_22 : decode cX11_person 22 = .ok (.if_icmp .ne 8, 3) := by decide +kernel
theorem dX11_person_25 : decode cX11_person 25 = .ok (.aload_n 0, 1) := by decide +kernel
theorem dX11_person_26 : decode cX11_person 26 = .ok (.invokevirtual 115, 3) := by decide +kernel
theorem dX11_person_29 : decode cX11_person 29 = .ok (.ireturn, 1) := by decide +kernel
theorem dX11_person_30 : decode cX11_person 30 = .ok (.aload_n 0, 1) := by decide +kernel
theorem dX11_person_31 : decode cX11_person 31 = .ok (.getfield 7, 3) := by decide +kernel
theorem dX11_person_34 : decode cX11_person 34 = .ok (.iconst 5, 1) := by decide +kernel
theorem dX11_person_35 : decode cX11_person 35 = .ok (.aload_n 0, 1) := by decide +kernel
theorem dX11_person_36 : decode cX11_person 36 = .ok (.getfield 7, 3) := by decide +kernel
theorem dX11_person_39 : decode cX11_person 39 = .ok (.iconst 0, 1) := by decide +kernel
theorem dX11_person_40 : decode cX11_person 40 = .ok (.iaload, 1) := by decide +kernel
theorem dX11_person_41 : decode cX11_person 41 = .ok (.iadd, 1) := by decide +kernel
theorem dX11_person_42 : decode cX11_person 42 = .ok (.iload_n 1, 1) := by decide +kernel
theorem dX11_person_43 : decode cX11_person 43 = .ok (.iastore, 1) := by decide +kernel
theorem dX11_person_44 : decode cX11_person 44 = .ok (.aload_n 0, 1) := by decide +kernel
theorem dX11_person_45 : decode cX11_person 45 = .ok (.getfield 7, 3) := by decide +kernel
theorem dX11_person_48 : decode cX11_person 48 = .ok (.bipush 13, 2) := by decide +kernel
theorem dX11_person_50 : decode cX11_person 50 = .ok (.aload_n 0, 1) := by decide +kernel
theorem dX11_person_51 : decode cX11_person 51 = .ok (.getfield 7, 3) := by decide +kernel
theorem dX11_person_54 : decode cX11_person 54 = .ok (.iconst 0, 1) := by decide +kernel
theorem dX11_person_55 : decode cX11_person 55 = .ok (.iaload, 1) := by decide +kernel
theorem dX11_person_56 : decode cX11_person 56 = .ok (.iadd, 1) := by decide +kernel
theorem dX11_person_57 : decode cX11_person 57 = .ok (.iconst 0, 1) := by decide +kernel
theorem dX11_person_58 : decode cX11_person 58 = .ok (.iastore, 1) := by decide +kernel
theorem dX11_person_59 : decode cX11_person 59 = .ok (.aload_n 0, 1) := by decide +kernel
theorem dX11_person_60 : decode cX11_person 60 = .ok (.getfield 7, 3) := by decide +kernel
theorem dX11_person_63 : decode cX11_person 63 = .ok (.bipush 21, 2) := by decide +kernel
theorem dX11_person_65 : decode cX11_person 65 = .ok (.aload_n 0, 1) := by decide +kernel
theorem dX11_person_66 : decode cX11_person 66 = .ok (.getfield 7, 3) := by decide +kernel
theorem dX11_person_69 : decode cX11_person 69 = .ok (.iconst 0, 1) := by decide +kernel
theorem dX11_person_70 : decode cX11_person 70 = .ok (.iaload, 1) := by decide +kernel
theorem dX11_person_71 : decode cX11_person 71 = .ok (.iadd, 1) := by decide +kernel
theorem dX11_person_72 : decode cX11_person 72 = .ok (.iconst 0, 1) := by decide +kernel
theorem dX11_person_73 : decode cX11_person 73 = .ok (.iastore, 1) := by decide +kernel
theorem dX11_person_74 : decode cX11_person 74 = .ok (.aload_n 0, 1) := by decide +kernel
theorem dX11_person_75 : decode cX11_person 75 = .ok (.getfield 7, 3) := by decide +kernel
theorem dX11_person_78 : decode cX11_person 78 = .ok (.iconst 0, 1) := by decide +kernel
theorem dX11_person_79 : decode cX11_person 79 = .ok (.dup2, 1) := by decide +kernel
theorem dX11_person_80 : decode cX11_person 80 = .ok (.iaload, 1) := by decide +kernel
theorem dX11_person_81 : decode cX11_person 81 = .ok (.iconst 1, 1) := by decide +kernel
theorem dX11_person_82 : decode cX11_person 82 = .ok (.iadd, 1) := by decide +kernel
theorem dX11_person_83 : decode cX11_person 83 = .ok (.iastore, 1) := by decide +kernel
theorem dX11_person_84 : decode cX11_person 84 = .ok (.aload_n 0, 1) := by decide +kernel
theorem dX11_person_85 : decode cX11_person 85 = .ok (.getfield 7, 3) := by decide +kernel
theorem dX11_person_88 : decode cX11_person 88 = .ok (.iconst 0, 1) := by decide +kernel
theorem dX11_person_89 : decode cX11_person 89 = .ok (.iaload, 1) := by decide +kernel
theorem dX11_person_90 : decode cX11_person 90 = .ok (.iconst 1, 1) := by decide +kernel
theorem dX11_person_91 : decode cX11_person 91 = .ok (.isub, 1) := by decide +kernel
theorem dX11_person_92 : decode cX11_person 92 = .ok (.ireturn, 1) := by decide +kernel
theorem dX11_gate_0 : decode cX11_gate 0 = .ok (.iload_n 1, 1) := by decide +kernel
theorem dX11_gate_1 : decode cX11_gate 1 = .ok (.i2l, 1) := by decide +kernel
theorem dX11_gate_2 : decode cX11_gate 2 = .ok (.lconst 0, 1) := by decide +kernel
theorem dX11_gate_3 : decode cX11_gate 3 = .ok (.ldc2_w 119, 3) := by decide +kernel
theorem dX11_gate_6 : decode cX11_gate 6 = .ok (.invokestatic 66, 3) := by decide +kernel
theorem dX11_gate_9 : decode cX11_gate 9 = .ok (.ifCond .eq 15, 3) := by decide +kernel
theorem dX11_gate_12 : decode cX11_gate 12 = .ok (.iload_n 2, 1) := by decide +kernel
theorem dX11_gate_13 : decode cX11_gate 13 = .ok (.i2l, 1) := by decide +kernel
theorem dX11_gate_14 : decode cX11_gate 14 = .ok (.lconst 1, 1) := by decide +kernel
theorem dX11_gate_15 : decode cX11_gate 15 = .ok (.ldc2_w 121, 3) := by decide +kernel
theorem dX11_gate_18 : decode cX11_gate 18 = .ok (.invokestatic 66, 3) := by decide +kernel
theorem dX11_gate_21 : decode cX11_gate 21 = .ok (.ifCond .ne 10, 3) := by decide +kernel
theorem dX11_gate_24 : decode cX11_gate 24 = .ok (.aload_n 0, 1) := by decide +kernel
theorem dX11_gate_25 : decode cX11_gate 25 = .ok (.bipush (-2), 2) := by decide +kernel
theorem dX11_gate_27 : decode cX11_gate 27 = .ok (.invokevirtual 103, 3) := by decide +kernel
theorem dX11_gate_30 : decode cX11_gate 30 = .ok (.ireturn, 1) := by decide +kernel
theorem dX11_gate_31 : decode cX11_gate 31 = .ok (.aload_n 0, 1) := by decide +kernel
theorem dX11_gate_32 : decode cX11_gate 32 = .ok (.getfield 7, 3) := by decide +kernel
theorem dX11_gate_35 : decode cX11_gate 35 = .ok (.iconst 1, 1) := by decide +kernel
theorem dX11_gate_36 : decode cX11_gate 36 = .ok (.iaload, 1) := by decide +kernel
theorem dX11_gate_37 : decode cX11_gate 37 = .ok (.iconst 4, 1) := by decide +kernel
theorem dX11_gate_38 : decode cX11_gate 38 = .ok (.if_icmp .ne 8, 3) := by decide +kernel
theorem dX11_gate_41 : decode cX11_gate 41 = .ok (.aload_n 0, 1) := by decide +kernel
theorem dX11_gate_42 : decode cX11_gate 42 = .ok (.invokevirtual 115, 3) := by decide +kernel
theorem dX11_gate_45 : decode cX11_gate 45 = .ok (.ireturn, 1) := by decide +kernel
theorem dX11_gate_46 : decode cX11_gate 46 = .ok (.aload_n 0, 1) := by decide +kernel
