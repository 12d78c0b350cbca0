theorem dX11_passing_6 : decode cX11_passing 6 = .ok (.invokestatic 66, 3) := by decide +kernel
theorem dX11_passing_9 : decode cX11_passing 9 = .ok (.ifCond .eq 15, 3) := by decide +kernel
theorem dX11_passing_12 : decode cX11_passing 12 = .ok (.iload_n 2, 1) := by decide +kernel
theorem dX11_passing_13 : decode cX11_passing 13 = .ok (.i2l, 1) := by decide +kernel
theorem dX11_passing_14 : decode cX11_passing 14 = .ok (.lconst 0, 1) := by decide +kernel
theorem dX11_passing_15 : decode cX11_passing 15 = .ok (.ldc2_w 263, 3) := by decide +kernel
theorem dX11_passing_18 : decode cX11_passing 18 = .ok (.invokestatic 66, 3) := by decide +kernel
theorem dX11_passing_21 : decode cX11_passing 21 = .ok (.ifCond .ne 10, 3) := by decide +kernel
theorem dX11_passing_24 : decode cX11_passing 24 = .ok (.aload_n 0, 1) := by decide +kernel
theorem dX11_passing_25 : decode cX11_passing 25 = .ok (.bipush (-2), 2) := by decide +kernel
theorem dX11_passing_27 : decode cX11_passing 27 = .ok (.invokevirtual 103, 3) := by decide +kernel
theorem dX11_passing_30 : decode cX11_passing 30 = .ok (.ireturn, 1) := by decide +kernel
theorem dX11_passing_31 : decode cX11_passing 31 = .ok (.aload_n 0, 1) := by decide +kernel
theorem dX11_passing_32 : decode cX11_passing 32 = .ok (.getfield 7, 3) := by decide +kernel
theorem dX11_passing_35 : decode cX11_passing 35 = .ok (.iconst 3, 1) := by decide +kernel
theorem dX11_passing_36 : decode cX11_passing 36 = .ok (.iaload, 1) := by decide +kernel
theorem dX11_passing_37 : decode cX11_passing 37 = .ok (.istore 4, 2) := by decide +kernel
theorem dX11_passing_39 : decode cX11_passing 39 = .ok (.iload 4, 2) := by decide +kernel
theorem dX11_passing_41 : decode cX11_passing 41 = .ok (.bipush 10, 2) := by decide +kernel
theorem dX11_passing_43 : decode cX11_passing 43 = .ok (.if_icmp .ne 8, 3) := by decide +kernel
theorem dX11_passing_46 : decode cX11_passing 46 = .ok (.aload_n 0, 1) := by decide +kernel
theorem dX11_passing_47 : decode cX11_passing 47 = .ok (.invokevirtual 115, 3) := by decide +kernel
theorem dX11_passing_50 : decode cX11_passing 50 = .ok (.ireturn, 1) := by decide +kernel
theorem dX11_passing_51 : decode cX11_passing 51 = .ok (.aload_n 0, 1) := by decide +kernel
theorem dX11_passing_52 : decode cX11_passing 52 = .ok (.getfield 7, 3) := by decide +kernel
theorem dX11_passing_55 : decode cX11_passing 55 = .ok (.bipush 47, 2) := by decide +kernel
theorem dX11_passing_57 : decode cX11_passing 57 = .ok (.iconst 3, 1) := by decide +kernel
theorem dX11_passing_58 : decode cX11_passing 58 = .ok (.iload 4, 2) := by decide +kernel
theorem dX11_passing_60 : decode cX11_passing 60 = .ok (.imul, 1) := by decide +kernel
theorem dX11_passing_61 : decode cX11_passing 61 = .ok (.iadd, 1) := by decide +kernel
theorem dX11_passing_62 : decode cX11_passing 62 = .ok (.iload_n 1, 1) := by decide +kernel
theorem dX11_passing_63 : decode cX11_passing 63 = .ok (.iastore, 1) := by decide +kernel
theorem dX11_passing_64 : decode cX11_passing 64 = .ok (.aload_n 0, 1) := by decide +kernel
theorem dX11_passing_65 : decode cX11_passing 65 = .ok (.getfield 7, 3) := by decide +kernel
theorem dX11_passing_68 : decode cX11_passing 68 = .ok (.bipush 48, 2) := by decide +kernel
theorem dX11_passing_70 : decode cX11_passing 70 = .ok (.iconst 3, 1) := by decide +kernel
theorem dX11_passing_71 : decode cX11_passing 71 = .ok (.iload 4, 2) := by decide +kernel
theorem dX11_passing_73 : decode cX11_passing 73 = .ok (.imul, 1) := by decide +kernel
theorem dX11_passing_74 : decode cX11_passing 74 = .ok (.iadd, 1) := by decide +kernel
theorem dX11_passing_75 : decode cX11_passing 75 = .ok (.iload_n 2, 1) := by decide +kernel
theorem dX11_passing_76 : decode cX11_passing 76 = .ok (.iastore, 1) := by decide +kernel
theorem dX11_passing_77 : decode cX11_passing 77 = .ok (.aload_n 0, 1) := by decide +kernel
theorem dX11_passing_78 : decode cX11_passing 78 = .ok (.getfield 7, 3) := by decide +kernel
theorem dX11_passing_81 : decode cX11_passing 81 = .ok (.bipush 49, 2) := by decide +kernel
theorem dX11_passing_83 : decode cX11_passing 83 = .ok (.iconst 3, 1) := by decide +kernel
theorem dX11_passing_84 : decode cX11_passing 84 = .ok (.iload 4, 2) := by decide +kernel
theorem dX11_passing_86 : decode cX11_passing 86 = .ok (.imul, 1) := by decide +kernel
theorem dX11_passing_87 : decode cX11_passing 87 = .ok (.iadd, 1) := by decide +kernel
theorem dX11_passing_88 : decode cX11_passing 88 = .ok (.iload_n 3, 1) := by decide +kernel
theorem dX11_passing_89 : decode cX11_passing 89 = .ok (.ifCond .eq 7, 3) := by decide +kernel
theorem dX11_passing_92 : decode cX11_passing 92 = .ok (.iconst 1, 1) := by decide +kernel
theorem dX11_passing_93 : decode cX11_passing 93 = .ok (.goto 4, 3) := by decide +kernel
theorem dX11_passing_96 : decode cX11_passing 96 = .ok (.iconst 0, 1) := by decide +kernel
theorem dX11_passing_97 : decode cX11_passing 97 = .ok (.iastore, 1) := by decide +kernel
theorem dX11_passing_98 : decode cX11_passing 98 = .ok (.aload_n 0, 1) := by decide +kernel
theorem dX11_passing_99 : decode cX11_passing 99 = .ok (.getfield 7, 3) := by decide +kernel
theorem dX11_passing_102 : decode cX11_passing 102 = .ok (.iconst 3, 1) := by decide +kernel
theorem dX11_passing_103 : decode cX11_passing 103 = .ok (.dup2, 1) := by decide +kernel
theorem dX11_passing_104 : decode cX11_passing 104 = .ok (.iaload, 1) := by decide +kernel
theorem dX11_passing_105 : decode cX11_passing 105 = .ok (.iconst 1, 1) := by decide +kernel
theorem dX11_passing_106 : decode cX11_passing 106 = .ok (.iadd, 1) := by decide +kernel
theorem dX11_passing_107 : decode cX11_passing 107 = .ok (.iastore, 1) := by decide +kernel
theorem dX11_passing_108 : decode cX11_passing 108 = .ok (.iload 4, 2) := by decide +kernel
theorem dX11_passing_110 : decode cX11_passing 110 = .ok (.ireturn, 1) := by decide +kernel
theorem dX11_forget_0 : decode cX11_forget 0 = .ok (.aload_n 0, 1) := by decide +kernel
theorem dX11_forget_1 : decode cX11_forget 1 = .ok (.getfield 7, 3) := by decide +kernel
theorem dX11_forget_4 : decode cX11_forget 4 = .ok (.iconst 3, 1) := by decide +kernel
theorem dX11_forget_5 : decode cX11_forget 5 = .ok (.iaload, 1) := by decide +kernel
theorem dX11_forget_6 : decode cX11_forget 6 = .ok (.istore_n 1, 1) := by decide +kernel
theorem dX11_forget_7 : decode cX11_forget 7 = .ok (.aload_n 0, 1) := by decide +kernel
theorem dX11_forget_8 : decode cX11_forget 8 = .ok (.getfield 7, 3) := by decide +kernel
theorem dX11_forget_11 : decode cX11_forget 11 = .ok (.iconst 3, 1) := by decide +kernel
theorem dX11_forget_12 : decode cX11_forget 12 = .ok (.iconst 0, 1) := by decide +kernel
theorem dX11_forget_13 : decode cX11_forget 13 = .ok (.iastore, 1) := by decide +kernel
theorem dX11_forget_14 : decode cX11_forget 14 = .ok (.iload_n 1, 1) := by decide +kernel
theorem dX11_forget_15 : decode cX11_forget 15 = .ok (.ireturn, 1) := by decide +kernel
theorem dX11_liars_0 : decode cX11_liars 0 = .ok (.iload_n 1, 1) := by decide +kernel
theorem dX11_liars_1 : decode cX11_liars 1 = .ok (.i2l, 1) := by decide +kernel
theorem dX11_liars_2 : decode cX11_liars 2 = .ok (.lconst 0, 1) := by decide +kernel
theorem dX11_liars_3 : decode cX11_liars 3 = .ok (.ldc2_w 265, 3) := by decide +kernel
theorem dX11_liars_6 : decode cX11_liars 6 = .ok (.invokestatic 66, 3) := by decide +kernel
theorem dX11_liars_9 : decode cX11_liars 9 = .ok (.ifCond .ne 10, 3) := by decide +kernel
theorem dX11_liars_12 : decode cX11_liars 12 = .ok (.aload_n 0, 1) := by decide +kernel
theorem dX11_liars_13 : decode cX11_liars 13 = .ok (.bipush (-2), 2) := by decide +kernel
theorem dX11_liars_15 : decode cX11_liars 15 = .ok (.invokevirtual 103, 3) := by decide +kernel
theorem dX11_liars_18 : decode cX11_liars 18 = .ok (.ireturn, 1) := by decide +kernel
theorem dX11_liars_19 : decode cX11_liars 19 = .ok (.aload_n 0, 1) := by decide +kernel
theorem dX11_liars_20 : decode cX11_liars 20 = .ok (.getfield 7, 3) := by decide +kernel
theorem dX11_liars_23 : decode cX11_liars 23 = .ok (.iconst 4, 1) := by decide +kernel
theorem dX11_liars_24 : decode cX11_liars 24 = .ok (.iaload, 1) := by decide +kernel
theorem dX11_liars_25 : decode cX11_liars 25 = .ok (.istore_n 2, 1) := by decide +kernel
theorem dX11_liars_26 : decode cX11_liars 26 = .ok (.aload_n 0, 1) := by decide +kernel
theorem dX11_liars_27 : decode cX11_liars 27 = .ok (.getfield 7, 3) := by decide +kernel
theorem dX11_liars_30 : decode cX11_liars 30 = .ok (.iconst 4, 1) := by decide +kernel
theorem dX11_liars_31 : decode cX11_liars 31 = .ok (.iload_n 1, 1) := by decide +kernel
theorem dX11_liars_32 : decode cX11_liars 32 = .ok (.iastore, 1) := by decide +kernel
theorem dX11_liars_33 : decode cX11_liars 33 = .ok (.iload_n 2, 1) := by decide +kernel
theorem dX11_liars_34 : decode cX11_liars 34 = .ok (.ireturn, 1) := by decide +kernel
theorem dX11_figure_0 : decode cX11_figure 0 = .ok (.iload_n 0, 1) := by decide +kernel
theorem dX11_figure_1 : decode cX11_figure 1 = .ok (.istore_n 2, 1) := by decide +kernel
theorem dX11_figure_2 : decode cX11_figure 2 = .ok (.iconst 4, 1) := by decide +kernel
theorem dX11_figure_3 : decode cX11_figure 3 = .ok (.istore_n 3, 1) := by decide +kernel
theorem dX11_figure_4 : decode cX11_figure 4 = .ok (.iload_n 3, 1) := by decide +kernel
theorem dX11_figure_5 : decode cX11_figure 5 = .ok (.iload_n 1, 1) := by decide +kernel
theorem dX11_figure_6 : decode cX11_figure 6 = .ok (.if_icmp .le 14, 3) := by decide +kernel
theorem dX11_figure_9 : decode cX11_figure 9 = .ok (.iload_n 2, 1) := by decide +kernel
theorem dX11_figure_10 : decode cX11_figure 10 = .ok (.bipush 10, 2) := by decide +kernel
theorem dX11_figure_12 : decode cX11_figure 12 = .ok (.idiv, 1) := by decide +kernel
theorem dX11_figure_13 : decode cX11_figure 13 = .ok (.istore_n 2, 1) := by decide +kernel
theorem dX11_figure_14 : decode cX11_figure 14 = .ok (.iinc 3 (-1), 3) := by decide +kernel
theorem dX11_figure_17 : decode cX11_figure 17 = .ok (.goto (-13), 3) := by decide +kernel
theorem dX11_figure_20 : decode cX11_figure 20 = .ok (.iload_n 2, 1) := by decide +kernel
theorem dX11_figure_21 : decode cX11_figure 21 = .ok (.bipush 10, 2) := by decide +kernel
theorem dX11_figure_23 : decode cX11_figure 23 = .ok (.irem, 1) := by decide +kernel
theorem dX11_figure_24 : decode cX11_figure 24 = .ok (.ireturn, 1) := by decide +kernel
theorem dX11_fitsAll_0 : decode cX11_fitsAll 0 = .ok (.iconst 0, 1) := by decide +kernel
theorem dX11_fitsAll_1 : decode cX11_fitsAll 1 = .ok (.istore_n 2, 1) := by decide +kernel
theorem dX11_fitsAll_2 : decode cX11_fitsAll 2 = .ok (.iconst 0, 1) := by decide +kernel
theorem dX11_fitsAll_3 : decode cX11_fitsAll 3 = .ok (.istore_n 3, 1) := by decide +kernel
theorem dX11_fitsAll_4 : decode cX11_fitsAll 4 = .ok (.iload_n 3, 1) := by decide +kernel
theorem dX11_fitsAll_5 : decode cX11_fitsAll 5 = .ok (.aload_n 0, 1) := by decide +kernel
theorem dX11_fitsAll_6 : decode cX11_fitsAll 6 = .ok (.getfield 7, 3) := by decide +kernel
theorem dX11_fitsAll_9 : decode cX11_fitsAll 9 = .ok (.iconst 3, 1) := by decide +kernel
theorem dX11_fitsAll_10 : decode cX11_fitsAll 10 = .ok (.iaload, 1) := by decide +kernel
theorem dX11_fitsAll_11 : decode cX11_fitsAll 11 = .ok (.if_icmp .ge 106, 3) := by decide +kernel
theorem dX11_fitsAll_14 : decode cX11_fitsAll 14 = .ok (.aload_n 0, 1) := by decide +kernel
theorem dX11_fitsAll_15 : decode cX11_fitsAll 15 = .ok (.getfield 7, 3) := by decide +kernel
theorem dX11_fitsAll_18 : decode cX11_fitsAll 18 = .ok (.bipush 48, 2) := by decide +kernel
theorem dX11_fitsAll_20 : decode cX11_fitsAll 20 = .ok (.iconst 3, 1) := by decide +kernel
theorem dX11_fitsAll_21 : decode cX11_fitsAll 21 = .ok (.iload_n 3, 1) := by decide +kernel
theorem dX11_fitsAll_22 : decode cX11_fitsAll 22 = .ok (.imul, 1) := by decide +kernel
theorem dX11_fitsAll_23 : decode cX11_fitsAll 23 = .ok (.iadd, 1) := by decide +kernel
theorem dX11_fitsAll_24 : decode cX11_fitsAll 24 = .ok (.iaload, 1) := by decide +kernel
theorem dX11_fitsAll_25 : decode cX11_fitsAll 25 = .ok (.istore 4, 2) := by decide +kernel
theorem dX11_fitsAll_27 : decode cX11_fitsAll 27 = .ok (.iconst 0, 1) := by decide +kernel
theorem dX11_fitsAll_28 : decode cX11_fitsAll 28 = .ok (.istore 5, 2) := by decide +kernel
theorem dX11_fitsAll_30 : decode cX11_fitsAll 30 = .ok (.iload 5, 2) := by decide +kernel
theorem dX11_fitsAll_32 : decode cX11_fitsAll 32 = .ok (.iconst 5, 1) := by decide +kernel
theorem dX11_fitsAll_33 : decode cX11_fitsAll 33 = .ok (.if_icmp .ge 43, 3) := by decide +kernel
theorem dX11_fitsAll_36 : decode cX11_fitsAll 36 = .ok (.iload 4, 2) := by decide +kernel
theorem dX11_fitsAll_38 : decode cX11_fitsAll 38 = .ok (.aload_n 0, 1) := by decide +kernel
theorem dX11_fitsAll_39 : decode cX11_fitsAll 39 = .ok (.getfield 7, 3) := by decide +kernel
theorem dX11_fitsAll_42 : decode cX11_fitsAll 42 = .ok (.bipush 47, 2) := by decide +kernel
theorem dX11_fitsAll_44 : decode cX11_fitsAll 44 = .ok (.iconst 3, 1) := by decide +kernel
theorem dX11_fitsAll_45 : decode cX11_fitsAll 45 = .ok (.iload_n 3, 1) := by decide +kernel
theorem dX11_fitsAll_46 : decode cX11_fitsAll 46 = .ok (.imul, 1) := by decide +kernel
theorem dX11_fitsAll_47 : decode cX11_fitsAll 47 = .ok (.iadd, 1) := by decide +kernel
theorem dX11_fitsAll_48 : decode cX11_fitsAll 48 = .ok (.iaload, 1) := by decide +kernel
theorem dX11_fitsAll_49 : decode cX11_fitsAll 49 = .ok (.iload 5, 2) := by decide +kernel
theorem dX11_fitsAll_51 : decode cX11_fitsAll 51 = .ok (.invokestatic 126, 3) := by decide +kernel
theorem dX11_fitsAll_54 : decode cX11_fitsAll 54 = .ok (.ifCond .eq 12, 3) := by decide +kernel
theorem dX11_fitsAll_57 : decode cX11_fitsAll 57 = .ok (.iload_n 1, 1) := by decide +kernel
theorem dX11_fitsAll_58 : decode cX11_fitsAll 58 = .ok (.iload 5, 2) := by decide +kernel
theorem dX11_fitsAll_60 : decode cX11_fitsAll 60 = .ok (.invokestatic 267, 3) := by decide +kernel
theorem dX11_fitsAll_63 : decode cX11_fitsAll 63 = .ok (.goto 4, 3) := by decide +kernel
theorem dX11_fitsAll_66 : decode cX11_fitsAll 66 = .ok (.iconst 0, 1) := by decide +kernel
theorem dX11_fitsAll_67 : decode cX11_fitsAll 67 = .ok (.iadd, 1) := by decide +kernel
theorem dX11_fitsAll_68 : decode cX11_fitsAll 68 = .ok (.istore 4, 2) := by decide +kernel
theorem dX11_fitsAll_70 : decode cX11_fitsAll 70 = .ok (.iinc 5 1, 3) := by decide +kernel
theorem dX11_fitsAll_73 : decode cX11_fitsAll 73 = .ok (.goto (-43), 3) := by decide +kernel
theorem dX11_fitsAll_76 : decode cX11_fitsAll 76 = .ok (.iload_n 2, 1) := by decide +kernel
theorem dX11_fitsAll_77 : decode cX11_fitsAll 77 = .ok (.iload 4, 2) := by decide +kernel
theorem dX11_fitsAll_79 : decode cX11_fitsAll 79 = .ok (.bipush 10, 2) := by decide +kernel
theorem dX11_fitsAll_81 : decode cX11_fitsAll 81 = .ok (.irem, 1) := by decide +kernel
theorem dX11_fitsAll_82 : decode cX11_fitsAll 82 = .ok (.ifCond .ne 7, 3) := by decide +kernel
theorem dX11_fitsAll_85 : decode cX11_fitsAll 85 = .ok (.iconst 1, 1) := by decide +kernel
theorem dX11_fitsAll_86 : decode cX11_fitsAll 86 = .ok (.goto 4, 3) := by decide +kernel
theorem dX11_fitsAll_89 : decode cX11_fitsAll 89 = .ok (.iconst 0, 1) := by decide +kernel
theorem dX11_fitsAll_90 : decode cX11_fitsAll 90 = .ok (.aload_n 0, 1) := by decide +kernel
theorem dX11_fitsAll_91 : decode cX11_fitsAll 91 = .ok (.getfield 7, 3) := by decide +kernel
theorem dX11_fitsAll_94 : decode cX11_fitsAll 94 = .ok (.bipush 49, 2) := by decide +kernel
theorem dX11_fitsAll_96 : decode cX11_fitsAll 96 = .ok (.iconst 3, 1) := by decide +kernel
theorem dX11_fitsAll_97 : decode cX11_fitsAll 97 = .ok (.iload_n 3, 1) := by decide +kernel
theorem dX11_fitsAll_98 : decode cX11_fitsAll 98 = .ok (.imul, 1) := by decide +kernel
theorem dX11_fitsAll_99 : decode cX11_fitsAll 99 = .ok (.iadd, 1) := by decide +kernel
theorem dX11_fitsAll_100 : decode cX11_fitsAll 100 = .ok (.iaload, 1) := by decide +kernel
theorem dX11_fitsAll_101 : decode cX11_fitsAll 101 = .ok (.if_icmp .ne 7, 3) := by decide +kernel
theorem dX11_fitsAll_104 : decode cX11_fitsAll 104 = .ok (.iconst 0, 1) := by decide +kernel
theorem dX11_fitsAll_105 : decode cX11_fitsAll 105 = .ok (.goto 4, 3) := by decide +kernel
theorem dX11_fitsAll_108 : decode cX11_fitsAll 108 = .ok (.iconst 1, 1) := by decide +kernel
theorem dX11_fitsAll_109 : decode cX11_fitsAll 109 = .ok (.iadd, 1) := by decide +kernel
theorem dX11_fitsAll_110 : decode cX11_fitsAll 110 = .ok (.istore_n 2, 1) := by decide +kernel
theorem dX11_fitsAll_111 : decode cX11_fitsAll 111 = .ok (.iinc 3 1, 3) := by decide +kernel
theorem dX11_fitsAll_114 : decode cX11_fitsAll 114 = .ok (.goto (-110), 3) := by decide +kernel
theorem dX11_fitsAll_117 : decode cX11_fitsAll 117 = .ok (.iload_n 2, 1) := by decide +kernel
theorem dX11_fitsAll_118 : decode cX11_fitsAll 118 = .ok (.aload_n 0, 1) := by decide +kernel
theorem dX11_fitsAll_119 : decode cX11_fitsAll 119 = .ok (.getfield 7, 3) := by decide +kernel
theorem dX11_fitsAll_122 : decode cX11_fitsAll 122 = .ok (.iconst 4, 1) := by decide +kernel
theorem dX11_fitsAll_123 : decode cX11_fitsAll 123 = .ok (.iaload, 1) := by decide +kernel
theorem dX11_fitsAll_124 : decode cX11_fitsAll 124 = .ok (.if_icmp .gt 7, 3) := by decide +kernel
theorem dX11_fitsAll_127 : decode cX11_fitsAll 127 = .ok (.iconst 1, 1) := by decide +kernel
theorem dX11_fitsAll_128 : decode cX11_fitsAll 128 = .ok (.goto 4, 3) := by decide +kernel
theorem dX11_fitsAll_131 : decode cX11_fitsAll 131 = .ok (.iconst 0, 1) := by decide +kernel
theorem dX11_fitsAll_132 : decode cX11_fitsAll 132 = .ok (.ireturn, 1) := by decide +kernel
theorem dX11_fits_0 : decode cX11_fits 0 = .ok (.iload_n 1, 1) := by decide +kernel
theorem dX11_fits_1 : decode cX11_fits 1 = .ok (.iconst (-1), 1) := by decide +kernel
theorem dX11_fits_2 : decode cX11_fits 2 = .ok (.if_icmp .ge 10, 3) := by decide +kernel
theorem dX11_fits_5 : decode cX11_fits 5 = .ok (.aload_n 0, 1) := by decide +kernel
theorem dX11_fits_6 : decode cX11_fits 6 = .ok (.bipush (-10), 2) := by decide +kernel
theorem dX11_fits_8 : decode cX11_fits 8 = .ok (.invokevirtual 103, 3) := by decide +kernel
theorem dX11_fits_11 : decode cX11_fits 11 = .ok (.ireturn, 1) := by decide +kernel
theorem dX11_fits_12 : decode cX11_fits 12 = .ok (.iconst 0, 1) := by decide +kernel
theorem dX11_fits_13 : decode cX11_fits 13 = .ok (.istore_n 2, 1) := by decide +kernel
theorem dX11_fits_14 : decode cX11_fits 14 = .ok (.iconst 0, 1) := by decide +kernel
theorem dX11_fits_15 : decode cX11_fits 15 = .ok (.istore_n 3, 1) := by decide +kernel
theorem dX11_fits_16 : decode cX11_fits 16 = .ok (.iload_n 3, 1) := by decide +kernel
theorem dX11_fits_17 : decode cX11_fits 17 = .ok (.ldc_w 270, 3) := by decide +kernel
theorem dX11_fits_20 : decode cX11_fits 20 = .ok (.if_icmp .ge 27, 3) := by decide +kernel
theorem dX11_fits_23 : decode cX11_fits 23 = .ok (.aload_n 0, 1) := by decide +kernel
theorem dX11_fits_24 : decode cX11_fits 24 = .ok (.iload_n 3, 1) := by decide +kernel
theorem dX11_fits_25 : decode cX11_fits 25 = .ok (.invokevirtual 271, 3) := by decide +kernel
theorem dX11_fits_28 : decode cX11_fits 28 = .ok (.ifCond .eq 13, 3) := by decide +kernel
theorem dX11_fits_31 : decode cX11_fits 31 = .ok (.iload_n 2, 1) := by decide +kernel
theorem dX11_fits_32 : decode cX11_fits 32 = .ok (.iload_n 1, 1) := by decide +kernel
theorem dX11_fits_33 : decode cX11_fits 33 = .ok (.if_icmp .ne 5, 3) := by decide +kernel
theorem dX11_fits_36 : decode cX11_fits 36 = .ok (.iload_n 3, 1) := by decide +kernel
theorem dX11_fits_37 : decode cX11_fits 37 = .ok (.ireturn, 1) := by decide +kernel
theorem dX11_fits_38 : decode cX11_fits 38 = .ok (.iinc 2 1, 3) := by decide +kernel
theorem dX11_fits_41 : decode cX11_fits 41 = .ok (.iinc 3 1, 3) := by decide +kernel
theorem dX11_fits_44 : decode cX11_fits 44 = .ok (.goto (-28), 3) := by decide +kernel
theorem dX11_fits_47 : decode cX11_fits 47 = .ok (.iload_n 1, 1) := by decide +kernel
theorem dX11_fits_48 : decode cX11_fits 48 = .ok (.iconst (-1), 1) := by decide +kernel
theorem dX11_fits_49 : decode cX11_fits 49 = .ok (.if_icmp .ne 7, 3) := by decide +kernel
theorem dX11_fits_52 : decode cX11_fits 52 = .ok (.iload_n 2, 1) := by decide +kernel
theorem dX11_fits_53 : decode cX11_fits 53 = .ok (.goto 5, 3) := by decide +kernel
theorem dX11_fits_56 : decode cX11_fits 56 = .ok (.bipush (-5), 2) := by decide +kernel
theorem dX11_fits_58 : decode cX11_fits 58 = .ok (.ireturn, 1) := by decide +kernel
theorem dX11_untold_0 : decode cX11_untold 0 = .ok (.iload_n 1, 1) := by decide +kernel
theorem dX11_untold_1 : decode cX11_untold 1 = .ok (.i2l, 1) := by decide +kernel
theorem dX11_untold_2 : decode cX11_untold 2 = .ok (.lconst 0, 1) := by decide +kernel
theorem dX11_untold_3 : decode cX11_untold 3 = .ok (.ldc2_w 119, 3) := by decide +kernel
theorem dX11_untold_6 : decode cX11_untold 6 = .ok (.invokestatic 66, 3) := by decide +kernel
theorem dX11_untold_9 : decode cX11_untold 9 = .ok (.ifCond .eq 15, 3) := by decide +kernel
theorem dX11_untold_12 : decode cX11_untold 12 = .ok (.iload_n 2, 1) := by decide +kernel
theorem dX11_untold_13 : decode cX11_untold 13 = .ok (.i2l, 1) := by decide +kernel
theorem dX11_untold_14 : decode cX11_untold 14 = .ok (.lconst 0, 1) := by decide +kernel
theorem dX11_untold_15 : decode cX11_untold 15 = .ok (.ldc2_w 249, 3) := by decide +kernel
theorem dX11_untold_18 : decode cX11_untold 18 = .ok (.invokestatic 66, 3) := by decide +kernel
theorem dX11_untold_21 : decode cX11_untold 21 = .ok (.ifCond .ne 10, 3) := by decide +kernel
theorem dX11_untold_24 : decode cX11_untold 24 = .ok (.aload_n 0, 1) := by decide +kernel
theorem dX11_untold_25 : decode cX11_untold 25 = .ok (.bipush (-2), 2) := by decide +kernel
theorem dX11_untold_27 : decode cX11_untold 27 = .ok (.invokevirtual 103, 3) := by decide +kernel
theorem dX11_untold_30 : decode cX11_untold 30 = .ok (.ireturn, 1) := by decide +kernel
theorem dX11_untold_31 : decode cX11_untold 31 = .ok (.iconst 0, 1) := by decide +kernel
theorem dX11_untold_32 : decode cX11_untold 32 = .ok (.istore_n 3, 1) := by decide +kernel
theorem dX11_untold_33 : decode cX11_untold 33 = .ok (.iconst 0, 1) := by decide +kernel
theorem dX11_untold_34 : decode cX11_untold 34 = .ok (.istore 4, 2) := by decide +kernel
theorem dX11_untold_36 : decode cX11_untold 36 = .ok (.iconst 0, 1) := by decide +kernel
theorem dX11_untold_37 : decode cX11_untold 37 = .ok (.istore 5, 2) := by decide +kernel
theorem dX11_untold_39 : decode cX11_untold 39 = .ok (.iload 5, 2) := by decide +kernel
theorem dX11_untold_41 : decode cX11_untold 41 = .ok (.ldc_w 270, 3) := by decide +kernel
theorem dX11_untold_44 : decode cX11_untold 44 = .ok (.if_icmp .ge 41, 3) := by decide +kernel
theorem dX11_untold_47 : decode cX11_untold 47 = .ok (.aload_n 0, 1) := by decide +kernel
theorem dX11_untold_48 : decode cX11_untold 48 = .ok (.iload 5, 2) := by decide +kernel
theorem dX11_untold_50 : decode cX11_untold 50 = .ok (.invokevirtual 271, 3) := by decide +kernel
theorem dX11_untold_53 : decode cX11_untold 53 = .ok (.ifCond .eq 26, 3) := by decide +kernel
theorem dX11_untold_56 : decode cX11_untold 56 = .ok (.iinc 3 1, 3) := by decide +kernel
theorem dX11_untold_59 : decode cX11_untold 59 = .ok (.iload 4, 2) := by decide +kernel
theorem dX11_untold_61 : decode cX11_untold 61 = .ok (.iload 5, 2) := by decide +kernel
theorem dX11_untold_63 : decode cX11_untold 63 = .ok (.iload_n 1, 1) := by decide +kernel
theorem dX11_untold_64 : decode cX11_untold 64 = .ok (.invokestatic 267, 3) := by decide +kernel
theorem dX11_untold_67 : decode cX11_untold 67 = .ok (.iload_n 2, 1) := by decide +kernel
theorem dX11_untold_68 : decode cX11_untold 68 = .ok (.if_icmp .ne 7, 3) := by decide +kernel
theorem dX11_untold_71 : decode cX11_untold 71 = .ok (.iconst 1, 1) := by decide +kernel
theorem dX11_untold_72 : decode cX11_untold 72 = .ok (.goto 4, 3) := by decide +kernel
theorem dX11_untold_75 : decode cX11_untold 75 = .ok (.iconst 0, 1) := by decide +kernel
theorem dX11_untold_76 : decode cX11_untold 76 = .ok (.iadd, 1) := by decide +kernel
theorem dX11_untold_77 : decode cX11_untold 77 = .ok (.istore 4, 2) := by decide +kernel
theorem dX11_untold_79 : decode cX11_untold 79 = .ok (.iinc 5 1, 3) := by decide +kernel
theorem dX11_untold_82 : decode cX11_untold 82 = .ok (.goto (-43), 3) := by decide +kernel
theorem dX11_untold_85 : decode cX11_untold 85 = .ok (.iload_n 3, 1) := by decide +kernel
theorem dX11_untold_86 : decode cX11_untold 86 = .ok (.ifCond .ne 8, 3) := by decide +kernel
theorem dX11_untold_89 : decode cX11_untold 89 = .ok (.aload_n 0, 1) := by decide +kernel
theorem dX11_untold_90 : decode cX11_untold 90 = .ok (.invokevirtual 130, 3) := by decide +kernel
theorem dX11_untold_93 : decode cX11_untold 93 = .ok (.ireturn, 1) := by decide +kernel
theorem dX11_untold_94 : decode cX11_untold 94 = .ok (.iload 4, 2) := by decide +kernel
theorem dX11_untold_96 : decode cX11_untold 96 = .ok (.istore 5, 2) := by decide +kernel
theorem dX11_untold_98 : decode cX11_untold 98 = .ok (.iload_n 3, 1) := by decide +kernel
theorem dX11_untold_99 : decode cX11_untold 99 = .ok (.istore 6, 2) := by decide +kernel
theorem dX11_untold_101 : decode cX11_untold 101 = .ok (.iload 6, 2) := by decide +kernel
theorem dX11_untold_103 : decode cX11_untold 103 = .ok (.ifCond .eq 21, 3) := by decide +kernel
theorem dX11_untold_106 : decode cX11_untold 106 = .ok (.iload 5, 2) := by decide +kernel
theorem dX11_untold_108 : decode cX11_untold 108 = .ok (.iload 6, 2) := by decide +kernel
theorem dX11_untold_110 : decode cX11_untold 110 = .ok (.irem, 1) := by decide +kernel
theorem dX11_untold_111 : decode cX11_untold 111 = .ok (.istore 7, 2) := by decide +kernel
theorem dX11_untold_113 : decode cX11_untold 113 = .ok (.iload 6, 2) := by decide +kernel
theorem dX11_untold_115 : decode cX11_untold 115 = .ok (.istore 5, 2) := by decide +kernel
theorem dX11_untold_117 : decode cX11_untold 117 = .ok (.iload 7, 2) := by decide +kernel
theorem dX11_untold_119 : decode cX11_untold 119 = .ok (.istore 6, 2) := by decide +kernel
theorem dX11_untold_121 : decode cX11_untold 121 = .ok (.goto (-20), 3) := by decide +kernel
theorem dX11_untold_124 : decode cX11_untold 124 = .ok (.aload_n 0, 1) := by decide +kernel
theorem dX11_untold_125 : decode cX11_untold 125 = .ok (.iload 4, 2) := by decide +kernel
theorem dX11_untold_127 : decode cX11_untold 127 = .ok (.iload 5, 2) := by decide +kernel
theorem dX11_untold_129 : decode cX11_untold 129 = .ok (.idiv, 1) := by decide +kernel
theorem dX11_untold_130 : decode cX11_untold 130 = .ok (.i2l, 1) := by decide +kernel
theorem dX11_untold_131 : decode cX11_untold 131 = .ok (.putfield 274, 3) := by decide +kernel
theorem dX11_untold_134 : decode cX11_untold 134 = .ok (.aload_n 0, 1) := by decide +kernel
theorem dX11_untold_135 : decode cX11_untold 135 = .ok (.iload_n 3, 1) := by decide +kernel
theorem dX11_untold_136 : decode cX11_untold 136 = .ok (.iload 5, 2) := by decide +kernel
theorem dX11_untold_138 : decode cX11_untold 138 = .ok (.idiv, 1) := by decide +kernel
theorem dX11_untold_139 : decode cX11_untold 139 = .ok (.i2l, 1) := by decide +kernel
theorem dX11_untold_140 : decode cX11_untold 140 = .ok (.putfield 19, 3) := by decide +kernel
theorem dX11_untold_143 : decode cX11_untold 143 = .ok (.iconst 1, 1) := by decide +kernel
theorem dX11_untold_144 : decode cX11_untold 144 = .ok (.ireturn, 1) := by decide +kernel
theorem dX11_part_0 : decode cX11_part 0 = .ok (.iload_n 1, 1) := by decide +kernel
theorem dX11_part_1 : decode cX11_part 1 = .ok (.i2l, 1) := by decide +kernel
theorem dX11_part_2 : decode cX11_part 2 = .ok (.lconst 0, 1) := by decide +kernel
theorem dX11_part_3 : decode cX11_part 3 = .ok (.lconst 1, 1) := by decide +kernel
theorem dX11_part_4 : decode cX11_part 4 = .ok (.invokestatic 66, 3) := by decide +kernel
theorem dX11_part_7 : decode cX11_part 7 = .ok (.ifCond .eq 22, 3) := by decide +kernel
theorem dX11_part_10 : decode cX11_part 10 = .ok (.iload_n 1, 1) := by decide +kernel
theorem dX11_part_11 : decode cX11_part 11 = .ok (.ifCond .ne 10, 3) := by decide +kernel
theorem dX11_part_14 : decode cX11_part 14 = .ok (.aload_n 0, 1) := by decide +kernel
theorem dX11_part_15 : decode cX11_part 15 = .ok (.getfield 274, 3) := by decide +kernel
theorem dX11_part_18 : decode cX11_part 18 = .ok (.goto 7, 3) := by decide +kernel
theorem dX11_part_21 : decode cX11_part 21 = .ok (.aload_n 0, 1) := by decide +kernel
theorem dX11_part_22 : decode cX11_part 22 = .ok (.getfield 19, 3) := by decide +kernel
theorem dX11_part_25 : decode cX11_part 25 = .ok (.l2i, 1) := by decide +kernel
theorem dX11_part_26 : decode cX11_part 26 = .ok (.goto 9, 3) := by decide +kernel
theorem dX11_part_29 : decode cX11_part 29 = .ok (.aload_n 0, 1) := by decide +kernel
theorem dX11_part_30 : decode cX11_part 30 = .ok (.bipush (-2), 2) := by decide +kernel
theorem dX11_part_32 : decode cX11_part 32 = .ok (.invokevirtual 103, 3) := by decide +kernel
theorem dX11_part_35 : decode cX11_part 35 = .ok (.ireturn, 1) := by decide +kernel
theorem dX11_image_0 : decode cX11_image 0 = .ok (.iload_n 1, 1) := by decide +kernel
theorem dX11_image_1 : decode cX11_image 1 = .ok (.i2l, 1) := by decide +kernel
theorem dX11_image_2 : decode cX11_image 2 = .ok (.lconst 0, 1) := by decide +kernel
theorem dX11_image_3 : decode cX11_image 3 = .ok (.lconst 1, 1) := by decide +kernel
theorem dX11_image_4 : decode cX11_image 4 = .ok (.invokestatic 66, 3) := by decide +kernel
theorem dX11_image_7 : decode cX11_image 7 = .ok (.ifCond .ne 10, 3) := by decide +kernel
theorem dX11_image_10 : decode cX11_image 10 = .ok (.aload_n 0, 1) := by decide +kernel
theorem dX11_image_11 : decode cX11_image 11 = .ok (.bipush (-2), 2) := by decide +kernel
theorem dX11_image_13 : decode cX11_image 13 = .ok (.invokevirtual 103, 3) := by decide +kernel
theorem dX11_image_16 : decode cX11_image 16 = .ok (.ireturn, 1) := by decide +kernel
theorem dX11_image_17 : decode cX11_image 17 = .ok (.iconst 0, 1) := by decide +kernel
theorem dX11_image_18 : decode cX11_image 18 = .ok (.istore_n 2, 1) := by decide +kernel
theorem dX11_image_19 : decode cX11_image 19 = .ok (.iload_n 2, 1) := by decide +kernel
theorem dX11_image_20 : decode cX11_image 20 = .ok (.sipush 277, 3) := by decide +kernel
theorem dX11_image_23 : decode cX11_image 23 = .ok (.if_icmp .ge 60, 3) := by decide +kernel
theorem dX11_image_26 : decode cX11_image 26 = .ok (.aload_n 0, 1) := by decide +kernel
theorem dX11_image_27 : decode cX11_image 27 = .ok (.getfield 13, 3) := by decide +kernel
theorem dX11_image_30 : decode cX11_image 30 = .ok (.iload_n 2, 1) := by decide +kernel
theorem dX11_image_31 : decode cX11_image 31 = .ok (.iload_n 1, 1) := by decide +kernel
theorem dX11_image_32 : decode cX11_image 32 = .ok (.ifCond .ne 12, 3) := by decide +kernel
theorem dX11_image_35 : decode cX11_image 35 = .ok (.aload_n 0, 1) := by decide +kernel
theorem dX11_image_36 : decode cX11_image 36 = .ok (.getfield 7, 3) := by decide +kernel
theorem dX11_image_39 : decode cX11_image 39 = .ok (.iload_n 2, 1) := by decide +kernel
theorem dX11_image_40 : decode cX11_image 40 = .ok (.iaload, 1) := by decide +kernel
theorem dX11_image_41 : decode cX11_image 41 = .ok (.goto 9, 3) := by decide +kernel
theorem dX11_image_44 : decode cX11_image 44 = .ok (.aload_n 0, 1) := by decide +kernel
theorem dX11_image_45 : decode cX11_image 45 = .ok (.getfield 13, 3) := by decide +kernel
theorem dX11_image_48 : decode cX11_image 48 = .ok (.iload_n 2, 1) := by decide +kernel
theorem dX11_image_49 : decode cX11_image 49 = .ok (.iaload, 1) := by decide +kernel
theorem dX11_image_50 : decode cX11_image 50 = .ok (.iastore, 1) := by decide +kernel
theorem dX11_image_51 : decode cX11_image 51 = .ok (.aload_n 0, 1) := by decide +kernel
theorem dX11_image_52 : decode cX11_image 52 = .ok (.getfield 16, 3) := by decide +kernel
theorem dX11_image_55 : decode cX11_image 55 = .ok (.iload_n 2, 1) := by decide +kernel
theorem dX11_image_56 : decode cX11_image 56 = .ok (.iload_n 1, 1) := by decide +kernel
theorem dX11_image_57 : decode cX11_image 57 = .ok (.iconst 1, 1) := by decide +kernel
theorem dX11_image_58 : decode cX11_image 58 = .ok (.if_icmp .ne 12, 3) := by decide +kernel
theorem dX11_image_61 : decode cX11_image 61 = .ok (.aload_n 0, 1) := by decide +kernel
theorem dX11_image_62 : decode cX11_image 62 = .ok (.getfield 7, 3) := by decide +kernel
theorem dX11_image_65 : decode cX11_image 65 = .ok (.iload_n 2, 1) := by decide +kernel
theorem dX11_image_66 : decode cX11_image 66 = .ok (.iaload, 1) := by decide +kernel
theorem dX11_image_67 : decode cX11_image 67 = .ok (.goto 9, 3) := by decide +kernel
theorem dX11_image_70 : decode cX11_image 70 = .ok (.aload_n 0, 1) := by decide +kernel
theorem dX11_image_71 : decode cX11_image 71 = .ok (.getfield 16, 3) := by decide +kernel
theorem dX11_image_74 : decode cX11_image 74 = .ok (.iload_n 2, 1) := by decide +kernel
theorem dX11_image_75 : decode cX11_image 75 = .ok (.iaload, 1) := by decide +kernel
theorem dX11_image_76 : decode cX11_image 76 = .ok (.iastore, 1) := by decide +kernel
theorem dX11_image_77 : decode cX11_image 77 = .ok (.iinc 2 1, 3) := by decide +kernel
theorem dX11_image_80 : decode cX11_image 80 = .ok (.goto (-61), 3) := by decide +kernel
theorem dX11_image_83 : decode cX11_image 83 = .ok (.aload_n 0, 1) := by decide +kernel
theorem dX11_image_84 : decode cX11_image 84 = .ok (.aload_n 0, 1) := by decide +kernel
theorem dX11_image_85 : decode cX11_image 85 = .ok (.getfield 277, 3) := by decide +kernel
theorem dX11_image_88 : decode cX11_image 88 = .ok (.ifCond .ne 7, 3) := by decide +kernel
theorem dX11_image_91 : decode cX11_image 91 = .ok (.iload_n 1, 1) := by decide +kernel
theorem dX11_image_92 : decode cX11_image 92 = .ok (.ifCond .ne 7, 3) := by decide +kernel
theorem dX11_image_95 : decode cX11_image 95 = .ok (.iconst 1, 1) := by decide +kernel
theorem dX11_image_96 : decode cX11_image 96 = .ok (.goto 4, 3) := by decide +kernel
theorem dX11_image_99 : decode cX11_image 99 = .ok (.iconst 0, 1) := by decide +kernel
theorem dX11_image_100 : decode cX11_image 100 = .ok (.putfield 277, 3) := by decide +kernel
theorem dX11_image_103 : decode cX11_image 103 = .ok (.aload_n 0, 1) := by decide +kernel
theorem dX11_image_104 : decode cX11_image 104 = .ok (.aload_n 0, 1) := by decide +kernel
theorem dX11_image_105 : decode cX11_image 105 = .ok (.getfield 281, 3) := by decide +kernel
theorem dX11_image_108 : decode cX11_image 108 = .ok (.ifCond .ne 8, 3) := by decide +kernel
theorem dX11_image_111 : decode cX11_image 111 = .ok (.iload_n 1, 1) := by decide +kernel
theorem dX11_image_112 : decode cX11_image 112 = .ok (.iconst 1, 1) := by decide +kernel
theorem dX11_image_113 : decode cX11_image 113 = .ok (.if_icmp .ne 7, 3) := by decide +kernel
theorem dX11_image_116 : decode cX11_image 116 = .ok (.iconst 1, 1) := by decide +kernel
theorem dX11_image_117 : decode cX11_image 117 = .ok (.goto 4, 3) := by decide +kernel
theorem dX11_image_120 : decode cX11_image 120 = .ok (.iconst 0, 1) := by decide +kernel
theorem dX11_image_121 : decode cX11_image 121 = .ok (.putfield 281, 3) := by decide +kernel
theorem dX11_image_124 : decode cX11_image 124 = .ok (.iconst 1, 1) := by decide +kernel
theorem dX11_image_125 : decode cX11_image 125 = .ok (.ireturn, 1) := by decide +kernel
theorem dX11_from_0 : decode cX11_from 0 = .ok (.iload_n 1, 1) := by decide +kernel
theorem dX11_from_1 : decode cX11_from 1 = .ok (.i2l, 1) := by decide +kernel
theorem dX11_from_2 : decode cX11_from 2 = .ok (.lconst 0, 1) := by decide +kernel
theorem dX11_from_3 : decode cX11_from 3 = .ok (.lconst 1, 1) := by decide +kernel
theorem dX11_from_4 : decode cX11_from 4 = .ok (.invokestatic 66, 3) := by decide +kernel
theorem dX11_from_7 : decode cX11_from 7 = .ok (.ifCond .ne 10, 3) := by decide +kernel
theorem dX11_from_10 : decode cX11_from 10 = .ok (.aload_n 0, 1) := by decide +kernel
theorem dX11_from_11 : decode cX11_from 11 = .ok (.bipush (-2), 2) := by decide +kernel
theorem dX11_from_13 : decode cX11_from 13 = .ok (.invokevirtual 103, 3) := by decide +kernel
theorem dX11_from_16 : decode cX11_from 16 = .ok (.ireturn, 1) := by decide +kernel
theorem dX11_from_17 : decode cX11_from 17 = .ok (.iload_n 1, 1) := by decide +kernel
theorem dX11_from_18 : decode cX11_from 18 = .ok (.ifCond .ne 13, 3) := by decide +kernel
theorem dX11_from_21 : decode cX11_from 21 = .ok (.aload_n 0, 1) := by decide +kernel
theorem dX11_from_22 : decode cX11_from 22 = .ok (.getfield 277, 3) := by decide +kernel
theorem dX11_from_25 : decode cX11_from 25 = .ok (.ifCond .ne 18, 3) := by decide +kernel
theorem dX11_from_28 : decode cX11_from 28 = .ok (.goto 10, 3) := by decide +kernel
theorem dX11_from_31 : decode cX11_from 31 = .ok (.aload_n 0, 1) := by decide +kernel
theorem dX11_from_32 : decode cX11_from 32 = .ok (.getfield 281, 3) := by decide +kernel
theorem dX11_from_35 : decode cX11_from 35 = .ok (.ifCond .ne 8, 3) := by decide +kernel
theorem dX11_from_38 : decode cX11_from 38 = .ok (.aload_n 0, 1) := by decide +kernel
theorem dX11_from_39 : decode cX11_from 39 = .ok (.invokevirtual 130, 3) := by decide +kernel
theorem dX11_from_42 : decode cX11_from 42 = .ok (.ireturn, 1) := by decide +kernel
theorem dX11_from_43 : decode cX11_from 43 = .ok (.iconst 0, 1) := by decide +kernel
theorem dX11_from_44 : decode cX11_from 44 = .ok (.istore_n 2, 1) := by decide +kernel
theorem dX11_from_45 : decode cX11_from 45 = .ok (.iload_n 2, 1) := by decide +kernel
theorem dX11_from_46 : decode cX11_from 46 = .ok (.sipush 277, 3) := by decide +kernel
theorem dX11_from_49 : decode cX11_from 49 = .ok (.if_icmp .ge 34, 3) := by decide +kernel
theorem dX11_from_52 : decode cX11_from 52 = .ok (.aload_n 0, 1) := by decide +kernel
theorem dX11_from_53 : decode cX11_from 53 = .ok (.getfield 7, 3) := by decide +kernel
theorem dX11_from_56 : decode cX11_from 56 = .ok (.iload_n 2, 1) := by decide +kernel
theorem dX11_from_57 : decode cX11_from 57 = .ok (.iload_n 1, 1) := by decide +kernel
theorem dX11_from_58 : decode cX11_from 58 = .ok (.ifCond .ne 12, 3) := by decide +kernel
theorem dX11_from_61 : decode cX11_from 61 = .ok (.aload_n 0, 1) := by decide +kernel
theorem dX11_from_62 : decode cX11_from 62 = .ok (.getfield 13, 3) := by decide +kernel
theorem dX11_from_65 : decode cX11_from 65 = .ok (.iload_n 2, 1) := by decide +kernel
theorem dX11_from_66 : decode cX11_from 66 = .ok (.iaload, 1) := by decide +kernel
theorem dX11_from_67 : decode cX11_from 67 = .ok (.goto 9, 3) := by decide +kernel
theorem dX11_from_70 : decode cX11_from 70 = .ok (.aload_n 0, 1) := by decide +kernel
theorem dX11_from_71 : decode cX11_from 71 = .ok (.getfield 16, 3) := by decide +kernel
theorem dX11_from_74 : decode cX11_from 74 = .ok (.iload_n 2, 1) := by decide +kernel
theorem dX11_from_75 : decode cX11_from 75 = .ok (.iaload, 1) := by decide +kernel
theorem dX11_from_76 : decode cX11_from 76 = .ok (.iastore, 1) := by decide +kernel
theorem dX11_from_77 : decode cX11_from 77 = .ok (.iinc 2 1, 3) := by decide +kernel
theorem dX11_from_80 : decode cX11_from 80 = .ok (.goto (-35), 3) := by decide +kernel
theorem dX11_from_83 : decode cX11_from 83 = .ok (.iconst 1, 1) := by decide +kernel
theorem dX11_from_84 : decode cX11_from 84 = .ok (.ireturn, 1) := by decide +kernel
theorem dX11_status_0 : decode cX11_status 0 = .ok (.iload_n 1, 1) := by decide +kernel
theorem dX11_status_1 : decode cX11_status 1 = .ok (.i2l, 1) := by decide +kernel
theorem dX11_status_2 : decode cX11_status 2 = .ok (.lconst 0, 1) := by decide +kernel
theorem dX11_status_3 : decode cX11_status 3 = .ok (.ldc2_w 109, 3) := by decide +kernel
theorem dX11_status_6 : decode cX11_status 6 = .ok (.invokestatic 66, 3) := by decide +kernel
theorem dX11_status_9 : decode cX11_status 9 = .ok (.ifCond .eq 12, 3) := by decide +kernel
theorem dX11_status_12 : decode cX11_status 12 = .ok (.aload_n 0, 1) := by decide +kernel
theorem dX11_status_13 : decode cX11_status 13 = .ok (.getfield 23, 3) := by decide +kernel
theorem dX11_status_16 : decode cX11_status 16 = .ok (.iload_n 1, 1) := by decide +kernel
theorem dX11_status_17 : decode cX11_status 17 = .ok (.iaload, 1) := by decide +kernel
theorem dX11_status_18 : decode cX11_status 18 = .ok (.goto 8, 3) := by decide +kernel
theorem dX11_status_21 : decode cX11_status 21 = .ok (.aload_n 0, 1) := by decide +kernel
theorem dX11_status_22 : decode cX11_status 22 = .ok (.iconst (-1), 1) := by decide +kernel
theorem dX11_status_23 : decode cX11_status 23 = .ok (.invokevirtual 103, 3) := by decide +kernel
theorem dX11_status_26 : decode cX11_status 26 = .ok (.ireturn, 1) := by decide +kernel
theorem dX11_count_0 : decode cX11_count 0 = .ok (.iload_n 1, 1) := by decide +kernel
theorem dX11_count_1 : decode cX11_count 1 = .ok (.i2l, 1) := by decide +kernel
theorem dX11_count_2 : decode cX11_count 2 = .ok (.lconst 0, 1) := by decide +kernel
theorem dX11_count_3 : decode cX11_count 3 = .ok (.ldc2_w 265, 3) := by decide +kernel
theorem dX11_count_6 : decode cX11_count 6 = .ok (.invokestatic 66, 3) := by decide +kernel
theorem dX11_count_9 : decode cX11_count 9 = .ok (.ifCond .eq 12, 3) := by decide +kernel
theorem dX11_count_12 : decode cX11_count 12 = .ok (.aload_n 0, 1) := by decide +kernel
theorem dX11_count_13 : decode cX11_count 13 = .ok (.getfield 7, 3) := by decide +kernel
theorem dX11_count_16 : decode cX11_count 16 = .ok (.iload_n 1, 1) := by decide +kernel
theorem dX11_count_17 : decode cX11_count 17 = .ok (.iaload, 1) := by decide +kernel
theorem dX11_count_18 : decode cX11_count 18 = .ok (.goto 9, 3) := by decide +kernel
theorem dX11_count_21 : decode cX11_count 21 = .ok (.aload_n 0, 1) := by decide +kernel
theorem dX11_count_22 : decode cX11_count 22 = .ok (.bipush (-2), 2) := by decide +kernel
theorem dX11_count_24 : decode cX11_count 24 = .ok (.invokevirtual 103, 3) := by decide +kernel
theorem dX11_count_27 : decode cX11_count 27 = .ok (.ireturn, 1) := by decide +kernel
theorem dX11_digest_0 : decode cX11_digest 0 = .ok (.ldc2_w 284, 3) := by decide +kernel
theorem dX11_digest_3 : decode cX11_digest 3 = .ok (.lstore_n 1, 1) := by decide +kernel
theorem dX11_digest_4 : decode cX11_digest 4 = .ok (.iconst 0, 1) := by decide +kernel
theorem dX11_digest_5 : decode cX11_digest 5 = .ok (.istore_n 3, 1) := by decide +kernel
theorem dX11_digest_6 : decode cX11_digest 6 = .ok (.iload_n 3, 1) := by decide +kernel
theorem dX11_digest_7 : decode cX11_digest 7 = .ok (.iconst 4, 1) := by decide +kernel
theorem dX11_digest_8 : decode cX11_digest 8 = .ok (.if_icmp .ge 23, 3) := by decide +kernel
theorem dX11_digest_11 : decode cX11_digest 11 = .ok (.ldc2_w 261, 3) := by decide +kernel
theorem dX11_digest_14 : decode cX11_digest 14 = .ok (.lload_n 1, 1) := by decide +kernel
theorem dX11_digest_15 : decode cX11_digest 15 = .ok (.lmul, 1) := by decide +kernel
theorem dX11_digest_16 : decode cX11_digest 16 = .ok (.aload_n 0, 1) := by decide +kernel
theorem dX11_digest_17 : decode cX11_digest 17 = .ok (.getfield 7, 3) := by decide +kernel
theorem dX11_digest_20 : decode cX11_digest 20 = .ok (.iload_n 3, 1) := by decide +kernel
theorem dX11_digest_21 : decode cX11_digest 21 = .ok (.iaload, 1) := by decide +kernel
theorem dX11_digest_22 : decode cX11_digest 22 = .ok (.i2l, 1) := by decide +kernel
theorem dX11_digest_23 : decode cX11_digest 23 = .ok (.ladd, 1) := by decide +kernel
theorem dX11_digest_24 : decode cX11_digest 24 = .ok (.lstore_n 1, 1) := by decide +kernel
theorem dX11_digest_25 : decode cX11_digest 25 = .ok (.iinc 3 1, 3) := by decide +kernel
theorem dX11_digest_28 : decode cX11_digest 28 = .ok (.goto (-22), 3) := by decide +kernel
theorem dX11_digest_31 : decode cX11_digest 31 = .ok (.iconst 0, 1) := by decide +kernel
theorem dX11_digest_32 : decode cX11_digest 32 = .ok (.istore_n 3, 1) := by decide +kernel
theorem dX11_digest_33 : decode cX11_digest 33 = .ok (.iload_n 3, 1) := by decide +kernel
theorem dX11_digest_34 : decode cX11_digest 34 = .ok (.aload_n 0, 1) := by decide +kernel
theorem dX11_digest_35 : decode cX11_digest 35 = .ok (.getfield 7, 3) := by decide +kernel
theorem dX11_digest_38 : decode cX11_digest 38 = .ok (.iconst 0, 1) := by decide +kernel
theorem dX11_digest_39 : decode cX11_digest 39 = .ok (.iaload, 1) := by decide +kernel
theorem dX11_digest_40 : decode cX11_digest 40 = .ok (.if_icmp .ge 59, 3) := by decide +kernel
theorem dX11_digest_43 : decode cX11_digest 43 = .ok (.ldc2_w 261, 3) := by decide +kernel
theorem dX11_digest_46 : decode cX11_digest 46 = .ok (.lload_n 1, 1) := by decide +kernel
theorem dX11_digest_47 : decode cX11_digest 47 = .ok (.lmul, 1) := by decide +kernel
theorem dX11_digest_48 : decode cX11_digest 48 = .ok (.aload_n 0, 1) := by decide +kernel
theorem dX11_digest_49 : decode cX11_digest 49 = .ok (.getfield 7, 3) := by decide +kernel
theorem dX11_digest_52 : decode cX11_digest 52 = .ok (.iconst 5, 1) := by decide +kernel
theorem dX11_digest_53 : decode cX11_digest 53 = .ok (.iload_n 3, 1) := by decide +kernel
theorem dX11_digest_54 : decode cX11_digest 54 = .ok (.iadd, 1) := by decide +kernel
theorem dX11_digest_55 : decode cX11_digest 55 = .ok (.iaload, 1) := by decide +kernel
theorem dX11_digest_56 : decode cX11_digest 56 = .ok (.i2l, 1) := by decide +kernel
theorem dX11_digest_57 : decode cX11_digest 57 = .ok (.ladd, 1) := by decide +kernel
theorem dX11_digest_58 : decode cX11_digest 58 = .ok (.lstore_n 1, 1) := by decide +kernel
theorem dX11_digest_59 : decode cX11_digest 59 = .ok (.ldc2_w 261, 3) := by decide +kernel
theorem dX11_digest_62 : decode cX11_digest 62 = .ok (.lload_n 1, 1) := by decide +kernel
theorem dX11_digest_63 : decode cX11_digest 63 = .ok (.lmul, 1) := by decide +kernel
theorem dX11_digest_64 : decode cX11_digest 64 = .ok (.aload_n 0, 1) := by decide +kernel
theorem dX11_digest_65 : decode cX11_digest 65 = .ok (.getfield 7, 3) := by decide +kernel
theorem dX11_digest_68 : decode cX11_digest 68 = .ok (.bipush 13, 2) := by decide +kernel
theorem dX11_digest_70 : decode cX11_digest 70 = .ok (.iload_n 3, 1) := by decide +kernel
theorem dX11_digest_71 : decode cX11_digest 71 = .ok (.iadd, 1) := by decide +kernel
theorem dX11_digest_72 : decode cX11_digest 72 = .ok (.iaload, 1) := by decide +kernel
theorem dX11_digest_73 : decode cX11_digest 73 = .ok (.i2l, 1) := by decide +kernel
theorem dX11_digest_74 : decode cX11_digest 74 = .ok (.ladd, 1) := by decide +kernel
theorem dX11_digest_75 : decode cX11_digest 75 = .ok (.lstore_n 1, 1) := by decide +kernel
theorem dX11_digest_76 : decode cX11_digest 76 = .ok (.ldc2_w 261, 3) := by decide +kernel
theorem dX11_digest_79 : decode cX11_digest 79 = .ok (.lload_n 1, 1) := by decide +kernel
theorem dX11_digest_80 : decode cX11_digest 80 = .ok (.lmul, 1) := by decide +kernel
theorem dX11_digest_81 : decode cX11_digest 81 = .ok (.aload_n 0, 1) := by decide +kernel
theorem dX11_digest_82 : decode cX11_digest 82 = .ok (.getfield 7, 3) := by decide +kernel
theorem dX11_digest_85 : decode cX11_digest 85 = .ok (.bipush 21, 2) := by decide +kernel
theorem dX11_digest_87 : decode cX11_digest 87 = .ok (.iload_n 3, 1) := by decide +kernel
theorem dX11_digest_88 : decode cX11_digest 88 = .ok (.iadd, 1) := by decide +kernel
theorem dX11_digest_89 : decode cX11_digest 89 = .ok (.iaload, 1) := by decide +kernel
theorem dX11_digest_90 : decode cX11_digest 90 = .ok (.i2l, 1) := by decide +kernel
theorem dX11_digest_91 : decode cX11_digest 91 = .ok (.ladd, 1) := by decide +kernel
theorem dX11_digest_92 : decode cX11_digest 92 = .ok (.lstore_n 1, 1) := by decide +kernel
theorem dX11_digest_93 : decode cX11_digest 93 = .ok (.iinc 3 1, 3) := by decide +kernel
theorem dX11_digest_96 : decode cX11_digest 96 = .ok (.goto (-63), 3) := by decide +kernel
theorem dX11_digest_99 : decode cX11_digest 99 = .ok (.iconst 0, 1) := by decide +kernel
theorem dX11_digest_100 : decode cX11_digest 100 = .ok (.istore_n 3, 1) := by decide +kernel
theorem dX11_digest_101 : decode cX11_digest 101 = .ok (.iload_n 3, 1) := by decide +kernel
theorem dX11_digest_102 : decode cX11_digest 102 = .ok (.aload_n 0, 1) := by decide +kernel
theorem dX11_digest_103 : decode cX11_digest 103 = .ok (.getfield 7, 3) := by decide +kernel
theorem dX11_digest_106 : decode cX11_digest 106 = .ok (.iconst 1, 1) := by decide +kernel
theorem dX11_digest_107 : decode cX11_digest 107 = .ok (.iaload, 1) := by decide +kernel
theorem dX11_digest_108 : decode cX11_digest 108 = .ok (.if_icmp .ge 43, 3) := by decide +kernel
theorem dX11_digest_111 : decode cX11_digest 111 = .ok (.ldc2_w 261, 3) := by decide +kernel
theorem dX11_digest_114 : decode cX11_digest 114 = .ok (.lload_n 1, 1) := by decide +kernel
theorem dX11_digest_115 : decode cX11_digest 115 = .ok (.lmul, 1) := by decide +kernel
theorem dX11_digest_116 : decode cX11_digest 116 = .ok (.aload_n 0, 1) := by decide +kernel
theorem dX11_digest_117 : decode cX11_digest 117 = .ok (.getfield 7, 3) := by decide +kernel
theorem dX11_digest_120 : decode cX11_digest 120 = .ok (.bipush 29, 2) := by decide +kernel
theorem dX11_digest_122 : decode cX11_digest 122 = .ok (.iload_n 3, 1) := by decide +kernel
theorem dX11_digest_123 : decode cX11_digest 123 = .ok (.iadd, 1) := by decide +kernel
theorem dX11_digest_124 : decode cX11_digest 124 = .ok (.iaload, 1) := by decide +kernel
theorem dX11_digest_125 : decode cX11_digest 125 = .ok (.i2l, 1) := by decide +kernel
theorem dX11_digest_126 : decode cX11_digest 126 = .ok (.ladd, 1) := by decide +kernel
theorem dX11_digest_127 : decode cX11_digest 127 = .ok (.lstore_n 1, 1) := by decide +kernel
theorem dX11_digest_128 : decode cX11_digest 128 = .ok (.ldc2_w 261, 3) := by decide +kernel
theorem dX11_digest_131 : decode cX11_digest 131 = .ok (.lload_n 1, 1) := by decide +kernel
theorem dX11_digest_132 : decode cX11_digest 132 = .ok (.lmul, 1) := by decide +kernel
theorem dX11_digest_133 : decode cX11_digest 133 = .ok (.aload_n 0, 1) := by decide +kernel
theorem dX11_digest_134 : decode cX11_digest 134 = .ok (.getfield 7, 3) := by decide +kernel
theorem dX11_digest_137 : decode cX11_digest 137 = .ok (.bipush 33, 2) := by decide +kernel
theorem dX11_digest_139 : decode cX11_digest 139 = .ok (.iload_n 3, 1) := by decide +kernel
theorem dX11_digest_140 : decode cX11_digest 140 = .ok (.iadd, 1) := by decide +kernel
theorem dX11_digest_141 : decode cX11_digest 141 = .ok (.iaload, 1) := by decide +kernel
theorem dX11_digest_142 : decode cX11_digest 142 = .ok (.i2l, 1) := by decide +kernel
theorem dX11_digest_143 : decode cX11_digest 143 = .ok (.ladd, 1) := by decide +kernel
theorem dX11_digest_144 : decode cX11_digest 144 = .ok (.lstore_n 1, 1) := by decide +kernel
theorem dX11_digest_145 : decode cX11_digest 145 = .ok (.iinc 3 1, 3) := by decide +kernel
theorem dX11_digest_148 : decode cX11_digest 148 = .ok (.goto (-47), 3) := by decide +kernel
theorem dX11_digest_151 : decode cX11_digest 151 = .ok (.iconst 0, 1) := by decide +kernel
theorem dX11_digest_152 : decode cX11_digest 152 = .ok (.istore_n 3, 1) := by decide +kernel
theorem dX11_digest_153 : decode cX11_digest 153 = .ok (.iload_n 3, 1) := by decide +kernel
theorem dX11_digest_154 : decode cX11_digest 154 = .ok (.aload_n 0, 1) := by decide +kernel
theorem dX11_digest_155 : decode cX11_digest 155 = .ok (.getfield 7, 3) := by decide +kernel
theorem dX11_digest_158 : decode cX11_digest 158 = .ok (.iconst 2, 1) := by decide +kernel
theorem dX11_digest_159 : decode cX11_digest 159 = .ok (.iaload, 1) := by decide +kernel
theorem dX11_digest_160 : decode cX11_digest 160 = .ok (.if_icmp .ge 26, 3) := by decide +kernel
theorem dX11_digest_163 : decode cX11_digest 163 = .ok (.ldc2_w 261, 3) := by decide +kernel
theorem dX11_digest_166 : decode cX11_digest 166 = .ok (.lload_n 1, 1) := by decide +kernel
theorem dX11_digest_167 : decode cX11_digest 167 = .ok (.lmul, 1) := by decide +kernel
theorem dX11_digest_168 : decode cX11_digest 168 = .ok (.aload_n 0, 1) := by decide +kernel
theorem dX11_digest_169 : decode cX11_digest 169 = .ok (.getfield 7, 3) := by decide +kernel
theorem dX11_digest_172 : decode cX11_digest 172 = .ok (.bipush 77, 2) := by decide +kernel
theorem dX11_digest_174 : decode cX11_digest 174 = .ok (.iload_n 3, 1) := by decide +kernel
theorem dX11_digest_175 : decode cX11_digest 175 = .ok (.iadd, 1) := by decide +kernel
theorem dX11_digest_176 : decode cX11_digest 176 = .ok (.iaload, 1) := by decide +kernel
theorem dX11_digest_177 : decode cX11_digest 177 = .ok (.i2l, 1) := by decide +kernel
theorem dX11_digest_178 : decode cX11_digest 178 = .ok (.ladd, 1) := by decide +kernel
theorem dX11_digest_179 : decode cX11_digest 179 = .ok (.lstore_n 1, 1) := by decide +kernel
theorem dX11_digest_180 : decode cX11_digest 180 = .ok (.iinc 3 1, 3) := by decide +kernel
theorem dX11_digest_183 : decode cX11_digest 183 = .ok (.goto (-30), 3) := by decide +kernel
theorem dX11_digest_186 : decode cX11_digest 186 = .ok (.iconst 0, 1) := by decide +kernel
theorem dX11_digest_187 : decode cX11_digest 187 = .ok (.istore_n 3, 1) := by decide +kernel
theorem dX11_digest_188 : decode cX11_digest 188 = .ok (.iload_n 3, 1) := by decide +kernel
theorem dX11_digest_189 : decode cX11_digest 189 = .ok (.bipush 10, 2) := by decide +kernel
theorem dX11_digest_191 : decode cX11_digest 191 = .ok (.if_icmp .ge 26, 3) := by decide +kernel
theorem dX11_digest_194 : decode cX11_digest 194 = .ok (.ldc2_w 261, 3) := by decide +kernel
theorem dX11_digest_197 : decode cX11_digest 197 = .ok (.lload_n 1, 1) := by decide +kernel
theorem dX11_digest_198 : decode cX11_digest 198 = .ok (.lmul, 1) := by decide +kernel
theorem dX11_digest_199 : decode cX11_digest 199 = .ok (.aload_n 0, 1) := by decide +kernel
theorem dX11_digest_200 : decode cX11_digest 200 = .ok (.getfield 7, 3) := by decide +kernel
theorem dX11_digest_203 : decode cX11_digest 203 = .ok (.bipush 37, 2) := by decide +kernel
theorem dX11_digest_205 : decode cX11_digest 205 = .ok (.iload_n 3, 1) := by decide +kernel
theorem dX11_digest_206 : decode cX11_digest 206 = .ok (.iadd, 1) := by decide +kernel
theorem dX11_digest_207 : decode cX11_digest 207 = .ok (.iaload, 1) := by decide +kernel
theorem dX11_digest_208 : decode cX11_digest 208 = .ok (.i2l, 1) := by decide +kernel
theorem dX11_digest_209 : decode cX11_digest 209 = .ok (.ladd, 1) := by decide +kernel
theorem dX11_digest_210 : decode cX11_digest 210 = .ok (.lstore_n 1, 1) := by decide +kernel
theorem dX11_digest_211 : decode cX11_digest 211 = .ok (.iinc 3 1, 3) := by decide +kernel
theorem dX11_digest_214 : decode cX11_digest 214 = .ok (.goto (-26), 3) := by decide +kernel
theorem dX11_digest_217 : decode cX11_digest 217 = .ok (.iconst 0, 1) := by decide +kernel
theorem dX11_digest_218 : decode cX11_digest 218 = .ok (.istore_n 3, 1) := by decide +kernel
theorem dX11_digest_219 : decode cX11_digest 219 = .ok (.iload_n 3, 1) := by decide +kernel
theorem dX11_digest_220 : decode cX11_digest 220 = .ok (.iconst 3, 1) := by decide +kernel
theorem dX11_digest_221 : decode cX11_digest 221 = .ok (.aload_n 0, 1) := by decide +kernel
theorem dX11_digest_222 : decode cX11_digest 222 = .ok (.getfield 7, 3) := by decide +kernel
theorem dX11_digest_225 : decode cX11_digest 225 = .ok (.iconst 3, 1) := by decide +kernel
theorem dX11_digest_226 : decode cX11_digest 226 = .ok (.iaload, 1) := by decide +kernel
theorem dX11_digest_227 : decode cX11_digest 227 = .ok (.imul, 1) := by decide +kernel
theorem dX11_digest_228 : decode cX11_digest 228 = .ok (.if_icmp .ge 26, 3) := by decide +kernel
theorem dX11_digest_231 : decode cX11_digest 231 = .ok (.ldc2_w 261, 3) := by decide +kernel
theorem dX11_digest_234 : decode cX11_digest 234 = .ok (.lload_n 1, 1) := by decide +kernel
theorem dX11_digest_235 : decode cX11_digest 235 = .ok (.lmul, 1) := by decide +kernel
theorem dX11_digest_236 : decode cX11_digest 236 = .ok (.aload_n 0, 1) := by decide +kernel
theorem dX11_digest_237 : decode cX11_digest 237 = .ok (.getfield 7, 3) := by decide +kernel
theorem dX11_digest_240 : decode cX11_digest 240 = .ok (.bipush 47, 2) := by decide +kernel
theorem dX11_digest_242 : decode cX11_digest 242 = .ok (.iload_n 3, 1) := by decide +kernel
theorem dX11_digest_243 : decode cX11_digest 243 = .ok (.iadd, 1) := by decide +kernel
theorem dX11_digest_244 : decode cX11_digest 244 = .ok (.iaload, 1) := by decide +kernel
theorem dX11_digest_245 : decode cX11_digest 245 = .ok (.i2l, 1) := by decide +kernel
theorem dX11_digest_246 : decode cX11_digest 246 = .ok (.ladd, 1) := by decide +kernel
theorem dX11_digest_247 : decode cX11_digest 247 = .ok (.lstore_n 1, 1) := by decide +kernel
theorem dX11_digest_248 : decode cX11_digest 248 = .ok (.iinc 3 1, 3) := by decide +kernel
theorem dX11_digest_251 : decode cX11_digest 251 = .ok (.goto (-32), 3) := by decide +kernel
theorem dX11_digest_254 : decode cX11_digest 254 = .ok (.ldc2_w 261, 3) := by decide +kernel
theorem dX11_digest_257 : decode cX11_digest 257 = .ok (.lload_n 1, 1) := by decide +kernel
theorem dX11_digest_258 : decode cX11_digest 258 = .ok (.lmul, 1) := by decide +kernel
theorem dX11_digest_259 : decode cX11_digest 259 = .ok (.aload_n 0, 1) := by decide +kernel
theorem dX11_digest_260 : decode cX11_digest 260 = .ok (.getfield 7, 3) := by decide +kernel
theorem dX11_digest_263 : decode cX11_digest 263 = .ok (.iconst 4, 1) := by decide +kernel
theorem dX11_digest_264 : decode cX11_digest 264 = .ok (.iaload, 1) := by decide +kernel
theorem dX11_digest_265 : decode cX11_digest 265 = .ok (.i2l, 1) := by decide +kernel
theorem dX11_digest_266 : decode cX11_digest 266 = .ok (.ladd, 1) := by decide +kernel
theorem dX11_digest_267 : decode cX11_digest 267 = .ok (.lstore_n 1, 1) := by decide +kernel
theorem dX11_digest_268 : decode cX11_digest 268 = .ok (.ldc2_w 261, 3) := by decide +kernel
theorem dX11_digest_271 : decode cX11_digest 271 = .ok (.lload_n 1, 1) := by decide +kernel
theorem dX11_digest_272 : decode cX11_digest 272 = .ok (.lmul, 1) := by decide +kernel
theorem dX11_digest_273 : decode cX11_digest 273 = .ok (.aload_n 0, 1) := by decide +kernel
theorem dX11_digest_274 : decode cX11_digest 274 = .ok (.getfield 274, 3) := by decide +kernel
theorem dX11_digest_277 : decode cX11_digest 277 = .ok (.ladd, 1) := by decide +kernel
theorem dX11_digest_278 : decode cX11_digest 278 = .ok (.lstore_n 1, 1) := by decide +kernel
theorem dX11_digest_279 : decode cX11_digest 279 = .ok (.ldc2_w 261, 3) := by decide +kernel
theorem dX11_digest_282 : decode cX11_digest 282 = .ok (.lload_n 1, 1) := by decide +kernel
theorem dX11_digest_283 : decode cX11_digest 283 = .ok (.lmul, 1) := by decide +kernel
theorem dX11_digest_284 : decode cX11_digest 284 = .ok (.aload_n 0, 1) := by decide +kernel
theorem dX11_digest_285 : decode cX11_digest 285 = .ok (.getfield 19, 3) := by decide +kernel
theorem dX11_digest_288 : decode cX11_digest 288 = .ok (.ladd, 1) := by decide +kernel
theorem dX11_digest_289 : decode cX11_digest 289 = .ok (.lreturn, 1) := by decide +kernel
theorem dJ6_bitCount_0f7a4_0 : decode cJ6_bitCount_0f7a4 0 = .ok (.iload_n 0, 1) := by decide +kernel
theorem dJ6_bitCount_0f7a4_1 : decode cJ6_bitCount_0f7a4 1 = .ok (.iload_n 0, 1) := by decide +kernel
theorem dJ6_bitCount_0f7a4_2 : decode cJ6_bitCount_0f7a4 2 = .ok (.iconst 1, 1) := by decide +kernel
theorem dJ6_bitCount_0f7a4_3 : decode cJ6_bitCount_0f7a4 3 = .ok (.iushr, 1) := by decide +kernel
theorem dJ6_bitCount_0f7a4_4 : decode cJ6_bitCount_0f7a4 4 = .ok (.ldc_w 265, 3) := by decide +kernel
theorem dJ6_bitCount_0f7a4_7 : decode cJ6_bitCount_0f7a4 7 = .ok (.iand, 1) := by decide +kernel
theorem dJ6_bitCount_0f7a4_8 : decode cJ6_bitCount_0f7a4 8 = .ok (.isub, 1) := by decide +kernel
theorem dJ6_bitCount_0f7a4_9 : decode cJ6_bitCount_0f7a4 9 = .ok (.istore_n 0, 1) := by decide +kernel
theorem dJ6_bitCount_0f7a4_10 : decode cJ6_bitCount_0f7a4 10 = .ok (.iload_n 0, 1) := by decide +kernel
theorem dJ6_bitCount_0f7a4_11 : decode cJ6_bitCount_0f7a4 11 = .ok (.ldc_w 266, 3) := by decide +kernel
theorem dJ6_bitCount_0f7a4_14 : decode cJ6_bitCount_0f7a4 14 = .ok (.iand, 1) := by decide +kernel
theorem dJ6_bitCount_0f7a4_15 : decode cJ6_bitCount_0f7a4 15 = .ok (.iload_n 0, 1) := by decide +kernel
theorem dJ6_bitCount_0f7a4_16 : decode cJ6_bitCount_0f7a4 16 = .ok (.iconst 2, 1) := by decide +kernel
theorem dJ6_bitCount_0f7a4_17 : decode cJ6_bitCount_0f7a4 17 = .ok (.iushr, 1) := by decide +kernel
theorem dJ6_bitCount_0f7a4_18 : decode cJ6_bitCount_0f7a4 18 = .ok (.ldc_w 266, 3) := by decide +kernel
theorem dJ6_bitCount_0f7a4_21 : decode cJ6_bitCount_0f7a4 21 = .ok (.iand, 1) := by decide +kernel
theorem dJ6_bitCount_0f7a4_22 : decode cJ6_bitCount_0f7a4 22 = .ok (.iadd, 1) := by decide +kernel
theorem dJ6_bitCount_0f7a4_23 : decode cJ6_bitCount_0f7a4 23 = .ok (.istore_n 0, 1) := by decide +kernel
theorem dJ6_bitCount_0f7a4_24 : decode cJ6_bitCount_0f7a4 24 = .ok (.iload_n 0, 1) := by decide +kernel
theorem dJ6_bitCount_0f7a4_25 : decode cJ6_bitCount_0f7a4 25 = .ok (.iload_n 0, 1) := by decide +kernel
theorem dJ6_bitCount_0f7a4_26 : decode cJ6_bitCount_0f7a4 26 = .ok (.iconst 4, 1) := by decide +kernel
theorem dJ6_bitCount_0f7a4_27 : decode cJ6_bitCount_0f7a4 27 = .ok (.iushr, 1) := by decide +kernel
theorem dJ6_bitCount_0f7a4_28 : decode cJ6_bitCount_0f7a4 28 = .ok (.iadd, 1) := by decide +kernel
theorem dJ6_bitCount_0f7a4_29 : decode cJ6_bitCount_0f7a4 29 = .ok (.ldc_w 267, 3) := by decide +kernel
theorem dJ6_bitCount_0f7a4_32 : decode cJ6_bitCount_0f7a4 32 = .ok (.iand, 1) := by decide +kernel
theorem dJ6_bitCount_0f7a4_33 : decode cJ6_bitCount_0f7a4 33 = .ok (.istore_n 0, 1) := by decide +kernel
theorem dJ6_bitCount_0f7a4_34 : decode cJ6_bitCount_0f7a4 34 = .ok (.iload_n 0, 1) := by decide +kernel
theorem dJ6_bitCount_0f7a4_35 : decode cJ6_bitCount_0f7a4 35 = .ok (.iload_n 0, 1) := by decide +kernel
theorem dJ6_bitCount_0f7a4_36 : decode cJ6_bitCount_0f7a4 36 = .ok (.bipush 8, 2) := by decide +kernel
theorem dJ6_bitCount_0f7a4_38 : decode cJ6_bitCount_0f7a4 38 = .ok (.iushr, 1) := by decide +kernel
theorem dJ6_bitCount_0f7a4_39 : decode cJ6_bitCount_0f7a4 39 = .ok (.iadd, 1) := by decide +kernel
theorem dJ6_bitCount_0f7a4_40 : decode cJ6_bitCount_0f7a4 40 = .ok (.istore_n 0, 1) := by decide +kernel
theorem dJ6_bitCount_0f7a4_41 : decode cJ6_bitCount_0f7a4 41 = .ok (.iload_n 0, 1) := by decide +kernel
theorem dJ6_bitCount_0f7a4_42 : decode cJ6_bitCount_0f7a4 42 = .ok (.iload_n 0, 1) := by decide +kernel
theorem dJ6_bitCount_0f7a4_43 : decode cJ6_bitCount_0f7a4 43 = .ok (.bipush 16, 2) := by decide +kernel
theorem dJ6_bitCount_0f7a4_45 : decode cJ6_bitCount_0f7a4 45 = .ok (.iushr, 1) := by decide +kernel
theorem dJ6_bitCount_0f7a4_46 : decode cJ6_bitCount_0f7a4 46 = .ok (.iadd, 1) := by decide +kernel
theorem dJ6_bitCount_0f7a4_47 : decode cJ6_bitCount_0f7a4 47 = .ok (.istore_n 0, 1) := by decide +kernel
theorem dJ6_bitCount_0f7a4_48 : decode cJ6_bitCount_0f7a4 48 = .ok (.iload_n 0, 1) := by decide +kernel
theorem dJ6_bitCount_0f7a4_49 : decode cJ6_bitCount_0f7a4 49 = .ok (.bipush 63, 2) := by decide +kernel
theorem dJ6_bitCount_0f7a4_51 : decode cJ6_bitCount_0f7a4 51 = .ok (.iand, 1) := by decide +kernel
theorem dJ6_bitCount_0f7a4_52 : decode cJ6_bitCount_0f7a4 52 = .ok (.ireturn, 1) := by decide +kernel
theorem dJ9_min_7cf53_0 : decode cJ9_min_7cf53 0 = .ok (.iload_n 0, 1) := by decide +kernel
theorem dJ9_min_7cf53_1 : decode cJ9_min_7cf53 1 = .ok (.iload_n 1, 1) := by decide +kernel
theorem dJ9_min_7cf53_2 : decode cJ9_min_7cf53 2 = .ok (.if_icmp .gt 7, 3) := by decide +kernel
theorem dJ9_min_7cf53_5 : decode cJ9_min_7cf53 5 = .ok (.iload_n 0, 1) := by decide +kernel
theorem dJ9_min_7cf53_6 : decode cJ9_min_7cf53 6 = .ok (.goto 4, 3) := by decide +kernel
theorem dJ9_min_7cf53_9 : decode cJ9_min_7cf53 9 = .ok (.iload_n 1, 1) := by decide +kernel
theorem dJ9_min_7cf53_10 : decode cJ9_min_7cf53 10 = .ok (.ireturn, 1) := by decide +kernel
theorem dJ0_length_8abf5_0 : decode cJ0_length_8abf5 0 = .ok (.aload_n 0, 1) := by decide +kernel
theorem dJ0_length_8abf5_1 : decode cJ0_length_8abf5 1 = .ok (.getfield 9, 3) := by decide +kernel
theorem dJ0_length_8abf5_4 : decode cJ0_length_8abf5 4 = .ok (.arraylength, 1) := by decide +kernel
theorem dJ0_length_8abf5_5 : decode cJ0_length_8abf5 5 = .ok (.aload_n 0, 1) := by decide +kernel
theorem dJ0_length_8abf5_6 : decode cJ0_length_8abf5 6 = .ok (.invokevirtual 335, 3) := by decide +kernel
theorem dJ0_length_8abf5_9 : decode cJ0_length_8abf5 9 = .ok (.ishr, 1) := by decide +kernel
theorem dJ0_length_8abf5_10 : decode cJ0_length_8abf5 10 = .ok (.ireturn, 1) := by decide +kernel
theorem dJ0_charAt_5068e_0 : decode cJ0_charAt_5068e 0 = .ok (.aload_n 0, 1) := by decide +kernel
theorem dJ0_charAt_5068e_1 : decode cJ0_charAt_5068e 1 = .ok (.invokevirtual 492, 3) := by decide +kernel
theorem dJ0_charAt_5068e_4 : decode cJ0_charAt_5068e 4 = .ok (.ifCond .eq 12, 3) := by decide +kernel
theorem dJ0_charAt_5068e_7 : decode cJ0_charAt_5068e 7 = .ok (.aload_n 0, 1) := by decide +kernel
theorem dJ0_charAt_5068e_8 : decode cJ0_charAt_5068e 8 = .ok (.getfield 9, 3) := by decide +kernel
theorem dJ0_charAt_5068e_11 : decode cJ0_charAt_5068e 11 = .ok (.iload_n 1, 1) := by decide +kernel
theorem dJ0_charAt_5068e_12 : decode cJ0_charAt_5068e 12 = .ok (.invokestatic 495, 3) := by decide +kernel
theorem dJ0_charAt_5068e_15 : decode cJ0_charAt_5068e 15 = .ok (.ireturn, 1) := by decide +kernel
theorem dJ0_charAt_5068e_16 : decode cJ0_charAt_5068e 16 = .ok (.aload_n 0, 1) := by decide +kernel
theorem dJ0_charAt_5068e_17 : decode cJ0_charAt_5068e 17 = .ok (.getfield 9, 3) := by decide +kernel
theorem dJ0_charAt_5068e_20 : decode cJ0_charAt_5068e 20 = .ok (.iload_n 1, 1) := by decide +kernel
theorem dJ0_charAt_5068e_21 : decode cJ0_charAt_5068e 21 = .ok (.invokestatic 498, 3) := by decide +kernel
theorem dJ0_charAt_5068e_24 : decode cJ0_charAt_5068e 24 = .ok (.ireturn, 1) := by decide +kernel
theorem dJ0_coder_7d493_0 : decode cJ0_coder_7d493 0 = .ok (.getstatic 38, 3) := by decide +kernel
theorem dJ0_coder_7d493_3 : decode cJ0_coder_7d493 3 = .ok (.ifCond .eq 10, 3) := by decide +kernel
theorem dJ0_coder_7d493_6 : decode cJ0_coder_7d493 6 = .ok (.aload_n 0, 1) := by decide +kernel
theorem dJ0_coder_7d493_7 : decode cJ0_coder_7d493 7 = .ok (.getfield 15, 3) := by decide +kernel
theorem dJ0_coder_7d493_10 : decode cJ0_coder_7d493 10 = .ok (.goto 4, 3) := by decide +kernel
theorem dJ0_coder_7d493_13 : decode cJ0_coder_7d493 13 = .ok (.iconst 1, 1) := by decide +kernel
theorem dJ0_coder_7d493_14 : decode cJ0_coder_7d493 14 = .ok (.ireturn, 1) := by decide +kernel
theorem dJ0_isLatin1_aae02_0 : decode cJ0_isLatin1_aae02 0 = .ok (.getstatic 38, 3) := by decide +kernel
theorem dJ0_isLatin1_aae02_3 : decode cJ0_isLatin1_aae02 3 = .ok (.ifCond .eq 14, 3) := by decide +kernel
theorem dJ0_isLatin1_aae02_6 : decode cJ0_isLatin1_aae02 6 = .ok (.aload_n 0, 1) := by decide +kernel
theorem dJ0_isLatin1_aae02_7 : decode cJ0_isLatin1_aae02 7 = .ok (.getfield 15, 3) := by decide +kernel
theorem dJ0_isLatin1_aae02_10 : decode cJ0_isLatin1_aae02 10 = .ok (.ifCond .ne 7, 3) := by decide +kernel
theorem dJ0_isLatin1_aae02_13 : decode cJ0_isLatin1_aae02 13 = .ok (.iconst 1, 1) := by decide +kernel
theorem dJ0_isLatin1_aae02_14 : decode cJ0_isLatin1_aae02 14 = .ok (.goto 4, 3) := by decide +kernel
theorem dJ0_isLatin1_aae02_17 : decode cJ0_isLatin1_aae02 17 = .ok (.iconst 0, 1) := by decide +kernel
theorem dJ0_isLatin1_aae02_18 : decode cJ0_isLatin1_aae02 18 = .ok (.ireturn, 1) := by decide +kernel
theorem dJ0_checkIndex_df160_0 : decode cJ0_checkIndex_df160 0 = .ok (.iload_n 0, 1) := by decide +kernel
theorem dJ0_checkIndex_df160_1 : decode cJ0_checkIndex_df160 1 = .ok (.iload_n 1, 1) := by decide +kernel
theorem dJ0_checkIndex_df160_2 : decode cJ0_checkIndex_df160 2 = .ok (.getstatic 1053, 3) := by decide +kernel
theorem dJ0_checkIndex_df160_5 : decode cJ0_checkIndex_df160 5 = .ok (.invokestatic 1059, 3) := by decide +kernel
theorem dJ0_checkIndex_df160_8 : decode cJ0_checkIndex_df160 8 = .ok (.pop, 1) := by decide +kernel
theorem dJ0_checkIndex_df160_9 : decode cJ0_checkIndex_df160 9 = .ok (.return_, 1) := by decide +kernel
theorem dJ1_charAt_3b067_0 : decode cJ1_charAt_3b067 0 = .ok (.iload_n 1, 1) := by decide +kernel
theorem dJ1_charAt_3b067_1 : decode cJ1_charAt_3b067 1 = .ok (.aload_n 0, 1) := by decide +kernel
theorem dJ1_charAt_3b067_2 : decode cJ1_charAt_3b067 2 = .ok (.arraylength, 1) := by decide +kernel
theorem dJ1_charAt_3b067_3 : decode cJ1_charAt_3b067 3 = .ok (.invokestatic 9, 3) := by decide +kernel
theorem dJ1_charAt_3b067_6 : decode cJ1_charAt_3b067 6 = .ok (.aload_n 0, 1) := by decide +kernel
theorem dJ1_charAt_3b067_7 : decode cJ1_charAt_3b067 7 = .ok (.iload_n 1, 1) := by decide +kernel
theorem dJ1_charAt_3b067_8 : decode cJ1_charAt_3b067 8 = .ok (.baload, 1) := by decide +kernel
theorem dJ1_charAt_3b067_9 : decode cJ1_charAt_3b067 9 = .ok (.sipush 255, 3) := by decide +kernel
theorem dJ1_charAt_3b067_12 : decode cJ1_charAt_3b067 12 = .ok (.iand, 1) := by decide +kernel
theorem dJ1_charAt_3b067_13 : decode cJ1_charAt_3b067 13 = .ok (.i2c, 1) := by decide +kernel
theorem dJ1_charAt_3b067_14 : decode cJ1_charAt_3b067 14 = .ok (.ireturn, 1) := by decide +kernel
theorem dJ2_getChar_3b067_0 : decode cJ2_getChar_3b067 0 = .ok (.getstatic 44, 3) := by decide +kernel
theorem dJ2_getChar_3b067_3 : decode cJ2_getChar_3b067 3 = .ok (.ifCond .ne 25, 3) := by decide +kernel
theorem dJ2_getChar_3b067_6 : decode cJ2_getChar_3b067 6 = .ok (.iload_n 1, 1) := by decide +kernel
theorem dJ2_getChar_3b067_7 : decode cJ2_getChar_3b067 7 = .ok (.ifCond .lt 11, 3) := by decide +kernel
theorem dJ2_getChar_3b067_10 : decode cJ2_getChar_3b067 10 = .ok (.iload_n 1, 1) := by decide +kernel
theorem dJ2_getChar_3b067_11 : decode cJ2_getChar_3b067 11 = .ok (.aload_n 0, 1) := by decide +kernel
theorem dJ2_getChar_3b067_12 : decode cJ2_getChar_3b067 12 = .ok (.invokestatic 48, 3) := by decide +kernel
theorem dJ2_getChar_3b067_15 : decode cJ2_getChar_3b067 15 = .ok (.if_icmp .lt 13, 3) := by decide +kernel
theorem dJ2_getChar_3b067_18 : decode cJ2_getChar_3b067 18 = .ok (.new 52, 3) := by decide +kernel
theorem dJ2_getChar_3b067_21 : decode cJ2_getChar_3b067 21 = .ok (.dup, 1) := by decide +kernel
theorem dJ2_getChar_3b067_22 : decode cJ2_getChar_3b067 22 = .ok (.ldc 54, 2) := by decide +kernel
theorem dJ2_getChar_3b067_24 : decode cJ2_getChar_3b067 24 = .ok (.invokespecial 56, 3) := by decide +kernel
theorem dJ2_getChar_3b067_27 : decode cJ2_getChar_3b067 27 = .ok (.athrow, 1) := by decide +kernel
theorem dJ2_getChar_3b067_28 : decode cJ2_getChar_3b067 28 = .ok (.iload_n 1, 1) := by decide +kernel
theorem dJ2_getChar_3b067_29 : decode cJ2_getChar_3b067 29 = .ok (.iconst 1, 1) := by decide +kernel
theorem dJ2_getChar_3b067_30 : decode cJ2_getChar_3b067 30 = .ok (.ishl, 1) := by decide +kernel
theorem dJ2_getChar_3b067_31 : decode cJ2_getChar_3b067 31 = .ok (.istore_n 1, 1) := by decide +kernel
theorem dJ2_getChar_3b067_32 : decode cJ2_getChar_3b067 32 = .ok (.aload_n 0, 1) := by decide +kernel
theorem dJ2_getChar_3b067_33 : decode cJ2_getChar_3b067 33 = .ok (.iload_n 1, 1) := by decide +kernel
theorem dJ2_getChar_3b067_34 : decode cJ2_getChar_3b067 34 = .ok (.iinc 1 1, 3) := by decide +kernel
theorem dJ2_getChar_3b067_37 : decode cJ2_getChar_3b067 37 = .ok (.baload, 1) := by decide +kernel
theorem dJ2_getChar_3b067_38 : decode cJ2_getChar_3b067 38 = .ok (.sipush 255, 3) := by decide +kernel
theorem dJ2_getChar_3b067_41 : decode cJ2_getChar_3b067 41 = .ok (.iand, 1) := by decide +kernel
theorem dJ2_getChar_3b067_42 : decode cJ2_getChar_3b067 42 = .ok (.getstatic 59, 3) := by decide +kernel
theorem dJ2_getChar_3b067_45 : decode cJ2_getChar_3b067 45 = .ok (.ishl, 1) := by decide +kernel
theorem dJ2_getChar_3b067_46 : decode cJ2_getChar_3b067 46 = .ok (.aload_n 0, 1) := by decide +kernel
theorem dJ2_getChar_3b067_47 : decode cJ2_getChar_3b067 47 = .ok (.iload_n 1, 1) := by decide +kernel
theorem dJ2_getChar_3b067_48 : decode cJ2_getChar_3b067 48 = .ok (.baload, 1) := by decide +kernel
theorem dJ2_getChar_3b067_49 : decode cJ2_getChar_3b067 49 = .ok (.sipush 255, 3) := by decide +kernel
theorem dJ2_getChar_3b067_52 : decode cJ2_getChar_3b067 52 = .ok (.iand, 1) := by decide +kernel
theorem dJ2_getChar_3b067_53 : decode cJ2_getChar_3b067 53 = .ok (.getstatic 63, 3) := by decide +kernel
theorem dJ2_getChar_3b067_56 : decode cJ2_getChar_3b067 56 = .ok (.ishl, 1) := by decide +kernel
theorem dJ2_getChar_3b067_57 : decode cJ2_getChar_3b067 57 = .ok (.ior, 1) := by decide +kernel
theorem dJ2_getChar_3b067_58 : decode cJ2_getChar_3b067 58 = .ok (.i2c, 1) := by decide +kernel
theorem dJ2_getChar_3b067_59 : decode cJ2_getChar_3b067 59 = .ok (.ireturn, 1) := by decide +kernel
theorem dJ2_length_9d52b_0 : decode cJ2_length_9d52b 0 = .ok (.aload_n 0, 1) := by decide +kernel
theorem dJ2_length_9d52b_1 : decode cJ2_length_9d52b 1 = .ok (.arraylength, 1) := by decide +kernel
theorem dJ2_length_9d52b_2 : decode cJ2_length_9d52b 2 = .ok (.iconst 1, 1) := by decide +kernel
theorem dJ2_length_9d52b_3 : decode cJ2_length_9d52b 3 = .ok (.ishr, 1) := by decide +kernel
theorem dJ2_length_9d52b_4 : decode cJ2_length_9d52b 4 = .ok (.ireturn, 1) := by decide +kernel
theorem dJ2_charAt_3b067_0 : decode cJ2_charAt_3b067 0 = .ok (.iload_n 1, 1) := by decide +kernel
theorem dJ2_charAt_3b067_1 : decode cJ2_charAt_3b067 1 = .ok (.aload_n 0, 1) := by decide +kernel
theorem dJ2_charAt_3b067_2 : decode cJ2_charAt_3b067 2 = .ok (.invokestatic 67, 3) := by decide +kernel
theorem dJ2_charAt_3b067_5 : decode cJ2_charAt_3b067 5 = .ok (.aload_n 0, 1) := by decide +kernel
theorem dJ2_charAt_3b067_6 : decode cJ2_charAt_3b067 6 = .ok (.iload_n 1, 1) := by decide +kernel
theorem dJ2_charAt_3b067_7 : decode cJ2_charAt_3b067 7 = .ok (.invokestatic 71, 3) := by decide +kernel
theorem dJ2_charAt_3b067_10 : decode cJ2_charAt_3b067 10 = .ok (.ireturn, 1) := by decide +kernel
theorem dJ2_checkIndex_2214a_0 : decode cJ2_checkIndex_2214a 0 = .ok (.iload_n 0, 1) := by decide +kernel
theorem dJ2_checkIndex_2214a_1 : decode cJ2_checkIndex_2214a 1 = .ok (.aload_n 1, 1) := by decide +kernel
theorem dJ2_checkIndex_2214a_2 : decode cJ2_checkIndex_2214a 2 = .ok (.invokestatic 48, 3) := by decide +kernel
theorem dJ2_checkIndex_2214a_5 : decode cJ2_checkIndex_2214a 5 = .ok (.invokestatic 414, 3) := by decide +kernel
theorem dJ2_checkIndex_2214a_8 : decode cJ2_checkIndex_2214a 8 = .ok (.return_, 1) := by decide +kernel
theorem dJ3_checkIndex_8e157_0 : decode cJ3_checkIndex_8e157 0 = .ok (.iload_n 0, 1) := by decide +kernel
theorem dJ3_checkIndex_8e157_1 : decode cJ3_checkIndex_8e157 1 = .ok (.ifCond .lt 8, 3) := by decide +kernel
theorem dJ3_checkIndex_8e157_4 : decode cJ3_checkIndex_8e157 4 = .ok (.iload_n 0, 1) := by decide +kernel
theorem dJ3_checkIndex_8e157_5 : decode cJ3_checkIndex_8e157 5 = .ok (.iload_n 1, 1) := by decide +kernel
theorem dJ3_checkIndex_8e157_6 : decode cJ3_checkIndex_8e157 6 = .ok (.if_icmp .lt 10, 3) := by decide +kernel
theorem dJ3_checkIndex_8e157_9 : decode cJ3_checkIndex_8e157 9 = .ok (.aload_n 2, 1) := by decide +kernel
theorem dJ3_checkIndex_8e157_10 : decode cJ3_checkIndex_8e157 10 = .ok (.iload_n 0, 1) := by decide +kernel
theorem dJ3_checkIndex_8e157_11 : decode cJ3_checkIndex_8e157 11 = .ok (.iload_n 1, 1) := by decide +kernel
theorem dJ3_checkIndex_8e157_12 : decode cJ3_checkIndex_8e157 12 = .ok (.invokestatic 95, 3) := by decide +kernel
theorem dJ3_checkIndex_8e157_15 : decode cJ3_checkIndex_8e157 15 = .ok (.athrow, 1) := by decide +kernel
theorem dJ3_checkIndex_8e157_16 : decode cJ3_checkIndex_8e157 16 = .ok (.iload_n 0, 1) := by decide +kernel
theorem dJ3_checkIndex_8e157_17 : decode cJ3_checkIndex_8e157 17 = .ok (.ireturn, 1) := by decide +kernel
theorem dL_law_0 : decode cL_law 0 = .ok (.new 7, 3) := by decide +kernel
theorem dL_law_3 : decode cL_law 3 = .ok (.dup, 1) := by decide +kernel
theorem dL_law_4 : decode cL_law 4 = .ok (.invokespecial 9, 3) := by decide +kernel
theorem dL_law_7 : decode cL_law 7 = .ok (.astore_n 1, 1) := by decide +kernel
theorem dL_law_8 : decode cL_law 8 = .ok (.new 10, 3) := by decide +kernel
theorem dL_law_11 : decode cL_law 11 = .ok (.dup, 1) := by decide +kernel
theorem dL_law_12 : decode cL_law 12 = .ok (.invokespecial 12, 3) := by decide +kernel
theorem dL_law_15 : decode cL_law 15 = .ok (.astore_n 2, 1) := by decide +kernel
theorem dL_law_16 : decode cL_law 16 = .ok (.iconst 0, 1) := by decide +kernel
theorem dL_law_17 : decode cL_law 17 = .ok (.istore_n 3, 1) := by decide +kernel
theorem dL_law_18 : decode cL_law 18 = .ok (.iload_n 3, 1) := by decide +kernel
theorem dL_law_19 : decode cL_law 19 = .ok (.aload_n 0, 1) := by decide +kernel
theorem dL_law_20 : decode cL_law 20 = .ok (.arraylength, 1) := by decide +kernel
theorem dL_law_21 : decode cL_law 21 = .ok (.iconst 5, 1) := by decide +kernel
theorem dL_law_22 : decode cL_law 22 = .ok (.isub, 1) := by decide +kernel
theorem dL_law_23 : decode cL_law 23 = .ok (.if_icmp .gt 1233, 3) := by decide +kernel
theorem dL_law_26 : decode cL_law 26 = .ok (.aload_n 0, 1) := by decide +kernel
theorem dL_law_27 : decode cL_law 27 = .ok (.iload_n 3, 1) := by decide +kernel
theorem dL_law_28 : decode cL_law 28 = .ok (.iaload, 1) := by decide +kernel
theorem dL_law_29 : decode cL_law 29 = .ok (.bipush 31, 2) := by decide +kernel
theorem dL_law_31 : decode cL_law 31 = .ok (.iand, 1) := by decide +kernel
theorem dL_law_32 : decode cL_law 32 = .ok (.tableswitch 1218 0 31 #[144, 187, 220, 243, 276, 319, 352, 395, 458, 471, 484, 537, 590, 643, 686, 729, 772, 815, 868, 901, 925, 938, 997, 1010, 1033, 1056, 1089, 1112, 1135, 1158, 1181, 1204], 144) := by decide +kernel
theorem dL_law_176 : decode cL_law 176 = .ok (.aload_n 1, 1) := by decide +kernel
theorem dL_law_177 : decode cL_law 177 = .ok (.aload_n 0, 1) := by decide +kernel
theorem dL_law_178 : decode cL_law 178 = .ok (.iload_n 3, 1) := by decide +kernel
theorem dL_law_179 : decode cL_law 179 = .ok (.iconst 1, 1) := by decide +kernel
theorem dL_law_180 : decode cL_law 180 = .ok (.iadd, 1) := by decide +kernel
theorem dL_law_181 : decode cL_law 181 = .ok (.iaload, 1) := by decide +kernel
theorem dL_law_182 : decode cL_law 182 = .ok (.aload_n 0, 1) := by decide +kernel
theorem dL_law_183 : decode cL_law 183 = .ok (.iload_n 3, 1) := by decide +kernel
theorem dL_law_184 : decode cL_law 184 = .ok (.iconst 2, 1) := by decide +kernel
theorem dL_law_185 : decode cL_law 185 = .ok (.iadd, 1) := by decide +kernel
theorem dL_law_186 : decode cL_law 186 = .ok (.iaload, 1) := by decide +kernel
theorem dL_law_187 : decode cL_law 187 = .ok (.aload_n 0, 1) := by decide +kernel
theorem dL_law_188 : decode cL_law 188 = .ok (.iload_n 3, 1) := by decide +kernel
theorem dL_law_189 : decode cL_law 189 = .ok (.iconst 3, 1) := by decide +kernel
theorem dL_law_190 : decode cL_law 190 = .ok (.iadd, 1) := by decide +kernel
theorem dL_law_191 : decode cL_law 191 = .ok (.iaload, 1) := by decide +kernel
theorem dL_law_192 : decode cL_law 192 = .ok (.invokevirtual 13, 3) := by decide +kernel
theorem dL_law_195 : decode cL_law 195 = .ok (.aload_n 2, 1) := by decide +kernel
theorem dL_law_196 : decode cL_law 196 = .ok (.aload_n 0, 1) := by decide +kernel
theorem dL_law_197 : decode cL_law 197 = .ok (.iload_n 3, 1) := by decide +kernel
theorem dL_law_198 : decode cL_law 198 = .ok (.iconst 1, 1) := by decide +kernel
theorem dL_law_199 : decode cL_law 199 = .ok (.iadd, 1) := by decide +kernel
theorem dL_law_200 : decode cL_law 200 = .ok (.iaload, 1) := by decide +kernel
theorem dL_law_201 : decode cL_law 201 = .ok (.aload_n 0, 1) := by decide +kernel
theorem dL_law_202 : decode cL_law 202 = .ok (.iload_n 3, 1) := by decide +kernel
theorem dL_law_203 : decode cL_law 203 = .ok (.iconst 2, 1) := by decide +kernel
theorem dL_law_204 : decode cL_law 204 = .ok (.iadd, 1) := by decide +kernel
theorem dL_law_205 : decode cL_law 205 = .ok (.iaload, 1) := by decide +kernel
theorem dL_law_206 : decode cL_law 206 = .ok (.aload_n 0, 1) := by decide +kernel
theorem dL_law_207 : decode cL_law 207 = .ok (.iload_n 3, 1) := by decide +kernel
theorem dL_law_208 : decode cL_law 208 = .ok (.iconst 3, 1) := by decide +kernel
theorem dL_law_209 : decode cL_law 209 = .ok (.iadd, 1) := by decide +kernel
theorem dL_law_210 : decode cL_law 210 = .ok (.iaload, 1) := by decide +kernel
theorem dL_law_211 : decode cL_law 211 = .ok (.invokevirtual 17, 3) := by decide +kernel
theorem dL_law_214 : decode cL_law 214 = .ok (.if_icmp .eq 1036, 3) := by decide +kernel
theorem dL_law_217 : decode cL_law 217 = .ok (.iconst 0, 1) := by decide +kernel
theorem dL_law_218 : decode cL_law 218 = .ok (.ireturn, 1) := by decide +kernel
theorem dL_law_219 : decode cL_law 219 = .ok (.aload_n 1, 1) := by decide +kernel
theorem dL_law_220 : decode cL_law 220 = .ok (.aload_n 0, 1) := by decide +kernel
theorem dL_law_221 : decode cL_law 221 = .ok (.iload_n 3, 1) := by decide +kernel
theorem dL_law_222 : decode cL_law 222 = .ok (.iconst 1, 1) := by decide +kernel
theorem dL_law_223 : decode cL_law 223 = .ok (.iadd, 1) := by decide +kernel
theorem dL_law_224 : decode cL_law 224 = .ok (.iaload, 1) := by decide +kernel
theorem dL_law_225 : decode cL_law 225 = .ok (.aload_n 0, 1) := by decide +kernel
theorem dL_law_226 : decode cL_law 226 = .ok (.iload_n 3, 1) := by decide +kernel
theorem dL_law_227 : decode cL_law 227 = .ok (.iconst 2, 1) := by decide +kernel
theorem dL_law_228 : decode cL_law 228 = .ok (.iadd, 1) := by decide +kernel
theorem dL_law_229 : decode cL_law 229 = .ok (.iaload, 1) := by decide +kernel
theorem dL_law_230 : decode cL_law 230 = .ok (.invokevirtual 18, 3) := by decide +kernel
theorem dL_law_233 : decode cL_law 233 = .ok (.aload_n 2, 1) := by decide +kernel
theorem dL_law_234 : decode cL_law 234 = .ok (.aload_n 0, 1) := by decide +kernel
theorem dL_law_235 : decode cL_law 235 = .ok (.iload_n 3, 1) := by decide +kernel
theorem dL_law_236 : decode cL_law 236 = .ok (.iconst 1, 1) := by decide +kernel
theorem dL_law_237 : decode cL_law 237 = .ok (.iadd, 1) := by decide +kernel
theorem dL_law_238 : decode cL_law 238 = .ok (.iaload, 1) := by decide +kernel
theorem dL_law_239 : decode cL_law 239 = .ok (.aload_n 0, 1) := by decide +kernel
theorem dL_law_240 : decode cL_law 240 = .ok (.iload_n 3, 1) := by decide +kernel
theorem dL_law_241 : decode cL_law 241 = .ok (.iconst 2, 1) := by decide +kernel
theorem dL_law_242 : decode cL_law 242 = .ok (.iadd, 1) := by decide +kernel
theorem dL_law_243 : decode cL_law 243 = .ok (.iaload, 1) := by decide +kernel
theorem dL_law_244 : decode cL_law 244 = .ok (.invokevirtual 22, 3) := by decide +kernel
theorem dL_law_247 : decode cL_law 247 = .ok (.if_icmp .eq 1003, 3) := by decide +kernel
theorem dL_law_250 : decode cL_law 250 = .ok (.iconst 0, 1) := by decide +kernel
theorem dL_law_251 : decode cL_law 251 = .ok (.ireturn, 1) := by decide +kernel
theorem dL_law_252 : decode cL_law 252 = .ok (.aload_n 1, 1) := by decide +kernel
theorem dL_law_253 : decode cL_law 253 = .ok (.aload_n 0, 1) := by decide +kernel
theorem dL_law_254 : decode cL_law 254 = .ok (.iload_n 3, 1) := by decide +kernel
theorem dL_law_255 : decode cL_law 255 = .ok (.iconst 1, 1) := by decide +kernel
theorem dL_law_256 : decode cL_law 256 = .ok (.iadd, 1) := by decide +kernel
theorem dL_law_257 : decode cL_law 257 = .ok (.iaload, 1) := by decide +kernel
theorem dL_law_258 : decode cL_law 258 = .ok (.invokevirtual 23, 3) := by decide +kernel
theorem dL_law_261 : decode cL_law 261 = .ok (.aload_n 2, 1) := by decide +kernel
theorem dL_law_262 : decode cL_law 262 = .ok (.aload_n 0, 1) := by decide +kernel
theorem dL_law_263 : decode cL_law 263 = .ok (.iload_n 3, 1) := by decide +kernel
theorem dL_law_264 : decode cL_law 264 = .ok (.iconst 1, 1) := by decide +kernel
theorem dL_law_265 : decode cL_law 265 = .ok (.iadd, 1) := by decide +kernel
theorem dL_law_266 : decode cL_law 266 = .ok (.iaload, 1) := by decide +kernel
theorem dL_law_267 : decode cL_law 267 = .ok (.invokevirtual 27, 3) := by decide +kernel
theorem dL_law_270 : decode cL_law 270 = .ok (.if_icmp .eq 980, 3) := by decide +kernel
theorem dL_law_273 : decode cL_law 273 = .ok (.iconst 0, 1) := by decide +kernel
theorem dL_law_274 : decode cL_law 274 = .ok (.ireturn, 1) := by decide +kernel
theorem dL_law_275 : decode cL_law 275 = .ok (.aload_n 1, 1) := by decide +kernel
theorem dL_law_276 : decode cL_law 276 = .ok (.aload_n 0, 1) := by decide +kernel
theorem dL_law_277 : decode cL_law 277 = .ok (.iload_n 3, 1) := by decide +kernel
theorem dL_law_278 : decode cL_law 278 = .ok (.iconst 1, 1) := by decide +kernel
theorem dL_law_279 : decode cL_law 279 = .ok (.iadd, 1) := by decide +kernel
theorem dL_law_280 : decode cL_law 280 = .ok (.iaload, 1) := by decide +kernel
theorem dL_law_281 : decode cL_law 281 = .ok (.aload_n 0, 1) := by decide +kernel
theorem dL_law_282 : decode cL_law 282 = .ok (.iload_n 3, 1) := by decide +kernel
theorem dL_law_283 : decode cL_law 283 = .ok (.iconst 2, 1) := by decide +kernel
theorem dL_law_284 : decode cL_law 284 = .ok (.iadd, 1) := by decide +kernel
theorem dL_law_285 : decode cL_law 285 = .ok (.iaload, 1) := by decide +kernel
theorem dL_law_286 : decode cL_law 286 = .ok (.invokevirtual 28, 3) := by decide +kernel
theorem dL_law_289 : decode cL_law 289 = .ok (.aload_n 2, 1) := by decide +kernel
theorem dL_law_290 : decode cL_law 290 = .ok (.aload_n 0, 1) := by decide +kernel
theorem dL_law_291 : decode cL_law 291 = .ok (.iload_n 3, 1) := by decide +kernel
theorem dL_law_292 : decode cL_law 292 = .ok (.iconst 1, 1) := by decide +kernel
theorem dL_law_293 : decode cL_law 293 = .ok (.iadd, 1) := by decide +kernel
theorem dL_law_294 : decode cL_law 294 = .ok (.iaload, 1) := by decide +kernel
theorem dL_law_295 : decode cL_law 295 = .ok (.aload_n 0, 1) := by decide +kernel
theorem dL_law_296 : decode cL_law 296 = .ok (.iload_n 3, 1) := by decide +kernel
theorem dL_law_297 : decode cL_law 297 = .ok (.iconst 2, 1) := by decide +kernel
theorem dL_law_298 : decode cL_law 298 = .ok (.iadd, 1) := by decide +kernel
theorem dL_law_299 : decode cL_law 299 = .ok (.iaload, 1) := by decide +kernel
theorem dL_law_300 : decode cL_law 300 = .ok (.invokevirtual 31, 3) := by decide +kernel
theorem dL_law_303 : decode cL_law 303 = .ok (.if_icmp .eq 947, 3) := by decide +kernel
theorem dL_law_306 : decode cL_law 306 = .ok (.iconst 0, 1) := by decide +kernel
theorem dL_law_307 : decode cL_law 307 = .ok (.ireturn, 1) := by decide +kernel
theorem dL_law_308 : decode cL_law 308 = .ok (.aload_n 1, 1) := by decide +kernel
theorem dL_law_309 : decode cL_law 309 = .ok (.aload_n 0, 1) := by decide +kernel
theorem dL_law_310 : decode cL_law 310 = .ok (.iload_n 3, 1) := by decide +kernel
theorem dL_law_311 : decode cL_law 311 = .ok (.iconst 1, 1) := by decide +kernel
theorem dL_law_312 : decode cL_law 312 = .ok (.iadd, 1) := by decide +kernel
theorem dL_law_313 : decode cL_law 313 = .ok (.iaload, 1) := by decide +kernel
theorem dL_law_314 : decode cL_law 314 = .ok (.aload_n 0, 1) := by decide +kernel
theorem dL_law_315 : decode cL_law 315 = .ok (.iload_n 3, 1) := by decide +kernel
theorem dL_law_316 : decode cL_law 316 = .ok (.iconst 2, 1) := by decide +kernel
theorem dL_law_317 : decode cL_law 317 = .ok (.iadd, 1) := by decide +kernel
theorem dL_law_318 : decode cL_law 318 = .ok (.iaload, 1) := by decide +kernel
theorem dL_law_319 : decode cL_law 319 = .ok (.aload_n 0, 1) := by decide +kernel
theorem dL_law_320 : decode cL_law 320 = .ok (.iload_n 3, 1) := by decide +kernel
theorem dL_law_321 : decode cL_law 321 = .ok (.iconst 3, 1) := by decide +kernel
theorem dL_law_322 : decode cL_law 322 = .ok (.iadd, 1) := by decide +kernel
theorem dL_law_323 : decode cL_law 323 = .ok (.iaload, 1) := by decide +kernel
theorem dL_law_324 : decode cL_law 324 = .ok (.invokevirtual 32, 3) := by decide +kernel
theorem dL_law_327 : decode cL_law 327 = .ok (.aload_n 2, 1) := by decide +kernel
theorem dL_law_328 : decode cL_law 328 = .ok (.aload_n 0, 1) := by decide +kernel
theorem dL_law_329 : decode cL_law 329 = .ok (.iload_n 3, 1) := by decide +kernel
theorem dL_law_330 : decode cL_law 330 = .ok (.iconst 1, 1) := by decide +kernel
theorem dL_law_331 : decode cL_law 331 = .ok (.iadd, 1) := by decide +kernel
theorem dL_law_332 : decode cL_law 332 = .ok (.iaload, 1) := by decide +kernel
theorem dL_law_333 : decode cL_law 333 = .ok (.aload_n 0, 1) := by decide +kernel
theorem dL_law_334 : decode cL_law 334 = .ok (.iload_n 3, 1) := by decide +kernel
theorem dL_law_335 : decode cL_law 335 = .ok (.iconst 2, 1) := by decide +kernel
theorem dL_law_336 : decode cL_law 336 = .ok (.iadd, 1) := by decide +kernel
theorem dL_law_337 : decode cL_law 337 = .ok (.iaload, 1) := by decide +kernel
theorem dL_law_338 : decode cL_law 338 = .ok (.aload_n 0, 1) := by decide +kernel
theorem dL_law_339 : decode cL_law 339 = .ok (.iload_n 3, 1) := by decide +kernel
theorem dL_law_340 : decode cL_law 340 = .ok (.iconst 3, 1) := by decide +kernel
theorem dL_law_341 : decode cL_law 341 = .ok (.iadd, 1) := by decide +kernel
theorem dL_law_342 : decode cL_law 342 = .ok (.iaload, 1) := by decide +kernel
theorem dL_law_343 : decode cL_law 343 = .ok (.invokevirtual 35, 3) := by decide +kernel
theorem dL_law_346 : decode cL_law 346 = .ok (.if_icmp .eq 904, 3) := by decide +kernel
theorem dL_law_349 : decode cL_law 349 = .ok (.iconst 0, 1) := by decide +kernel
theorem dL_law_350 : decode cL_law 350 = .ok (.ireturn, 1) := by decide +kernel
theorem dL_law_351 : decode cL_law 351 = .ok (.aload_n 1, 1) := by decide +kernel
theorem dL_law_352 : decode cL_law 352 = .ok (.aload_n 0, 1) := by decide +kernel
theorem dL_law_353 : decode cL_law 353 = .ok (.iload_n 3, 1) := by decide +kernel
theorem dL_law_354 : decode cL_law 354 = .ok (.iconst 1, 1) := by decide +kernel
theorem dL_law_355 : decode cL_law 355 = .ok (.iadd, 1) := by decide +kernel
theorem dL_law_356 : decode cL_law 356 = .ok (.iaload, 1) := by decide +kernel
theorem dL_law_357 : decode cL_law 357 = .ok (.aload_n 0, 1) := by decide +kernel
theorem dL_law_358 : decode cL_law 358 = .ok (.iload_n 3, 1) := by decide +kernel
theorem dL_law_359 : decode cL_law 359 = .ok (.iconst 2, 1) := by decide +kernel
