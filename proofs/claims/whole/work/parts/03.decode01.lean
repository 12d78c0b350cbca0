theorem dX0_init_0 : decode cX0_init 0 = .ok (.aload_n 0, 1) := by decide +kernel
theorem dX0_init_1 : decode cX0_init 1 = .ok (.invokespecial 3, 3) := by decide +kernel
theorem dX0_init_4 : decode cX0_init 4 = .ok (.aload_n 0, 1) := by decide +kernel
theorem dX0_init_5 : decode cX0_init 5 = .ok (.sipush 200, 3) := by decide +kernel
theorem dX0_init_8 : decode cX0_init 8 = .ok (.newarray .int, 2) := by decide +kernel
theorem dX0_init_10 : decode cX0_init 10 = .ok (.putfield 11, 3) := by decide +kernel
theorem dX0_init_13 : decode cX0_init 13 = .ok (.return_, 1) := by decide +kernel
theorem dX0_append_0 : decode cX0_append 0 = .ok (.iload_n 3, 1) := by decide +kernel
theorem dX0_append_1 : decode cX0_append 1 = .ok (.iconst 1, 1) := by decide +kernel
theorem dX0_append_2 : decode cX0_append 2 = .ok (.isub, 1) := by decide +kernel
theorem dX0_append_3 : decode cX0_append 3 = .ok (.istore 4, 2) := by decide +kernel
theorem dX0_append_5 : decode cX0_append 5 = .ok (.iload 4, 2) := by decide +kernel
theorem dX0_append_7 : decode cX0_append 7 = .ok (.ifCond .lt 50, 3) := by decide +kernel
theorem dX0_append_10 : decode cX0_append 10 = .ok (.aload_n 0, 1) := by decide +kernel
theorem dX0_append_11 : decode cX0_append 11 = .ok (.getfield 15, 3) := by decide +kernel
theorem dX0_append_14 : decode cX0_append 14 = .ok (.sipush 200, 3) := by decide +kernel
theorem dX0_append_17 : decode cX0_append 17 = .ok (.if_icmp .ge 40, 3) := by decide +kernel
theorem dX0_append_20 : decode cX0_append 20 = .ok (.aload_n 0, 1) := by decide +kernel
theorem dX0_append_21 : decode cX0_append 21 = .ok (.getfield 11, 3) := by decide +kernel
theorem dX0_append_24 : decode cX0_append 24 = .ok (.aload_n 0, 1) := by decide +kernel
theorem dX0_append_25 : decode cX0_append 25 = .ok (.getfield 15, 3) := by decide +kernel
theorem dX0_append_28 : decode cX0_append 28 = .ok (.lload_n 1, 1) := by decide +kernel
theorem dX0_append_29 : decode cX0_append 29 = .ok (.bipush 8, 2) := by decide +kernel
theorem dX0_append_31 : decode cX0_append 31 = .ok (.iload 4, 2) := by decide +kernel
theorem dX0_append_33 : decode cX0_append 33 = .ok (.imul, 1) := by decide +kernel
theorem dX0_append_34 : decode cX0_append 34 = .ok (.lshr, 1) := by decide +kernel
theorem dX0_append_35 : decode cX0_append 35 = .ok (.ldc2_w 19, 3) := by decide +kernel
theorem dX0_append_38 : decode cX0_append 38 = .ok (.land, 1) := by decide +kernel
theorem dX0_append_39 : decode cX0_append 39 = .ok (.l2i, 1) := by decide +kernel
theorem dX0_append_40 : decode cX0_append 40 = .ok (.iastore, 1) := by decide +kernel
theorem dX0_append_41 : decode cX0_append 41 = .ok (.aload_n 0, 1) := by decide +kernel
theorem dX0_append_42 : decode cX0_append 42 = .ok (.dup, 1) := by decide +kernel
theorem dX0_append_43 : decode cX0_append 43 = .ok (.getfield 15, 3) := by decide +kernel
theorem dX0_append_46 : decode cX0_append 46 = .ok (.iconst 1, 1) := by decide +kernel
theorem dX0_append_47 : decode cX0_append 47 = .ok (.iadd, 1) := by decide +kernel
theorem dX0_append_48 : decode cX0_append 48 = .ok (.putfield 15, 3) := by decide +kernel
theorem dX0_append_51 : decode cX0_append 51 = .ok (.iinc 4 (-1), 3) := by decide +kernel
theorem dX0_append_54 : decode cX0_append 54 = .ok (.goto (-49), 3) := by decide +kernel
theorem dX0_append_57 : decode cX0_append 57 = .ok (.aload_n 0, 1) := by decide +kernel
theorem dX0_append_58 : decode cX0_append 58 = .ok (.getfield 15, 3) := by decide +kernel
theorem dX0_append_61 : decode cX0_append 61 = .ok (.ireturn, 1) := by decide +kernel
theorem dX0_at_0 : decode cX0_at 0 = .ok (.iload_n 1, 1) := by decide +kernel
theorem dX0_at_1 : decode cX0_at 1 = .ok (.ifCond .lt 20, 3) := by decide +kernel
theorem dX0_at_4 : decode cX0_at 4 = .ok (.iload_n 1, 1) := by decide +kernel
theorem dX0_at_5 : decode cX0_at 5 = .ok (.aload_n 0, 1) := by decide +kernel
theorem dX0_at_6 : decode cX0_at 6 = .ok (.getfield 15, 3) := by decide +kernel
theorem dX0_at_9 : decode cX0_at 9 = .ok (.if_icmp .ge 12, 3) := by decide +kernel
theorem dX0_at_12 : decode cX0_at 12 = .ok (.aload_n 0, 1) := by decide +kernel
theorem dX0_at_13 : decode cX0_at 13 = .ok (.getfield 11, 3) := by decide +kernel
theorem dX0_at_16 : decode cX0_at 16 = .ok (.iload_n 1, 1) := by decide +kernel
theorem dX0_at_17 : decode cX0_at 17 = .ok (.iaload, 1) := by decide +kernel
theorem dX0_at_18 : decode cX0_at 18 = .ok (.goto 4, 3) := by decide +kernel
theorem dX0_at_21 : decode cX0_at 21 = .ok (.iconst (-1), 1) := by decide +kernel
theorem dX0_at_22 : decode cX0_at 22 = .ok (.ireturn, 1) := by decide +kernel
theorem dX0_copyFrom_0 : decode cX0_copyFrom 0 = .ok (.aload_n 0, 1) := by decide +kernel
theorem dX0_copyFrom_1 : decode cX0_copyFrom 1 = .ok (.aload_n 1, 1) := by decide +kernel
theorem dX0_copyFrom_2 : decode cX0_copyFrom 2 = .ok (.getfield 15, 3) := by decide +kernel
theorem dX0_copyFrom_5 : decode cX0_copyFrom 5 = .ok (.putfield 15, 3) := by decide +kernel
theorem dX0_copyFrom_8 : decode cX0_copyFrom 8 = .ok (.aload_n 1, 1) := by decide +kernel
theorem dX0_copyFrom_9 : decode cX0_copyFrom 9 = .ok (.getfield 11, 3) := by decide +kernel
theorem dX0_copyFrom_12 : decode cX0_copyFrom 12 = .ok (.iconst 0, 1) := by decide +kernel
theorem dX0_copyFrom_13 : decode cX0_copyFrom 13 = .ok (.aload_n 0, 1) := by decide +kernel
theorem dX0_copyFrom_14 : decode cX0_copyFrom 14 = .ok (.getfield 11, 3) := by decide +kernel
theorem dX0_copyFrom_17 : decode cX0_copyFrom 17 = .ok (.iconst 0, 1) := by decide +kernel
theorem dX0_copyFrom_18 : decode cX0_copyFrom 18 = .ok (.sipush 200, 3) := by decide +kernel
theorem dX0_copyFrom_21 : decode cX0_copyFrom 21 = .ok (.invokestatic 21, 3) := by decide +kernel
theorem dX0_copyFrom_24 : decode cX0_copyFrom 24 = .ok (.return_, 1) := by decide +kernel
theorem dX1_isDay_0 : decode cX1_isDay 0 = .ok (.iload_n 0, 1) := by decide +kernel
theorem dX1_isDay_1 : decode cX1_isDay 1 = .ok (.ifCond .lt 13, 3) := by decide +kernel
theorem dX1_isDay_4 : decode cX1_isDay 4 = .ok (.iload_n 0, 1) := by decide +kernel
theorem dX1_isDay_5 : decode cX1_isDay 5 = .ok (.ldc 9, 2) := by decide +kernel
theorem dX1_isDay_7 : decode cX1_isDay 7 = .ok (.if_icmp .gt 7, 3) := by decide +kernel
theorem dX1_isDay_10 : decode cX1_isDay 10 = .ok (.iconst 1, 1) := by decide +kernel
theorem dX1_isDay_11 : decode cX1_isDay 11 = .ok (.goto 4, 3) := by decide +kernel
theorem dX1_isDay_14 : decode cX1_isDay 14 = .ok (.iconst 0, 1) := by decide +kernel
theorem dX1_isDay_15 : decode cX1_isDay 15 = .ok (.ireturn, 1) := by decide +kernel
theorem dX1_isYear_0 : decode cX1_isYear 0 = .ok (.iload_n 0, 1) := by decide +kernel
theorem dX1_isYear_1 : decode cX1_isYear 1 = .ok (.sipush 1800, 3) := by decide +kernel
theorem dX1_isYear_4 : decode cX1_isYear 4 = .ok (.if_icmp .lt 14, 3) := by decide +kernel
theorem dX1_isYear_7 : decode cX1_isYear 7 = .ok (.iload_n 0, 1) := by decide +kernel
theorem dX1_isYear_8 : decode cX1_isYear 8 = .ok (.sipush 2199, 3) := by decide +kernel
theorem dX1_isYear_11 : decode cX1_isYear 11 = .ok (.if_icmp .gt 7, 3) := by decide +kernel
theorem dX1_isYear_14 : decode cX1_isYear 14 = .ok (.iconst 1, 1) := by decide +kernel
theorem dX1_isYear_15 : decode cX1_isYear 15 = .ok (.goto 4, 3) := by decide +kernel
theorem dX1_isYear_18 : decode cX1_isYear 18 = .ok (.iconst 0, 1) := by decide +kernel
theorem dX1_isYear_19 : decode cX1_isYear 19 = .ok (.ireturn, 1) := by decide +kernel
theorem dX1_has_0 : decode cX1_has 0 = .ok (.iload_n 0, 1) := by decide +kernel
theorem dX1_has_1 : decode cX1_has 1 = .ok (.invokestatic 10, 3) := by decide +kernel
theorem dX1_has_4 : decode cX1_has 4 = .ok (.ifCond .eq 32, 3) := by decide +kernel
theorem dX1_has_7 : decode cX1_has 7 = .ok (.iload_n 1, 1) := by decide +kernel
theorem dX1_has_8 : decode cX1_has 8 = .ok (.iconst 1, 1) := by decide +kernel
theorem dX1_has_9 : decode cX1_has 9 = .ok (.if_icmp .lt 27, 3) := by decide +kernel
theorem dX1_has_12 : decode cX1_has 12 = .ok (.iload_n 1, 1) := by decide +kernel
theorem dX1_has_13 : decode cX1_has 13 = .ok (.bipush 12, 2) := by decide +kernel
theorem dX1_has_15 : decode cX1_has 15 = .ok (.if_icmp .gt 21, 3) := by decide +kernel
theorem dX1_has_18 : decode cX1_has 18 = .ok (.iload_n 2, 1) := by decide +kernel
theorem dX1_has_19 : decode cX1_has 19 = .ok (.iconst 1, 1) := by decide +kernel
theorem dX1_has_20 : decode cX1_has 20 = .ok (.if_icmp .lt 16, 3) := by decide +kernel
theorem dX1_has_23 : decode cX1_has 23 = .ok (.iload_n 2, 1) := by decide +kernel
theorem dX1_has_24 : decode cX1_has 24 = .ok (.iload_n 0, 1) := by decide +kernel
theorem dX1_has_25 : decode cX1_has 25 = .ok (.iload_n 1, 1) := by decide +kernel
theorem dX1_has_26 : decode cX1_has 26 = .ok (.invokestatic 14, 3) := by decide +kernel
theorem dX1_has_29 : decode cX1_has 29 = .ok (.if_icmp .gt 7, 3) := by decide +kernel
theorem dX1_has_32 : decode cX1_has 32 = .ok (.iconst 1, 1) := by decide +kernel
theorem dX1_has_33 : decode cX1_has 33 = .ok (.goto 4, 3) := by decide +kernel
theorem dX1_has_36 : decode cX1_has 36 = .ok (.iconst 0, 1) := by decide +kernel
theorem dX1_has_37 : decode cX1_has 37 = .ok (.ireturn, 1) := by decide +kernel
theorem dX1_isLeap_0 : decode cX1_isLeap 0 = .ok (.iload_n 0, 1) := by decide +kernel
theorem dX1_isLeap_1 : decode cX1_isLeap 1 = .ok (.iconst 4, 1) := by decide +kernel
theorem dX1_isLeap_2 : decode cX1_isLeap 2 = .ok (.irem, 1) := by decide +kernel
theorem dX1_isLeap_3 : decode cX1_isLeap 3 = .ok (.ifCond .ne 22, 3) := by decide +kernel
theorem dX1_isLeap_6 : decode cX1_isLeap 6 = .ok (.iload_n 0, 1) := by decide +kernel
theorem dX1_isLeap_7 : decode cX1_isLeap 7 = .ok (.bipush 100, 2) := by decide +kernel
theorem dX1_isLeap_9 : decode cX1_isLeap 9 = .ok (.irem, 1) := by decide +kernel
theorem dX1_isLeap_10 : decode cX1_isLeap 10 = .ok (.ifCond .ne 11, 3) := by decide +kernel
theorem dX1_isLeap_13 : decode cX1_isLeap 13 = .ok (.iload_n 0, 1) := by decide +kernel
theorem dX1_isLeap_14 : decode cX1_isLeap 14 = .ok (.sipush 400, 3) := by decide +kernel
theorem dX1_isLeap_17 : decode cX1_isLeap 17 = .ok (.irem, 1) := by decide +kernel
theorem dX1_isLeap_18 : decode cX1_isLeap 18 = .ok (.ifCond .ne 7, 3) := by decide +kernel
theorem dX1_isLeap_21 : decode cX1_isLeap 21 = .ok (.iconst 1, 1) := by decide +kernel
theorem dX1_isLeap_22 : decode cX1_isLeap 22 = .ok (.goto 4, 3) := by decide +kernel
theorem dX1_isLeap_25 : decode cX1_isLeap 25 = .ok (.iconst 0, 1) := by decide +kernel
theorem dX1_isLeap_26 : decode cX1_isLeap 26 = .ok (.ireturn, 1) := by decide +kernel
theorem dX1_daysOfMonth_0 : decode cX1_daysOfMonth 0 = .ok (.iload_n 1, 1) := by decide +kernel
theorem dX1_daysOfMonth_1 : decode cX1_daysOfMonth 1 = .ok (.iconst 1, 1) := by decide +kernel
theorem dX1_daysOfMonth_2 : decode cX1_daysOfMonth 2 = .ok (.iadd, 1) := by decide +kernel
theorem dX1_daysOfMonth_3 : decode cX1_daysOfMonth 3 = .ok (.invokestatic 18, 3) := by decide +kernel
theorem dX1_daysOfMonth_6 : decode cX1_daysOfMonth 6 = .ok (.iload_n 1, 1) := by decide +kernel
theorem dX1_daysOfMonth_7 : decode cX1_daysOfMonth 7 = .ok (.invokestatic 18, 3) := by decide +kernel
theorem dX1_daysOfMonth_10 : decode cX1_daysOfMonth 10 = .ok (.isub, 1) := by decide +kernel
theorem dX1_daysOfMonth_11 : decode cX1_daysOfMonth 11 = .ok (.istore_n 2, 1) := by decide +kernel
theorem dX1_daysOfMonth_12 : decode cX1_daysOfMonth 12 = .ok (.iload_n 1, 1) := by decide +kernel
theorem dX1_daysOfMonth_13 : decode cX1_daysOfMonth 13 = .ok (.iconst 2, 1) := by decide +kernel
theorem dX1_daysOfMonth_14 : decode cX1_daysOfMonth 14 = .ok (.if_icmp .ne 16, 3) := by decide +kernel
theorem dX1_daysOfMonth_17 : decode cX1_daysOfMonth 17 = .ok (.iload_n 0, 1) := by decide +kernel
theorem dX1_daysOfMonth_18 : decode cX1_daysOfMonth 18 = .ok (.invokestatic 22, 3) := by decide +kernel
theorem dX1_daysOfMonth_21 : decode cX1_daysOfMonth 21 = .ok (.ifCond .ne 9, 3) := by decide +kernel
theorem dX1_daysOfMonth_24 : decode cX1_daysOfMonth 24 = .ok (.iload_n 2, 1) := by decide +kernel
theorem dX1_daysOfMonth_25 : decode cX1_daysOfMonth 25 = .ok (.iconst 1, 1) := by decide +kernel
theorem dX1_daysOfMonth_26 : decode cX1_daysOfMonth 26 = .ok (.isub, 1) := by decide +kernel
theorem dX1_daysOfMonth_27 : decode cX1_daysOfMonth 27 = .ok (.goto 4, 3) := by decide +kernel
theorem dX1_daysOfMonth_30 : decode cX1_daysOfMonth 30 = .ok (.iload_n 2, 1) := by decide +kernel
theorem dX1_daysOfMonth_31 : decode cX1_daysOfMonth 31 = .ok (.ireturn, 1) := by decide +kernel
theorem dX1_placeOfMonth_0 : decode cX1_placeOfMonth 0 = .ok (.iload_n 0, 1) := by decide +kernel
theorem dX1_placeOfMonth_1 : decode cX1_placeOfMonth 1 = .ok (.iconst 1, 1) := by decide +kernel
theorem dX1_placeOfMonth_2 : decode cX1_placeOfMonth 2 = .ok (.if_icmp .lt 19, 3) := by decide +kernel
theorem dX1_placeOfMonth_5 : decode cX1_placeOfMonth 5 = .ok (.iload_n 0, 1) := by decide +kernel
theorem dX1_placeOfMonth_6 : decode cX1_placeOfMonth 6 = .ok (.bipush 13, 2) := by decide +kernel
theorem dX1_placeOfMonth_8 : decode cX1_placeOfMonth 8 = .ok (.if_icmp .gt 13, 3) := by decide +kernel
theorem dX1_placeOfMonth_11 : decode cX1_placeOfMonth 11 = .ok (.getstatic 25, 3) := by decide +kernel
theorem dX1_placeOfMonth_14 : decode cX1_placeOfMonth 14 = .ok (.iload_n 0, 1) := by decide +kernel
theorem dX1_placeOfMonth_15 : decode cX1_placeOfMonth 15 = .ok (.iconst 1, 1) := by decide +kernel
theorem dX1_placeOfMonth_16 : decode cX1_placeOfMonth 16 = .ok (.isub, 1) := by decide +kernel
theorem dX1_placeOfMonth_17 : decode cX1_placeOfMonth 17 = .ok (.iaload, 1) := by decide +kernel
theorem dX1_placeOfMonth_18 : decode cX1_placeOfMonth 18 = .ok (.goto 4, 3) := by decide +kernel
theorem dX1_placeOfMonth_21 : decode cX1_placeOfMonth 21 = .ok (.iconst 0, 1) := by decide +kernel
theorem dX1_placeOfMonth_22 : decode cX1_placeOfMonth 22 = .ok (.ireturn, 1) := by decide +kernel
theorem dX1_firstDayOf_0 : decode cX1_firstDayOf 0 = .ok (.iload_n 0, 1) := by decide +kernel
theorem dX1_firstDayOf_1 : decode cX1_firstDayOf 1 = .ok (.iconst 1, 1) := by decide +kernel
theorem dX1_firstDayOf_2 : decode cX1_firstDayOf 2 = .ok (.isub, 1) := by decide +kernel
theorem dX1_firstDayOf_3 : decode cX1_firstDayOf 3 = .ok (.istore_n 1, 1) := by decide +kernel
theorem dX1_firstDayOf_4 : decode cX1_firstDayOf 4 = .ok (.iload_n 1, 1) := by decide +kernel
theorem dX1_firstDayOf_5 : decode cX1_firstDayOf 5 = .ok (.iconst 4, 1) := by decide +kernel
theorem dX1_firstDayOf_6 : decode cX1_firstDayOf 6 = .ok (.idiv, 1) := by decide +kernel
theorem dX1_firstDayOf_7 : decode cX1_firstDayOf 7 = .ok (.iload_n 1, 1) := by decide +kernel
theorem dX1_firstDayOf_8 : decode cX1_firstDayOf 8 = .ok (.bipush 100, 2) := by decide +kernel
theorem dX1_firstDayOf_10 : decode cX1_firstDayOf 10 = .ok (.idiv, 1) := by decide +kernel
theorem dX1_firstDayOf_11 : decode cX1_firstDayOf 11 = .ok (.isub, 1) := by decide +kernel
theorem dX1_firstDayOf_12 : decode cX1_firstDayOf 12 = .ok (.iload_n 1, 1) := by decide +kernel
theorem dX1_firstDayOf_13 : decode cX1_firstDayOf 13 = .ok (.sipush 400, 3) := by decide +kernel
theorem dX1_firstDayOf_16 : decode cX1_firstDayOf 16 = .ok (.idiv, 1) := by decide +kernel
theorem dX1_firstDayOf_17 : decode cX1_firstDayOf 17 = .ok (.iadd, 1) := by decide +kernel
theorem dX1_firstDayOf_18 : decode cX1_firstDayOf 18 = .ok (.istore_n 2, 1) := by decide +kernel
theorem dX1_firstDayOf_19 : decode cX1_firstDayOf 19 = .ok (.sipush 365, 3) := by decide +kernel
theorem dX1_firstDayOf_22 : decode cX1_firstDayOf 22 = .ok (.iload_n 0, 1) := by decide +kernel
theorem dX1_firstDayOf_23 : decode cX1_firstDayOf 23 = .ok (.sipush 1800, 3) := by decide +kernel
theorem dX1_firstDayOf_26 : decode cX1_firstDayOf 26 = .ok (.isub, 1) := by decide +kernel
theorem dX1_firstDayOf_27 : decode cX1_firstDayOf 27 = .ok (.imul, 1) := by decide +kernel
theorem dX1_firstDayOf_28 : decode cX1_firstDayOf 28 = .ok (.iload_n 2, 1) := by decide +kernel
theorem dX1_firstDayOf_29 : decode cX1_firstDayOf 29 = .ok (.iadd, 1) := by decide +kernel
theorem dX1_firstDayOf_30 : decode cX1_firstDayOf 30 = .ok (.sipush 436, 3) := by decide +kernel
theorem dX1_firstDayOf_33 : decode cX1_firstDayOf 33 = .ok (.isub, 1) := by decide +kernel
theorem dX1_firstDayOf_34 : decode cX1_firstDayOf 34 = .ok (.ireturn, 1) := by decide +kernel
theorem dX1_numberOf_0 : decode cX1_numberOf 0 = .ok (.iload_n 0, 1) := by decide +kernel
theorem dX1_numberOf_1 : decode cX1_numberOf 1 = .ok (.iload_n 1, 1) := by decide +kernel
theorem dX1_numberOf_2 : decode cX1_numberOf 2 = .ok (.invokestatic 18, 3) := by decide +kernel
theorem dX1_numberOf_5 : decode cX1_numberOf 5 = .ok (.iload_n 2, 1) := by decide +kernel
theorem dX1_numberOf_6 : decode cX1_numberOf 6 = .ok (.iadd, 1) := by decide +kernel
theorem dX1_numberOf_7 : decode cX1_numberOf 7 = .ok (.iconst 1, 1) := by decide +kernel
theorem dX1_numberOf_8 : decode cX1_numberOf 8 = .ok (.isub, 1) := by decide +kernel
theorem dX1_numberOf_9 : decode cX1_numberOf 9 = .ok (.invokestatic 29, 3) := by decide +kernel
theorem dX1_numberOf_12 : decode cX1_numberOf 12 = .ok (.ireturn, 1) := by decide +kernel
theorem dX1_dayInYear_0 : decode cX1_dayInYear 0 = .ok (.iload_n 1, 1) := by decide +kernel
theorem dX1_dayInYear_1 : decode cX1_dayInYear 1 = .ok (.bipush 59, 2) := by decide +kernel
theorem dX1_dayInYear_3 : decode cX1_dayInYear 3 = .ok (.if_icmp .le 16, 3) := by decide +kernel
theorem dX1_dayInYear_6 : decode cX1_dayInYear 6 = .ok (.iload_n 0, 1) := by decide +kernel
theorem dX1_dayInYear_7 : decode cX1_dayInYear 7 = .ok (.invokestatic 22, 3) := by decide +kernel
theorem dX1_dayInYear_10 : decode cX1_dayInYear 10 = .ok (.ifCond .ne 9, 3) := by decide +kernel
theorem dX1_dayInYear_13 : decode cX1_dayInYear 13 = .ok (.iload_n 1, 1) := by decide +kernel
theorem dX1_dayInYear_14 : decode cX1_dayInYear 14 = .ok (.iconst 1, 1) := by decide +kernel
theorem dX1_dayInYear_15 : decode cX1_dayInYear 15 = .ok (.isub, 1) := by decide +kernel
theorem dX1_dayInYear_16 : decode cX1_dayInYear 16 = .ok (.goto 4, 3) := by decide +kernel
theorem dX1_dayInYear_19 : decode cX1_dayInYear 19 = .ok (.iload_n 1, 1) := by decide +kernel
theorem dX1_dayInYear_20 : decode cX1_dayInYear 20 = .ok (.istore_n 2, 1) := by decide +kernel
theorem dX1_dayInYear_21 : decode cX1_dayInYear 21 = .ok (.iload_n 0, 1) := by decide +kernel
theorem dX1_dayInYear_22 : decode cX1_dayInYear 22 = .ok (.invokestatic 32, 3) := by decide +kernel
theorem dX1_dayInYear_25 : decode cX1_dayInYear 25 = .ok (.iload_n 2, 1) := by decide +kernel
theorem dX1_dayInYear_26 : decode cX1_dayInYear 26 = .ok (.iadd, 1) := by decide +kernel
theorem dX1_dayInYear_27 : decode cX1_dayInYear 27 = .ok (.ireturn, 1) := by decide +kernel
theorem dX1_yearOf_0 : decode cX1_yearOf 0 = .ok (.sipush 1800, 3) := by decide +kernel
theorem dX1_yearOf_3 : decode cX1_yearOf 3 = .ok (.iload_n 0, 1) := by decide +kernel
theorem dX1_yearOf_4 : decode cX1_yearOf 4 = .ok (.sipush 366, 3) := by decide +kernel
theorem dX1_yearOf_7 : decode cX1_yearOf 7 = .ok (.idiv, 1) := by decide +kernel
theorem dX1_yearOf_8 : decode cX1_yearOf 8 = .ok (.iadd, 1) := by decide +kernel
theorem dX1_yearOf_9 : decode cX1_yearOf 9 = .ok (.istore_n 1, 1) := by decide +kernel
theorem dX1_yearOf_10 : decode cX1_yearOf 10 = .ok (.iconst 0, 1) := by decide +kernel
theorem dX1_yearOf_11 : decode cX1_yearOf 11 = .ok (.istore_n 2, 1) := by decide +kernel
theorem dX1_yearOf_12 : decode cX1_yearOf 12 = .ok (.iload_n 2, 1) := by decide +kernel
theorem dX1_yearOf_13 : decode cX1_yearOf 13 = .ok (.iconst 2, 1) := by decide +kernel
theorem dX1_yearOf_14 : decode cX1_yearOf 14 = .ok (.if_icmp .ge 22, 3) := by decide +kernel
theorem dX1_yearOf_17 : decode cX1_yearOf 17 = .ok (.iload_n 1, 1) := by decide +kernel
theorem dX1_yearOf_18 : decode cX1_yearOf 18 = .ok (.iconst 1, 1) := by decide +kernel
theorem dX1_yearOf_19 : decode cX1_yearOf 19 = .ok (.iadd, 1) := by decide +kernel
theorem dX1_yearOf_20 : decode cX1_yearOf 20 = .ok (.invokestatic 32, 3) := by decide +kernel
theorem dX1_yearOf_23 : decode cX1_yearOf 23 = .ok (.iload_n 0, 1) := by decide +kernel
theorem dX1_yearOf_24 : decode cX1_yearOf 24 = .ok (.if_icmp .gt 12, 3) := by decide +kernel
theorem dX1_yearOf_27 : decode cX1_yearOf 27 = .ok (.iinc 1 1, 3) := by decide +kernel
theorem dX1_yearOf_30 : decode cX1_yearOf 30 = .ok (.iinc 2 1, 3) := by decide +kernel
theorem dX1_yearOf_33 : decode cX1_yearOf 33 = .ok (.goto (-21), 3) := by decide +kernel
theorem dX1_yearOf_36 : decode cX1_yearOf 36 = .ok (.iload_n 1, 1) := by decide +kernel
theorem dX1_yearOf_37 : decode cX1_yearOf 37 = .ok (.ireturn, 1) := by decide +kernel
theorem dX1_placeOf_0 : decode cX1_placeOf 0 = .ok (.iload_n 0, 1) := by decide +kernel
theorem dX1_placeOf_1 : decode cX1_placeOf 1 = .ok (.iload_n 1, 1) := by decide +kernel
theorem dX1_placeOf_2 : decode cX1_placeOf 2 = .ok (.invokestatic 32, 3) := by decide +kernel
theorem dX1_placeOf_5 : decode cX1_placeOf 5 = .ok (.isub, 1) := by decide +kernel
theorem dX1_placeOf_6 : decode cX1_placeOf 6 = .ok (.istore_n 2, 1) := by decide +kernel
theorem dX1_placeOf_7 : decode cX1_placeOf 7 = .ok (.iload_n 2, 1) := by decide +kernel
theorem dX1_placeOf_8 : decode cX1_placeOf 8 = .ok (.bipush 59, 2) := by decide +kernel
theorem dX1_placeOf_10 : decode cX1_placeOf 10 = .ok (.if_icmp .lt 16, 3) := by decide +kernel
theorem dX1_placeOf_13 : decode cX1_placeOf 13 = .ok (.iload_n 1, 1) := by decide +kernel
theorem dX1_placeOf_14 : decode cX1_placeOf 14 = .ok (.invokestatic 22, 3) := by decide +kernel
theorem dX1_placeOf_17 : decode cX1_placeOf 17 = .ok (.ifCond .ne 9, 3) := by decide +kernel
theorem dX1_placeOf_20 : decode cX1_placeOf 20 = .ok (.iload_n 2, 1) := by decide +kernel
theorem dX1_placeOf_21 : decode cX1_placeOf 21 = .ok (.iconst 1, 1) := by decide +kernel
theorem dX1_placeOf_22 : decode cX1_placeOf 22 = .ok (.iadd, 1) := by decide +kernel
theorem dX1_placeOf_23 : decode cX1_placeOf 23 = .ok (.goto 4, 3) := by decide +kernel
theorem dX1_placeOf_26 : decode cX1_placeOf 26 = .ok (.iload_n 2, 1) := by decide +kernel
theorem dX1_placeOf_27 : decode cX1_placeOf 27 = .ok (.ireturn, 1) := by decide +kernel
theorem dX1_monthOf_0 : decode cX1_monthOf 0 = .ok (.iconst 1, 1) := by decide +kernel
theorem dX1_monthOf_1 : decode cX1_monthOf 1 = .ok (.istore_n 1, 1) := by decide +kernel
theorem dX1_monthOf_2 : decode cX1_monthOf 2 = .ok (.iload_n 1, 1) := by decide +kernel
theorem dX1_monthOf_3 : decode cX1_monthOf 3 = .ok (.bipush 12, 2) := by decide +kernel
theorem dX1_monthOf_5 : decode cX1_monthOf 5 = .ok (.if_icmp .ge 19, 3) := by decide +kernel
theorem dX1_monthOf_8 : decode cX1_monthOf 8 = .ok (.iload_n 1, 1) := by decide +kernel
theorem dX1_monthOf_9 : decode cX1_monthOf 9 = .ok (.iconst 1, 1) := by decide +kernel
theorem dX1_monthOf_10 : decode cX1_monthOf 10 = .ok (.iadd, 1) := by decide +kernel
theorem dX1_monthOf_11 : decode cX1_monthOf 11 = .ok (.invokestatic 18, 3) := by decide +kernel
theorem dX1_monthOf_14 : decode cX1_monthOf 14 = .ok (.iload_n 0, 1) := by decide +kernel
theorem dX1_monthOf_15 : decode cX1_monthOf 15 = .ok (.if_icmp .gt 9, 3) := by decide +kernel
theorem dX1_monthOf_18 : decode cX1_monthOf 18 = .ok (.iinc 1 1, 3) := by decide +kernel
theorem dX1_monthOf_21 : decode cX1_monthOf 21 = .ok (.goto (-19), 3) := by decide +kernel
theorem dX1_monthOf_24 : decode cX1_monthOf 24 = .ok (.iload_n 1, 1) := by decide +kernel
theorem dX1_monthOf_25 : decode cX1_monthOf 25 = .ok (.ireturn, 1) := by decide +kernel
theorem dX2_init_0 : decode cX2_init 0 = .ok (.aload_n 0, 1) := by decide +kernel
theorem dX2_init_1 : decode cX2_init 1 = .ok (.invokespecial 3, 3) := by decide +kernel
theorem dX2_init_4 : decode cX2_init 4 = .ok (.aload_n 0, 1) := by decide +kernel
theorem dX2_init_5 : decode cX2_init 5 = .ok (.iconst 5, 1) := by decide +kernel
theorem dX2_init_6 : decode cX2_init 6 = .ok (.newarray .int, 2) := by decide +kernel
theorem dX2_init_8 : decode cX2_init 8 = .ok (.putfield 11, 3) := by decide +kernel
theorem dX2_init_11 : decode cX2_init 11 = .ok (.aload_n 0, 1) := by decide +kernel
theorem dX2_init_12 : decode cX2_init 12 = .ok (.iconst 5, 1) := by decide +kernel
theorem dX2_init_13 : decode cX2_init 13 = .ok (.newarray .int, 2) := by decide +kernel
theorem dX2_init_15 : decode cX2_init 15 = .ok (.putfield 17, 3) := by decide +kernel
theorem dX2_init_18 : decode cX2_init 18 = .ok (.aload_n 0, 1) := by decide +kernel
theorem dX2_init_19 : decode cX2_init 19 = .ok (.bipush 50, 2) := by decide +kernel
theorem dX2_init_21 : decode cX2_init 21 = .ok (.newarray .int, 2) := by decide +kernel
theorem dX2_init_23 : decode cX2_init 23 = .ok (.putfield 20, 3) := by decide +kernel
theorem dX2_init_26 : decode cX2_init 26 = .ok (.aload_n 0, 1) := by decide +kernel
theorem dX2_init_27 : decode cX2_init 27 = .ok (.aload_n 1, 1) := by decide +kernel
theorem dX2_init_28 : decode cX2_init 28 = .ok (.putfield 23, 3) := by decide +kernel
theorem dX2_init_31 : decode cX2_init 31 = .ok (.return_, 1) := by decide +kernel
theorem dX2_countAll_0 : decode cX2_countAll 0 = .ok (.aload_n 0, 1) := by decide +kernel
theorem dX2_countAll_1 : decode cX2_countAll 1 = .ok (.getfield 23, 3) := by decide +kernel
theorem dX2_countAll_4 : decode cX2_countAll 4 = .ok (.getfield 27, 3) := by decide +kernel
theorem dX2_countAll_7 : decode cX2_countAll 7 = .ok (.iconst (-1), 1) := by decide +kernel
theorem dX2_countAll_8 : decode cX2_countAll 8 = .ok (.if_icmp .ne 22, 3) := by decide +kernel
theorem dX2_countAll_11 : decode cX2_countAll 11 = .ok (.aload_n 0, 1) := by decide +kernel
theorem dX2_countAll_12 : decode cX2_countAll 12 = .ok (.iconst (-1), 1) := by decide +kernel
theorem dX2_countAll_13 : decode cX2_countAll 13 = .ok (.iconst (-1), 1) := by decide +kernel
theorem dX2_countAll_14 : decode cX2_countAll 14 = .ok (.invokevirtual 31, 3) := by decide +kernel
theorem dX2_countAll_17 : decode cX2_countAll 17 = .ok (.aload_n 0, 1) := by decide +kernel
theorem dX2_countAll_18 : decode cX2_countAll 18 = .ok (.getfield 23, 3) := by decide +kernel
theorem dX2_countAll_21 : decode cX2_countAll 21 = .ok (.aload_n 0, 1) := by decide +kernel
theorem dX2_countAll_22 : decode cX2_countAll 22 = .ok (.iconst 0, 1) := by decide +kernel
theorem dX2_countAll_23 : decode cX2_countAll 23 = .ok (.iconst 0, 1) := by decide +kernel
theorem dX2_countAll_24 : decode cX2_countAll 24 = .ok (.invokevirtual 35, 3) := by decide +kernel
theorem dX2_countAll_27 : decode cX2_countAll 27 = .ok (.putfield 27, 3) := by decide +kernel
theorem dX2_countAll_30 : decode cX2_countAll 30 = .ok (.aload_n 0, 1) := by decide +kernel
theorem dX2_countAll_31 : decode cX2_countAll 31 = .ok (.getfield 23, 3) := by decide +kernel
theorem dX2_countAll_34 : decode cX2_countAll 34 = .ok (.getfield 27, 3) := by decide +kernel
theorem dX2_countAll_37 : decode cX2_countAll 37 = .ok (.ireturn, 1) := by decide +kernel
theorem dX2_countWith_0 : decode cX2_countWith 0 = .ok (.aload_n 0, 1) := by decide +kernel
theorem dX2_countWith_1 : decode cX2_countWith 1 = .ok (.iload_n 1, 1) := by decide +kernel
theorem dX2_countWith_2 : decode cX2_countWith 2 = .ok (.iload_n 2, 1) := by decide +kernel
theorem dX2_countWith_3 : decode cX2_countWith 3 = .ok (.invokevirtual 31, 3) := by decide +kernel
theorem dX2_countWith_6 : decode cX2_countWith 6 = .ok (.aload_n 0, 1) := by decide +kernel
theorem dX2_countWith_7 : decode cX2_countWith 7 = .ok (.iconst 0, 1) := by decide +kernel
theorem dX2_countWith_8 : decode cX2_countWith 8 = .ok (.iconst 0, 1) := by decide +kernel
theorem dX2_countWith_9 : decode cX2_countWith 9 = .ok (.invokevirtual 35, 3) := by decide +kernel
theorem dX2_countWith_12 : decode cX2_countWith 12 = .ok (.ireturn, 1) := by decide +kernel
theorem dX2_pick_0 : decode cX2_pick 0 = .ok (.aload_n 0, 1) := by decide +kernel
theorem dX2_pick_1 : decode cX2_pick 1 = .ok (.iconst (-1), 1) := by decide +kernel
theorem dX2_pick_2 : decode cX2_pick 2 = .ok (.iconst (-1), 1) := by decide +kernel
theorem dX2_pick_3 : decode cX2_pick 3 = .ok (.invokevirtual 31, 3) := by decide +kernel
theorem dX2_pick_6 : decode cX2_pick 6 = .ok (.iload_n 1, 1) := by decide +kernel
theorem dX2_pick_7 : decode cX2_pick 7 = .ok (.istore_n 2, 1) := by decide +kernel
theorem dX2_pick_8 : decode cX2_pick 8 = .ok (.iconst 0, 1) := by decide +kernel
theorem dX2_pick_9 : decode cX2_pick 9 = .ok (.istore_n 3, 1) := by decide +kernel
theorem dX2_pick_10 : decode cX2_pick 10 = .ok (.iconst 0, 1) := by decide +kernel
theorem dX2_pick_11 : decode cX2_pick 11 = .ok (.istore 4, 2) := by decide +kernel
theorem dX2_pick_13 : decode cX2_pick 13 = .ok (.iconst 0, 1) := by decide +kernel
theorem dX2_pick_14 : decode cX2_pick 14 = .ok (.istore 5, 2) := by decide +kernel
theorem dX2_pick_16 : decode cX2_pick 16 = .ok (.iload 5, 2) := by decide +kernel
theorem dX2_pick_18 : decode cX2_pick 18 = .ok (.iconst 5, 1) := by decide +kernel
theorem dX2_pick_19 : decode cX2_pick 19 = .ok (.if_icmp .ge 90, 3) := by decide +kernel
theorem dX2_pick_22 : decode cX2_pick 22 = .ok (.aload_n 0, 1) := by decide +kernel
theorem dX2_pick_23 : decode cX2_pick 23 = .ok (.iload 5, 2) := by decide +kernel
theorem dX2_pick_25 : decode cX2_pick 25 = .ok (.invokevirtual 39, 3) := by decide +kernel
theorem dX2_pick_28 : decode cX2_pick 28 = .ok (.iconst 0, 1) := by decide +kernel
theorem dX2_pick_29 : decode cX2_pick 29 = .ok (.istore 6, 2) := by decide +kernel
theorem dX2_pick_31 : decode cX2_pick 31 = .ok (.aload_n 0, 1) := by decide +kernel
theorem dX2_pick_32 : decode cX2_pick 32 = .ok (.iload 5, 2) := by decide +kernel
theorem dX2_pick_34 : decode cX2_pick 34 = .ok (.iload 6, 2) := by decide +kernel
theorem dX2_pick_36 : decode cX2_pick 36 = .ok (.iload_n 3, 1) := by decide +kernel
theorem dX2_pick_37 : decode cX2_pick 37 = .ok (.invokevirtual 43, 3) := by decide +kernel
theorem dX2_pick_40 : decode cX2_pick 40 = .ok (.istore 7, 2) := by decide +kernel
theorem dX2_pick_42 : decode cX2_pick 42 = .ok (.iload 6, 2) := by decide +kernel
theorem dX2_pick_44 : decode cX2_pick 44 = .ok (.bipush 9, 2) := by decide +kernel
theorem dX2_pick_46 : decode cX2_pick 46 = .ok (.if_icmp .ge 31, 3) := by decide +kernel
theorem dX2_pick_49 : decode cX2_pick 49 = .ok (.iload_n 2, 1) := by decide +kernel
theorem dX2_pick_50 : decode cX2_pick 50 = .ok (.iload 7, 2) := by decide +kernel
theorem dX2_pick_52 : decode cX2_pick 52 = .ok (.if_icmp .lt 25, 3) := by decide +kernel
theorem dX2_pick_55 : decode cX2_pick 55 = .ok (.iload_n 2, 1) := by decide +kernel
theorem dX2_pick_56 : decode cX2_pick 56 = .ok (.iload 7, 2) := by decide +kernel
theorem dX2_pick_58 : decode cX2_pick 58 = .ok (.isub, 1) := by decide +kernel
theorem dX2_pick_59 : decode cX2_pick 59 = .ok (.istore_n 2, 1) := by decide +kernel
theorem dX2_pick_60 : decode cX2_pick 60 = .ok (.iinc 6 1, 3) := by decide +kernel
theorem dX2_pick_63 : decode cX2_pick 63 = .ok (.aload_n 0, 1) := by decide +kernel
theorem dX2_pick_64 : decode cX2_pick 64 = .ok (.iload 5, 2) := by decide +kernel
theorem dX2_pick_66 : decode cX2_pick 66 = .ok (.iload 6, 2) := by decide +kernel
theorem dX2_pick_68 : decode cX2_pick 68 = .ok (.iload_n 3, 1) := by decide +kernel
theorem dX2_pick_69 : decode cX2_pick 69 = .ok (.invokevirtual 43, 3) := by decide +kernel
theorem dX2_pick_72 : decode cX2_pick 72 = .ok (.istore 7, 2) := by decide +kernel
theorem dX2_pick_74 : decode cX2_pick 74 = .ok (.goto (-32), 3) := by decide +kernel
theorem dX2_pick_77 : decode cX2_pick 77 = .ok (.iload_n 3, 1) := by decide +kernel
theorem dX2_pick_78 : decode cX2_pick 78 = .ok (.aload_n 0, 1) := by decide +kernel
theorem dX2_pick_79 : decode cX2_pick 79 = .ok (.getfield 20, 3) := by decide +kernel
theorem dX2_pick_82 : decode cX2_pick 82 = .ok (.iload 5, 2) := by decide +kernel
theorem dX2_pick_84 : decode cX2_pick 84 = .ok (.bipush 10, 2) := by decide +kernel
theorem dX2_pick_86 : decode cX2_pick 86 = .ok (.imul, 1) := by decide +kernel
theorem dX2_pick_87 : decode cX2_pick 87 = .ok (.iload 6, 2) := by decide +kernel
theorem dX2_pick_89 : decode cX2_pick 89 = .ok (.iadd, 1) := by decide +kernel
theorem dX2_pick_90 : decode cX2_pick 90 = .ok (.iaload, 1) := by decide +kernel
theorem dX2_pick_91 : decode cX2_pick 91 = .ok (.iadd, 1) := by decide +kernel
theorem dX2_pick_92 : decode cX2_pick 92 = .ok (.istore_n 3, 1) := by decide +kernel
theorem dX2_pick_93 : decode cX2_pick 93 = .ok (.bipush 10, 2) := by decide +kernel
theorem dX2_pick_95 : decode cX2_pick 95 = .ok (.iload 4, 2) := by decide +kernel
theorem dX2_pick_97 : decode cX2_pick 97 = .ok (.imul, 1) := by decide +kernel
theorem dX2_pick_98 : decode cX2_pick 98 = .ok (.iload 6, 2) := by decide +kernel
theorem dX2_pick_100 : decode cX2_pick 100 = .ok (.iadd, 1) := by decide +kernel
theorem dX2_pick_101 : decode cX2_pick 101 = .ok (.istore 4, 2) := by decide +kernel
theorem dX2_pick_103 : decode cX2_pick 103 = .ok (.iinc 5 1, 3) := by decide +kernel
theorem dX2_pick_106 : decode cX2_pick 106 = .ok (.goto (-90), 3) := by decide +kernel
theorem dX2_pick_109 : decode cX2_pick 109 = .ok (.iload 4, 2) := by decide +kernel
theorem dX2_pick_111 : decode cX2_pick 111 = .ok (.ireturn, 1) := by decide +kernel
theorem dX2_begin_0 : decode cX2_begin 0 = .ok (.aload_n 0, 1) := by decide +kernel
theorem dX2_begin_1 : decode cX2_begin 1 = .ok (.iload_n 1, 1) := by decide +kernel
theorem dX2_begin_2 : decode cX2_begin 2 = .ok (.putfield 47, 3) := by decide +kernel
theorem dX2_begin_5 : decode cX2_begin 5 = .ok (.aload_n 0, 1) := by decide +kernel
theorem dX2_begin_6 : decode cX2_begin 6 = .ok (.iload_n 2, 1) := by decide +kernel
theorem dX2_begin_7 : decode cX2_begin 7 = .ok (.putfield 50, 3) := by decide +kernel
theorem dX2_begin_10 : decode cX2_begin 10 = .ok (.iconst 0, 1) := by decide +kernel
theorem dX2_begin_11 : decode cX2_begin 11 = .ok (.istore_n 3, 1) := by decide +kernel
theorem dX2_begin_12 : decode cX2_begin 12 = .ok (.iload_n 3, 1) := by decide +kernel
theorem dX2_begin_13 : decode cX2_begin 13 = .ok (.iconst 5, 1) := by decide +kernel
theorem dX2_begin_14 : decode cX2_begin 14 = .ok (.if_icmp .ge 66, 3) := by decide +kernel
theorem dX2_begin_17 : decode cX2_begin 17 = .ok (.aload_n 0, 1) := by decide +kernel
theorem dX2_begin_18 : decode cX2_begin 18 = .ok (.getfield 17, 3) := by decide +kernel
theorem dX2_begin_21 : decode cX2_begin 21 = .ok (.iload_n 3, 1) := by decide +kernel
theorem dX2_begin_22 : decode cX2_begin 22 = .ok (.iconst 0, 1) := by decide +kernel
theorem dX2_begin_23 : decode cX2_begin 23 = .ok (.iastore, 1) := by decide +kernel
theorem dX2_begin_24 : decode cX2_begin 24 = .ok (.iconst 0, 1) := by decide +kernel
theorem dX2_begin_25 : decode cX2_begin 25 = .ok (.istore 4, 2) := by decide +kernel
theorem dX2_begin_27 : decode cX2_begin 27 = .ok (.iload 4, 2) := by decide +kernel
theorem dX2_begin_29 : decode cX2_begin 29 = .ok (.aload_n 0, 1) := by decide +kernel
theorem dX2_begin_30 : decode cX2_begin 30 = .ok (.getfield 23, 3) := by decide +kernel
theorem dX2_begin_33 : decode cX2_begin 33 = .ok (.getfield 53, 3) := by decide +kernel
theorem dX2_begin_36 : decode cX2_begin 36 = .ok (.if_icmp .ge 38, 3) := by decide +kernel
theorem dX2_begin_39 : decode cX2_begin 39 = .ok (.aload_n 0, 1) := by decide +kernel
theorem dX2_begin_40 : decode cX2_begin 40 = .ok (.getfield 17, 3) := by decide +kernel
theorem dX2_begin_43 : decode cX2_begin 43 = .ok (.iload_n 3, 1) := by decide +kernel
theorem dX2_begin_44 : decode cX2_begin 44 = .ok (.dup2, 1) := by decide +kernel
theorem dX2_begin_45 : decode cX2_begin 45 = .ok (.iaload, 1) := by decide +kernel
theorem dX2_begin_46 : decode cX2_begin 46 = .ok (.aload_n 0, 1) := by decide +kernel
theorem dX2_begin_47 : decode cX2_begin 47 = .ok (.getfield 23, 3) := by decide +kernel
theorem dX2_begin_50 : decode cX2_begin 50 = .ok (.getfield 56, 3) := by decide +kernel
theorem dX2_begin_53 : decode cX2_begin 53 = .ok (.iload 4, 2) := by decide +kernel
theorem dX2_begin_55 : decode cX2_begin 55 = .ok (.iaload, 1) := by decide +kernel
theorem dX2_begin_56 : decode cX2_begin 56 = .ok (.iload_n 3, 1) := by decide +kernel
theorem dX2_begin_57 : decode cX2_begin 57 = .ok (.ishr, 1) := by decide +kernel
theorem dX2_begin_58 : decode cX2_begin 58 = .ok (.ifCond .eq 7, 3) := by decide +kernel
theorem dX2_begin_61 : decode cX2_begin 61 = .ok (.iconst 1, 1) := by decide +kernel
theorem dX2_begin_62 : decode cX2_begin 62 = .ok (.goto 4, 3) := by decide +kernel
theorem dX2_begin_65 : decode cX2_begin 65 = .ok (.iconst 0, 1) := by decide +kernel
theorem dX2_begin_66 : decode cX2_begin 66 = .ok (.iadd, 1) := by decide +kernel
theorem dX2_begin_67 : decode cX2_begin 67 = .ok (.iastore, 1) := by decide +kernel
theorem dX2_begin_68 : decode cX2_begin 68 = .ok (.iinc 4 1, 3) := by decide +kernel
theorem dX2_begin_71 : decode cX2_begin 71 = .ok (.goto (-44), 3) := by decide +kernel
theorem dX2_begin_74 : decode cX2_begin 74 = .ok (.iinc 3 1, 3) := by decide +kernel
theorem dX2_begin_77 : decode cX2_begin 77 = .ok (.goto (-65), 3) := by decide +kernel
theorem dX2_begin_80 : decode cX2_begin 80 = .ok (.return_, 1) := by decide +kernel
theorem dX2_countFrom_0 : decode cX2_countFrom 0 = .ok (.iload_n 2, 1) := by decide +kernel
theorem dX2_countFrom_1 : decode cX2_countFrom 1 = .ok (.aload_n 0, 1) := by decide +kernel
theorem dX2_countFrom_2 : decode cX2_countFrom 2 = .ok (.getfield 23, 3) := by decide +kernel
theorem dX2_countFrom_5 : decode cX2_countFrom 5 = .ok (.getfield 59, 3) := by decide +kernel
theorem dX2_countFrom_8 : decode cX2_countFrom 8 = .ok (.if_icmp .le 5, 3) := by decide +kernel
theorem dX2_countFrom_11 : decode cX2_countFrom 11 = .ok (.iconst 0, 1) := by decide +kernel
theorem dX2_countFrom_12 : decode cX2_countFrom 12 = .ok (.ireturn, 1) := by decide +kernel
theorem dX2_countFrom_13 : decode cX2_countFrom 13 = .ok (.iload_n 1, 1) := by decide +kernel
theorem dX2_countFrom_14 : decode cX2_countFrom 14 = .ok (.iconst 5, 1) := by decide +kernel
theorem dX2_countFrom_15 : decode cX2_countFrom 15 = .ok (.if_icmp .ge 21, 3) := by decide +kernel
theorem dX2_countFrom_18 : decode cX2_countFrom 18 = .ok (.iload_n 2, 1) := by decide +kernel
theorem dX2_countFrom_19 : decode cX2_countFrom 19 = .ok (.aload_n 0, 1) := by decide +kernel
theorem dX2_countFrom_20 : decode cX2_countFrom 20 = .ok (.getfield 17, 3) := by decide +kernel
theorem dX2_countFrom_23 : decode cX2_countFrom 23 = .ok (.iload_n 1, 1) := by decide +kernel
theorem dX2_countFrom_24 : decode cX2_countFrom 24 = .ok (.iaload, 1) := by decide +kernel
theorem dX2_countFrom_25 : decode cX2_countFrom 25 = .ok (.iadd, 1) := by decide +kernel
theorem dX2_countFrom_26 : decode cX2_countFrom 26 = .ok (.aload_n 0, 1) := by decide +kernel
theorem dX2_countFrom_27 : decode cX2_countFrom 27 = .ok (.getfield 23, 3) := by decide +kernel
theorem dX2_countFrom_30 : decode cX2_countFrom 30 = .ok (.getfield 59, 3) := by decide +kernel
theorem dX2_countFrom_33 : decode cX2_countFrom 33 = .ok (.if_icmp .gt 9, 3) := by decide +kernel
theorem dX2_countFrom_36 : decode cX2_countFrom 36 = .ok (.aload_n 0, 1) := by decide +kernel
theorem dX2_countFrom_37 : decode cX2_countFrom 37 = .ok (.iload_n 1, 1) := by decide +kernel
theorem dX2_countFrom_38 : decode cX2_countFrom 38 = .ok (.invokevirtual 62, 3) := by decide +kernel
theorem dX2_countFrom_41 : decode cX2_countFrom 41 = .ok (.ireturn, 1) := by decide +kernel
theorem dX2_countFrom_42 : decode cX2_countFrom 42 = .ok (.aload_n 0, 1) := by decide +kernel
theorem dX2_countFrom_43 : decode cX2_countFrom 43 = .ok (.iload_n 1, 1) := by decide +kernel
theorem dX2_countFrom_44 : decode cX2_countFrom 44 = .ok (.invokevirtual 39, 3) := by decide +kernel
theorem dX2_countFrom_47 : decode cX2_countFrom 47 = .ok (.iconst 0, 1) := by decide +kernel
theorem dX2_countFrom_48 : decode cX2_countFrom 48 = .ok (.istore_n 3, 1) := by decide +kernel
theorem dX2_countFrom_49 : decode cX2_countFrom 49 = .ok (.iconst 0, 1) := by decide +kernel
theorem dX2_countFrom_50 : decode cX2_countFrom 50 = .ok (.istore 4, 2) := by decide +kernel
theorem dX2_countFrom_52 : decode cX2_countFrom 52 = .ok (.iload 4, 2) := by decide +kernel
theorem dX2_countFrom_54 : decode cX2_countFrom 54 = .ok (.bipush 10, 2) := by decide +kernel
theorem dX2_countFrom_56 : decode cX2_countFrom 56 = .ok (.if_icmp .ge 37, 3) := by decide +kernel
theorem dX2_countFrom_59 : decode cX2_countFrom 59 = .ok (.iload_n 1, 1) := by decide +kernel
theorem dX2_countFrom_60 : decode cX2_countFrom 60 = .ok (.aload_n 0, 1) := by decide +kernel
theorem dX2_countFrom_61 : decode cX2_countFrom 61 = .ok (.getfield 47, 3) := by decide +kernel
theorem dX2_countFrom_64 : decode cX2_countFrom 64 = .ok (.if_icmp .ne 12, 3) := by decide +kernel
theorem dX2_countFrom_67 : decode cX2_countFrom 67 = .ok (.iload 4, 2) := by decide +kernel
theorem dX2_countFrom_69 : decode cX2_countFrom 69 = .ok (.aload_n 0, 1) := by decide +kernel
theorem dX2_countFrom_70 : decode cX2_countFrom 70 = .ok (.getfield 50, 3) := by decide +kernel
theorem dX2_countFrom_73 : decode cX2_countFrom 73 = .ok (.if_icmp .ne 14, 3) := by decide +kernel
theorem dX2_countFrom_76 : decode cX2_countFrom 76 = .ok (.iload_n 3, 1) := by decide +kernel
theorem dX2_countFrom_77 : decode cX2_countFrom 77 = .ok (.aload_n 0, 1) := by decide +kernel
theorem dX2_countFrom_78 : decode cX2_countFrom 78 = .ok (.iload_n 1, 1) := by decide +kernel
theorem dX2_countFrom_79 : decode cX2_countFrom 79 = .ok (.iload 4, 2) := by decide +kernel
theorem dX2_countFrom_81 : decode cX2_countFrom 81 = .ok (.iload_n 2, 1) := by decide +kernel
theorem dX2_countFrom_82 : decode cX2_countFrom 82 = .ok (.invokevirtual 43, 3) := by decide +kernel
theorem dX2_countFrom_85 : decode cX2_countFrom 85 = .ok (.iadd, 1) := by decide +kernel
theorem dX2_countFrom_86 : decode cX2_countFrom 86 = .ok (.istore_n 3, 1) := by decide +kernel
theorem dX2_countFrom_87 : decode cX2_countFrom 87 = .ok (.iinc 4 1, 3) := by decide +kernel
theorem dX2_countFrom_90 : decode cX2_countFrom 90 = .ok (.goto (-38), 3) := by decide +kernel
theorem dX2_countFrom_93 : decode cX2_countFrom 93 = .ok (.iload_n 3, 1) := by decide +kernel
theorem dX2_countFrom_94 : decode cX2_countFrom 94 = .ok (.ireturn, 1) := by decide +kernel
theorem dX2_countBehind_0 : decode cX2_countBehind 0 = .ok (.aload_n 0, 1) := by decide +kernel
theorem dX2_countBehind_1 : decode cX2_countBehind 1 = .ok (.getfield 11, 3) := by decide +kernel
theorem dX2_countBehind_4 : decode cX2_countBehind 4 = .ok (.iload_n 1, 1) := by decide +kernel
theorem dX2_countBehind_5 : decode cX2_countBehind 5 = .ok (.iload_n 2, 1) := by decide +kernel
theorem dX2_countBehind_6 : decode cX2_countBehind 6 = .ok (.iastore, 1) := by decide +kernel
theorem dX2_countBehind_7 : decode cX2_countBehind 7 = .ok (.aload_n 0, 1) := by decide +kernel
theorem dX2_countBehind_8 : decode cX2_countBehind 8 = .ok (.iload_n 1, 1) := by decide +kernel
theorem dX2_countBehind_9 : decode cX2_countBehind 9 = .ok (.iconst 1, 1) := by decide +kernel
theorem dX2_countBehind_10 : decode cX2_countBehind 10 = .ok (.iadd, 1) := by decide +kernel
theorem dX2_countBehind_11 : decode cX2_countBehind 11 = .ok (.iload_n 3, 1) := by decide +kernel
theorem dX2_countBehind_12 : decode cX2_countBehind 12 = .ok (.aload_n 0, 1) := by decide +kernel
theorem dX2_countBehind_13 : decode cX2_countBehind 13 = .ok (.getfield 20, 3) := by decide +kernel
theorem dX2_countBehind_16 : decode cX2_countBehind 16 = .ok (.iload_n 1, 1) := by decide +kernel
theorem dX2_countBehind_17 : decode cX2_countBehind 17 = .ok (.bipush 10, 2) := by decide +kernel
theorem dX2_countBehind_19 : decode cX2_countBehind 19 = .ok (.imul, 1) := by decide +kernel
theorem dX2_countBehind_20 : decode cX2_countBehind 20 = .ok (.iload_n 2, 1) := by decide +kernel
theorem dX2_countBehind_21 : decode cX2_countBehind 21 = .ok (.iadd, 1) := by decide +kernel
theorem dX2_countBehind_22 : decode cX2_countBehind 22 = .ok (.iaload, 1) := by decide +kernel
theorem dX2_countBehind_23 : decode cX2_countBehind 23 = .ok (.iadd, 1) := by decide +kernel
theorem dX2_countBehind_24 : decode cX2_countBehind 24 = .ok (.invokevirtual 35, 3) := by decide +kernel
theorem dX2_countBehind_27 : decode cX2_countBehind 27 = .ok (.ireturn, 1) := by decide +kernel
theorem dX2_freeWays_0 : decode cX2_freeWays 0 = .ok (.iconst 1, 1) := by decide +kernel
theorem dX2_freeWays_1 : decode cX2_freeWays 1 = .ok (.istore_n 2, 1) := by decide +kernel
theorem dX2_freeWays_2 : decode cX2_freeWays 2 = .ok (.iload_n 1, 1) := by decide +kernel
theorem dX2_freeWays_3 : decode cX2_freeWays 3 = .ok (.istore_n 3, 1) := by decide +kernel
theorem dX2_freeWays_4 : decode cX2_freeWays 4 = .ok (.iload_n 3, 1) := by decide +kernel
theorem dX2_freeWays_5 : decode cX2_freeWays 5 = .ok (.iconst 5, 1) := by decide +kernel
theorem dX2_freeWays_6 : decode cX2_freeWays 6 = .ok (.if_icmp .ge 26, 3) := by decide +kernel
theorem dX2_freeWays_9 : decode cX2_freeWays 9 = .ok (.iload_n 2, 1) := by decide +kernel
theorem dX2_freeWays_10 : decode cX2_freeWays 10 = .ok (.iload_n 3, 1) := by decide +kernel
theorem dX2_freeWays_11 : decode cX2_freeWays 11 = .ok (.aload_n 0, 1) := by decide +kernel
theorem dX2_freeWays_12 : decode cX2_freeWays 12 = .ok (.getfield 47, 3) := by decide +kernel
theorem dX2_freeWays_15 : decode cX2_freeWays 15 = .ok (.if_icmp .ne 7, 3) := by decide +kernel
theorem dX2_freeWays_18 : decode cX2_freeWays 18 = .ok (.iconst 1, 1) := by decide +kernel
theorem dX2_freeWays_19 : decode cX2_freeWays 19 = .ok (.goto 5, 3) := by decide +kernel
theorem dX2_freeWays_22 : decode cX2_freeWays 22 = .ok (.bipush 10, 2) := by decide +kernel
theorem dX2_freeWays_24 : decode cX2_freeWays 24 = .ok (.imul, 1) := by decide +kernel
theorem dX2_freeWays_25 : decode cX2_freeWays 25 = .ok (.istore_n 2, 1) := by decide +kernel
theorem dX2_freeWays_26 : decode cX2_freeWays 26 = .ok (.iinc 3 1, 3) := by decide +kernel
theorem dX2_freeWays_29 : decode cX2_freeWays 29 = .ok (.goto (-25), 3) := by decide +kernel
theorem dX2_freeWays_32 : decode cX2_freeWays 32 = .ok (.iload_n 2, 1) := by decide +kernel
theorem dX2_freeWays_33 : decode cX2_freeWays 33 = .ok (.ireturn, 1) := by decide +kernel
theorem dX2_weighFigures_0 : decode cX2_weighFigures 0 = .ok (.iload_n 1, 1) := by decide +kernel
theorem dX2_weighFigures_1 : decode cX2_weighFigures 1 = .ok (.bipush 10, 2) := by decide +kernel
theorem dX2_weighFigures_3 : decode cX2_weighFigures 3 = .ok (.imul, 1) := by decide +kernel
theorem dX2_weighFigures_4 : decode cX2_weighFigures 4 = .ok (.istore_n 2, 1) := by decide +kernel
theorem dX2_weighFigures_5 : decode cX2_weighFigures 5 = .ok (.iconst 0, 1) := by decide +kernel
theorem dX2_weighFigures_6 : decode cX2_weighFigures 6 = .ok (.istore_n 3, 1) := by decide +kernel
theorem dX2_weighFigures_7 : decode cX2_weighFigures 7 = .ok (.iload_n 3, 1) := by decide +kernel
theorem dX2_weighFigures_8 : decode cX2_weighFigures 8 = .ok (.bipush 10, 2) := by decide +kernel
theorem dX2_weighFigures_10 : decode cX2_weighFigures 10 = .ok (.if_icmp .ge 18, 3) := by decide +kernel
theorem dX2_weighFigures_13 : decode cX2_weighFigures 13 = .ok (.aload_n 0, 1) := by decide +kernel
theorem dX2_weighFigures_14 : decode cX2_weighFigures 14 = .ok (.getfield 20, 3) := by decide +kernel
theorem dX2_weighFigures_17 : decode cX2_weighFigures 17 = .ok (.iload_n 2, 1) := by decide +kernel
theorem dX2_weighFigures_18 : decode cX2_weighFigures 18 = .ok (.iload_n 3, 1) := by decide +kernel
theorem dX2_weighFigures_19 : decode cX2_weighFigures 19 = .ok (.iadd, 1) := by decide +kernel
theorem dX2_weighFigures_20 : decode cX2_weighFigures 20 = .ok (.iconst 0, 1) := by decide +kernel
theorem dX2_weighFigures_21 : decode cX2_weighFigures 21 = .ok (.iastore, 1) := by decide +kernel
theorem dX2_weighFigures_22 : decode cX2_weighFigures 22 = .ok (.iinc 3 1, 3) := by decide +kernel
theorem dX2_weighFigures_25 : decode cX2_weighFigures 25 = .ok (.goto (-18), 3) := by decide +kernel
theorem dX2_weighFigures_28 : decode cX2_weighFigures 28 = .ok (.iconst 0, 1) := by decide +kernel
theorem dX2_weighFigures_29 : decode cX2_weighFigures 29 = .ok (.istore_n 3, 1) := by decide +kernel
theorem dX2_weighFigures_30 : decode cX2_weighFigures 30 = .ok (.iconst 0, 1) := by decide +kernel
theorem dX2_weighFigures_31 : decode cX2_weighFigures 31 = .ok (.istore 4, 2) := by decide +kernel
theorem dX2_weighFigures_33 : decode cX2_weighFigures 33 = .ok (.iload 4, 2) := by decide +kernel
theorem dX2_weighFigures_35 : decode cX2_weighFigures 35 = .ok (.aload_n 0, 1) := by decide +kernel
theorem dX2_weighFigures_36 : decode cX2_weighFigures 36 = .ok (.getfield 23, 3) := by decide +kernel
theorem dX2_weighFigures_39 : decode cX2_weighFigures 39 = .ok (.getfield 53, 3) := by decide +kernel
theorem dX2_weighFigures_42 : decode cX2_weighFigures 42 = .ok (.if_icmp .ge 81, 3) := by decide +kernel
theorem dX2_weighFigures_45 : decode cX2_weighFigures 45 = .ok (.aload_n 0, 1) := by decide +kernel
theorem dX2_weighFigures_46 : decode cX2_weighFigures 46 = .ok (.getfield 23, 3) := by decide +kernel
theorem dX2_weighFigures_49 : decode cX2_weighFigures 49 = .ok (.getfield 56, 3) := by decide +kernel
theorem dX2_weighFigures_52 : decode cX2_weighFigures 52 = .ok (.iload 4, 2) := by decide +kernel
theorem dX2_weighFigures_54 : decode cX2_weighFigures 54 = .ok (.iaload, 1) := by decide +kernel
theorem dX2_weighFigures_55 : decode cX2_weighFigures 55 = .ok (.iload_n 1, 1) := by decide +kernel
theorem dX2_weighFigures_56 : decode cX2_weighFigures 56 = .ok (.ishr, 1) := by decide +kernel
theorem dX2_weighFigures_57 : decode cX2_weighFigures 57 = .ok (.iconst 1, 1) := by decide +kernel
theorem dX2_weighFigures_58 : decode cX2_weighFigures 58 = .ok (.if_icmp .ne 59, 3) := by decide +kernel
theorem dX2_weighFigures_61 : decode cX2_weighFigures 61 = .ok (.aload_n 0, 1) := by decide +kernel
theorem dX2_weighFigures_62 : decode cX2_weighFigures 62 = .ok (.getfield 20, 3) := by decide +kernel
theorem dX2_weighFigures_65 : decode cX2_weighFigures 65 = .ok (.iload_n 2, 1) := by decide +kernel
theorem dX2_weighFigures_66 : decode cX2_weighFigures 66 = .ok (.aload_n 0, 1) := by decide +kernel
theorem dX2_weighFigures_67 : decode cX2_weighFigures 67 = .ok (.iload 4, 2) := by decide +kernel
theorem dX2_weighFigures_69 : decode cX2_weighFigures 69 = .ok (.iload_n 1, 1) := by decide +kernel
theorem dX2_weighFigures_70 : decode cX2_weighFigures 70 = .ok (.invokevirtual 66, 3) := by decide +kernel
theorem dX2_weighFigures_73 : decode cX2_weighFigures 73 = .ok (.iadd, 1) := by decide +kernel
theorem dX2_weighFigures_74 : decode cX2_weighFigures 74 = .ok (.dup2, 1) := by decide +kernel
theorem dX2_weighFigures_75 : decode cX2_weighFigures 75 = .ok (.iaload, 1) := by decide +kernel
theorem dX2_weighFigures_76 : decode cX2_weighFigures 76 = .ok (.aload_n 0, 1) := by decide +kernel
theorem dX2_weighFigures_77 : decode cX2_weighFigures 77 = .ok (.getfield 23, 3) := by decide +kernel
theorem dX2_weighFigures_80 : decode cX2_weighFigures 80 = .ok (.getfield 69, 3) := by decide +kernel
theorem dX2_weighFigures_83 : decode cX2_weighFigures 83 = .ok (.iload 4, 2) := by decide +kernel
theorem dX2_weighFigures_85 : decode cX2_weighFigures 85 = .ok (.baload, 1) := by decide +kernel
theorem dX2_weighFigures_86 : decode cX2_weighFigures 86 = .ok (.ifCond .eq 7, 3) := by decide +kernel
theorem dX2_weighFigures_89 : decode cX2_weighFigures 89 = .ok (.iconst (-1), 1) := by decide +kernel
theorem dX2_weighFigures_90 : decode cX2_weighFigures 90 = .ok (.goto 4, 3) := by decide +kernel
theorem dX2_weighFigures_93 : decode cX2_weighFigures 93 = .ok (.iconst 1, 1) := by decide +kernel
theorem dX2_weighFigures_94 : decode cX2_weighFigures 94 = .ok (.iadd, 1) := by decide +kernel
theorem dX2_weighFigures_95 : decode cX2_weighFigures 95 = .ok (.iastore, 1) := by decide +kernel
theorem dX2_weighFigures_96 : decode cX2_weighFigures 96 = .ok (.iload_n 3, 1) := by decide +kernel
theorem dX2_weighFigures_97 : decode cX2_weighFigures 97 = .ok (.aload_n 0, 1) := by decide +kernel
theorem dX2_weighFigures_98 : decode cX2_weighFigures 98 = .ok (.getfield 23, 3) := by decide +kernel
theorem dX2_weighFigures_101 : decode cX2_weighFigures 101 = .ok (.getfield 69, 3) := by decide +kernel
theorem dX2_weighFigures_104 : decode cX2_weighFigures 104 = .ok (.iload 4, 2) := by decide +kernel
theorem dX2_weighFigures_106 : decode cX2_weighFigures 106 = .ok (.baload, 1) := by decide +kernel
theorem dX2_weighFigures_107 : decode cX2_weighFigures 107 = .ok (.ifCond .eq 7, 3) := by decide +kernel
theorem dX2_weighFigures_110 : decode cX2_weighFigures 110 = .ok (.iconst 1, 1) := by decide +kernel
theorem dX2_weighFigures_111 : decode cX2_weighFigures 111 = .ok (.goto 4, 3) := by decide +kernel
theorem dX2_weighFigures_114 : decode cX2_weighFigures 114 = .ok (.iconst 0, 1) := by decide +kernel
theorem dX2_weighFigures_115 : decode cX2_weighFigures 115 = .ok (.iadd, 1) := by decide +kernel
theorem dX2_weighFigures_116 : decode cX2_weighFigures 116 = .ok (.istore_n 3, 1) := by decide +kernel
theorem dX2_weighFigures_117 : decode cX2_weighFigures 117 = .ok (.iinc 4 1, 3) := by decide +kernel
theorem dX2_weighFigures_120 : decode cX2_weighFigures 120 = .ok (.goto (-87), 3) := by decide +kernel
theorem dX2_weighFigures_123 : decode cX2_weighFigures 123 = .ok (.iconst 0, 1) := by decide +kernel
theorem dX2_weighFigures_124 : decode cX2_weighFigures 124 = .ok (.istore 4, 2) := by decide +kernel
theorem dX2_weighFigures_126 : decode cX2_weighFigures 126 = .ok (.iload 4, 2) := by decide +kernel
theorem dX2_weighFigures_128 : decode cX2_weighFigures 128 = .ok (.bipush 10, 2) := by decide +kernel
theorem dX2_weighFigures_130 : decode cX2_weighFigures 130 = .ok (.if_icmp .ge 22, 3) := by decide +kernel
theorem dX2_weighFigures_133 : decode cX2_weighFigures 133 = .ok (.aload_n 0, 1) := by decide +kernel
theorem dX2_weighFigures_134 : decode cX2_weighFigures 134 = .ok (.getfield 20, 3) := by decide +kernel
theorem dX2_weighFigures_137 : decode cX2_weighFigures 137 = .ok (.iload_n 2, 1) := by decide +kernel
theorem dX2_weighFigures_138 : decode cX2_weighFigures 138 = .ok (.iload 4, 2) := by decide +kernel
theorem dX2_weighFigures_140 : decode cX2_weighFigures 140 = .ok (.iadd, 1) := by decide +kernel
theorem dX2_weighFigures_141 : decode cX2_weighFigures 141 = .ok (.dup2, 1) := by decide +kernel
theorem dX2_weighFigures_142 : decode cX2_weighFigures 142 = .ok (.iaload, 1) := by decide +kernel
theorem dX2_weighFigures_143 : decode cX2_weighFigures 143 = .ok (.iload_n 3, 1) := by decide +kernel
theorem dX2_weighFigures_144 : decode cX2_weighFigures 144 = .ok (.iadd, 1) := by decide +kernel
theorem dX2_weighFigures_145 : decode cX2_weighFigures 145 = .ok (.iastore, 1) := by decide +kernel
theorem dX2_weighFigures_146 : decode cX2_weighFigures 146 = .ok (.iinc 4 1, 3) := by decide +kernel
theorem dX2_weighFigures_149 : decode cX2_weighFigures 149 = .ok (.goto (-23), 3) := by decide +kernel
theorem dX2_weighFigures_152 : decode cX2_weighFigures 152 = .ok (.return_, 1) := by decide +kernel
theorem dX2_neededFigure_0 : decode cX2_neededFigure 0 = .ok (.aload_n 0, 1) := by decide +kernel
theorem dX2_neededFigure_1 : decode cX2_neededFigure 1 = .ok (.getfield 23, 3) := by decide +kernel
theorem dX2_neededFigure_4 : decode cX2_neededFigure 4 = .ok (.getfield 73, 3) := by decide +kernel
theorem dX2_neededFigure_7 : decode cX2_neededFigure 7 = .ok (.iload_n 1, 1) := by decide +kernel
theorem dX2_neededFigure_8 : decode cX2_neededFigure 8 = .ok (.iaload, 1) := by decide +kernel
theorem dX2_neededFigure_9 : decode cX2_neededFigure 9 = .ok (.istore_n 3, 1) := by decide +kernel
theorem dX2_neededFigure_10 : decode cX2_neededFigure 10 = .ok (.iconst 0, 1) := by decide +kernel
theorem dX2_neededFigure_11 : decode cX2_neededFigure 11 = .ok (.istore 4, 2) := by decide +kernel
theorem dX2_neededFigure_13 : decode cX2_neededFigure 13 = .ok (.iload 4, 2) := by decide +kernel
theorem dX2_neededFigure_15 : decode cX2_neededFigure 15 = .ok (.iload_n 2, 1) := by decide +kernel
theorem dX2_neededFigure_16 : decode cX2_neededFigure 16 = .ok (.if_icmp .ge 36, 3) := by decide +kernel
theorem dX2_neededFigure_19 : decode cX2_neededFigure 19 = .ok (.aload_n 0, 1) := by decide +kernel
theorem dX2_neededFigure_20 : decode cX2_neededFigure 20 = .ok (.getfield 23, 3) := by decide +kernel
theorem dX2_neededFigure_23 : decode cX2_neededFigure 23 = .ok (.getfield 56, 3) := by decide +kernel
theorem dX2_neededFigure_26 : decode cX2_neededFigure 26 = .ok (.iload_n 1, 1) := by decide +kernel
theorem dX2_neededFigure_27 : decode cX2_neededFigure 27 = .ok (.iaload, 1) := by decide +kernel
theorem dX2_neededFigure_28 : decode cX2_neededFigure 28 = .ok (.iload 4, 2) := by decide +kernel
theorem dX2_neededFigure_30 : decode cX2_neededFigure 30 = .ok (.ishr, 1) := by decide +kernel
theorem dX2_neededFigure_31 : decode cX2_neededFigure 31 = .ok (.iconst 1, 1) := by decide +kernel
theorem dX2_neededFigure_32 : decode cX2_neededFigure 32 = .ok (.iand, 1) := by decide +kernel
theorem dX2_neededFigure_33 : decode cX2_neededFigure 33 = .ok (.ifCond .eq 13, 3) := by decide +kernel
theorem dX2_neededFigure_36 : decode cX2_neededFigure 36 = .ok (.iload_n 3, 1) := by decide +kernel
theorem dX2_neededFigure_37 : decode cX2_neededFigure 37 = .ok (.aload_n 0, 1) := by decide +kernel
theorem dX2_neededFigure_38 : decode cX2_neededFigure 38 = .ok (.getfield 11, 3) := by decide +kernel
theorem dX2_neededFigure_41 : decode cX2_neededFigure 41 = .ok (.iload 4, 2) := by decide +kernel
theorem dX2_neededFigure_43 : decode cX2_neededFigure 43 = .ok (.iaload, 1) := by decide +kernel
theorem dX2_neededFigure_44 : decode cX2_neededFigure 44 = .ok (.iadd, 1) := by decide +kernel
theorem dX2_neededFigure_45 : decode cX2_neededFigure 45 = .ok (.istore_n 3, 1) := by decide +kernel
theorem dX2_neededFigure_46 : decode cX2_neededFigure 46 = .ok (.iinc 4 1, 3) := by decide +kernel
theorem dX2_neededFigure_49 : decode cX2_neededFigure 49 = .ok (.goto (-36), 3) := by decide +kernel
theorem dX2_neededFigure_52 : decode cX2_neededFigure 52 = .ok (.bipush 10, 2) := by decide +kernel
theorem dX2_neededFigure_54 : decode cX2_neededFigure 54 = .ok (.iload_n 3, 1) := by decide +kernel
theorem dX2_neededFigure_55 : decode cX2_neededFigure 55 = .ok (.bipush 10, 2) := by decide +kernel
theorem dX2_neededFigure_57 : decode cX2_neededFigure 57 = .ok (.irem, 1) := by decide +kernel
theorem dX2_neededFigure_58 : decode cX2_neededFigure 58 = .ok (.isub, 1) := by decide +kernel
theorem dX2_neededFigure_59 : decode cX2_neededFigure 59 = .ok (.bipush 10, 2) := by decide +kernel
theorem dX2_neededFigure_61 : decode cX2_neededFigure 61 = .ok (.irem, 1) := by decide +kernel
theorem dX2_neededFigure_62 : decode cX2_neededFigure 62 = .ok (.ireturn, 1) := by decide +kernel
theorem dX3_init_0 : decode cX3_init 0 = .ok (.aload_n 0, 1) := by decide +kernel
theorem dX3_init_1 : decode cX3_init 1 = .ok (.invokespecial 3, 3) := by decide +kernel
theorem dX3_init_4 : decode cX3_init 4 = .ok (.aload_n 0, 1) := by decide +kernel
theorem dX3_init_5 : decode cX3_init 5 = .ok (.bipush 8, 2) := by decide +kernel
theorem dX3_init_7 : decode cX3_init 7 = .ok (.newarray .int, 2) := by decide +kernel
theorem dX3_init_9 : decode cX3_init 9 = .ok (.putfield 11, 3) := by decide +kernel
theorem dX3_init_12 : decode cX3_init 12 = .ok (.aload_n 0, 1) := by decide +kernel
theorem dX3_init_13 : decode cX3_init 13 = .ok (.aload_n 1, 1) := by decide +kernel
theorem dX3_init_14 : decode cX3_init 14 = .ok (.putfield 17, 3) := by decide +kernel
theorem dX3_init_17 : decode cX3_init 17 = .ok (.return_, 1) := by decide +kernel
theorem dX3_standOn_0 : decode cX3_standOn 0 = .ok (.iload_n 1, 1) := by decide +kernel
theorem dX3_standOn_1 : decode cX3_standOn 1 = .ok (.invokestatic 21, 3) := by decide +kernel
theorem dX3_standOn_4 : decode cX3_standOn 4 = .ok (.istore_n 2, 1) := by decide +kernel
theorem dX3_standOn_5 : decode cX3_standOn 5 = .ok (.aload_n 0, 1) := by decide +kernel
theorem dX3_standOn_6 : decode cX3_standOn 6 = .ok (.iconst 0, 1) := by decide +kernel
theorem dX3_standOn_7 : decode cX3_standOn 7 = .ok (.putfield 27, 3) := by decide +kernel
theorem dX3_standOn_10 : decode cX3_standOn 10 = .ok (.iconst 0, 1) := by decide +kernel
theorem dX3_standOn_11 : decode cX3_standOn 11 = .ok (.istore_n 3, 1) := by decide +kernel
theorem dX3_standOn_12 : decode cX3_standOn 12 = .ok (.iload_n 3, 1) := by decide +kernel
theorem dX3_standOn_13 : decode cX3_standOn 13 = .ok (.aload_n 0, 1) := by decide +kernel
theorem dX3_standOn_14 : decode cX3_standOn 14 = .ok (.getfield 17, 3) := by decide +kernel
theorem dX3_standOn_17 : decode cX3_standOn 17 = .ok (.getfield 31, 3) := by decide +kernel
theorem dX3_standOn_20 : decode cX3_standOn 20 = .ok (.if_icmp .ge 46, 3) := by decide +kernel
theorem dX3_standOn_23 : decode cX3_standOn 23 = .ok (.aload_n 0, 1) := by decide +kernel
theorem dX3_standOn_24 : decode cX3_standOn 24 = .ok (.getfield 11, 3) := by decide +kernel
theorem dX3_standOn_27 : decode cX3_standOn 27 = .ok (.iload_n 3, 1) := by decide +kernel
theorem dX3_standOn_28 : decode cX3_standOn 28 = .ok (.aload_n 0, 1) := by decide +kernel
theorem dX3_standOn_29 : decode cX3_standOn 29 = .ok (.getfield 17, 3) := by decide +kernel
theorem dX3_standOn_32 : decode cX3_standOn 32 = .ok (.iload_n 3, 1) := by decide +kernel
theorem dX3_standOn_33 : decode cX3_standOn 33 = .ok (.iload_n 1, 1) := by decide +kernel
theorem dX3_standOn_34 : decode cX3_standOn 34 = .ok (.iload_n 2, 1) := by decide +kernel
theorem dX3_standOn_35 : decode cX3_standOn 35 = .ok (.invokevirtual 34, 3) := by decide +kernel
theorem dX3_standOn_38 : decode cX3_standOn 38 = .ok (.iastore, 1) := by decide +kernel
theorem dX3_standOn_39 : decode cX3_standOn 39 = .ok (.aload_n 0, 1) := by decide +kernel
theorem dX3_standOn_40 : decode cX3_standOn 40 = .ok (.getfield 11, 3) := by decide +kernel
theorem dX3_standOn_43 : decode cX3_standOn 43 = .ok (.iload_n 3, 1) := by decide +kernel
theorem dX3_standOn_44 : decode cX3_standOn 44 = .ok (.iaload, 1) := by decide +kernel
theorem dX3_standOn_45 : decode cX3_standOn 45 = .ok (.ifCond .ge 15, 3) := by decide +kernel
theorem dX3_standOn_48 : decode cX3_standOn 48 = .ok (.aload_n 0, 1) := by decide +kernel
theorem dX3_standOn_49 : decode cX3_standOn 49 = .ok (.dup, 1) := by decide +kernel
theorem dX3_standOn_50 : decode cX3_standOn 50 = .ok (.getfield 27, 3) := by decide +kernel
theorem dX3_standOn_53 : decode cX3_standOn 53 = .ok (.iconst 1, 1) := by decide +kernel
theorem dX3_standOn_54 : decode cX3_standOn 54 = .ok (.iload_n 3, 1) := by decide +kernel
theorem dX3_standOn_55 : decode cX3_standOn 55 = .ok (.ishl, 1) := by decide +kernel
theorem dX3_standOn_56 : decode cX3_standOn 56 = .ok (.ior, 1) := by decide +kernel
theorem dX3_standOn_57 : decode cX3_standOn 57 = .ok (.putfield 27, 3) := by decide +kernel
theorem dX3_standOn_60 : decode cX3_standOn 60 = .ok (.iinc 3 1, 3) := by decide +kernel
theorem dX3_standOn_63 : decode cX3_standOn 63 = .ok (.goto (-51), 3) := by decide +kernel
theorem dX3_standOn_66 : decode cX3_standOn 66 = .ok (.return_, 1) := by decide +kernel
theorem dX3_reason_0 : decode cX3_reason 0 = .ok (.iload_n 1, 1) := by decide +kernel
theorem dX3_reason_1 : decode cX3_reason 1 = .ok (.aload_n 0, 1) := by decide +kernel
theorem dX3_reason_2 : decode cX3_reason 2 = .ok (.getfield 27, 3) := by decide +kernel
theorem dX3_reason_5 : decode cX3_reason 5 = .ok (.iand, 1) := by decide +kernel
theorem dX3_reason_6 : decode cX3_reason 6 = .ok (.ifCond .eq 5, 3) := by decide +kernel
theorem dX3_reason_9 : decode cX3_reason 9 = .ok (.iconst 1, 1) := by decide +kernel
theorem dX3_reason_10 : decode cX3_reason 10 = .ok (.ireturn, 1) := by decide +kernel
theorem dX3_reason_11 : decode cX3_reason 11 = .ok (.aload_n 0, 1) := by decide +kernel
theorem dX3_reason_12 : decode cX3_reason 12 = .ok (.iload_n 1, 1) := by decide +kernel
theorem dX3_reason_13 : decode cX3_reason 13 = .ok (.iload_n 2, 1) := by decide +kernel
theorem dX3_reason_14 : decode cX3_reason 14 = .ok (.invokevirtual 38, 3) := by decide +kernel
theorem dX3_reason_17 : decode cX3_reason 17 = .ok (.istore_n 3, 1) := by decide +kernel
theorem dX3_reason_18 : decode cX3_reason 18 = .ok (.iload_n 3, 1) := by decide +kernel
theorem dX3_reason_19 : decode cX3_reason 19 = .ok (.ifCond .eq 5, 3) := by decide +kernel
theorem dX3_reason_22 : decode cX3_reason 22 = .ok (.iload_n 3, 1) := by decide +kernel
theorem dX3_reason_23 : decode cX3_reason 23 = .ok (.ireturn, 1) := by decide +kernel
theorem dX3_reason_24 : decode cX3_reason 24 = .ok (.aload_n 0, 1) := by decide +kernel
theorem dX3_reason_25 : decode cX3_reason 25 = .ok (.iload_n 1, 1) := by decide +kernel
theorem dX3_reason_26 : decode cX3_reason 26 = .ok (.aload_n 0, 1) := by decide +kernel
theorem dX3_reason_27 : decode cX3_reason 27 = .ok (.getfield 17, 3) := by decide +kernel
theorem dX3_reason_30 : decode cX3_reason 30 = .ok (.getfield 42, 3) := by decide +kernel
theorem dX3_reason_33 : decode cX3_reason 33 = .ok (.iload_n 2, 1) := by decide +kernel
theorem dX3_reason_34 : decode cX3_reason 34 = .ok (.iaload, 1) := by decide +kernel
theorem dX3_reason_35 : decode cX3_reason 35 = .ok (.invokevirtual 45, 3) := by decide +kernel
theorem dX3_reason_38 : decode cX3_reason 38 = .ok (.ifCond .eq 7, 3) := by decide +kernel
theorem dX3_reason_41 : decode cX3_reason 41 = .ok (.iconst 0, 1) := by decide +kernel
theorem dX3_reason_42 : decode cX3_reason 42 = .ok (.goto 4, 3) := by decide +kernel
theorem dX3_reason_45 : decode cX3_reason 45 = .ok (.iconst 5, 1) := by decide +kernel
theorem dX3_reason_46 : decode cX3_reason 46 = .ok (.ireturn, 1) := by decide +kernel
theorem dX3_lastingReason_0 : decode cX3_lastingReason 0 = .ok (.iload_n 1, 1) := by decide +kernel
theorem dX3_lastingReason_1 : decode cX3_lastingReason 1 = .ok (.invokestatic 49, 3) := by decide +kernel
theorem dX3_lastingReason_4 : decode cX3_lastingReason 4 = .ok (.aload_n 0, 1) := by decide +kernel
theorem dX3_lastingReason_5 : decode cX3_lastingReason 5 = .ok (.getfield 17, 3) := by decide +kernel
theorem dX3_lastingReason_8 : decode cX3_lastingReason 8 = .ok (.getfield 54, 3) := by decide +kernel
theorem dX3_lastingReason_11 : decode cX3_lastingReason 11 = .ok (.iload_n 2, 1) := by decide +kernel
theorem dX3_lastingReason_12 : decode cX3_lastingReason 12 = .ok (.iaload, 1) := by decide +kernel
theorem dX3_lastingReason_13 : decode cX3_lastingReason 13 = .ok (.if_icmp .le 5, 3) := by decide +kernel
theorem dX3_lastingReason_16 : decode cX3_lastingReason 16 = .ok (.iconst 2, 1) := by decide +kernel
theorem dX3_lastingReason_17 : decode cX3_lastingReason 17 = .ok (.ireturn, 1) := by decide +kernel
theorem dX3_lastingReason_18 : decode cX3_lastingReason 18 = .ok (.iconst 0, 1) := by decide +kernel
theorem dX3_lastingReason_19 : decode cX3_lastingReason 19 = .ok (.istore_n 3, 1) := by decide +kernel
theorem dX3_lastingReason_20 : decode cX3_lastingReason 20 = .ok (.iconst 0, 1) := by decide +kernel
theorem dX3_lastingReason_21 : decode cX3_lastingReason 21 = .ok (.istore 4, 2) := by decide +kernel
theorem dX3_lastingReason_23 : decode cX3_lastingReason 23 = .ok (.iconst 0, 1) := by decide +kernel
theorem dX3_lastingReason_24 : decode cX3_lastingReason 24 = .ok (.istore 5, 2) := by decide +kernel
theorem dX3_lastingReason_26 : decode cX3_lastingReason 26 = .ok (.iload 5, 2) := by decide +kernel
theorem dX3_lastingReason_28 : decode cX3_lastingReason 28 = .ok (.aload_n 0, 1) := by decide +kernel
theorem dX3_lastingReason_29 : decode cX3_lastingReason 29 = .ok (.getfield 17, 3) := by decide +kernel
theorem dX3_lastingReason_32 : decode cX3_lastingReason 32 = .ok (.getfield 31, 3) := by decide +kernel
theorem dX3_lastingReason_35 : decode cX3_lastingReason 35 = .ok (.if_icmp .ge 46, 3) := by decide +kernel
theorem dX3_lastingReason_38 : decode cX3_lastingReason 38 = .ok (.iload_n 1, 1) := by decide +kernel
theorem dX3_lastingReason_39 : decode cX3_lastingReason 39 = .ok (.iload 5, 2) := by decide +kernel
theorem dX3_lastingReason_41 : decode cX3_lastingReason 41 = .ok (.ishr, 1) := by decide +kernel
theorem dX3_lastingReason_42 : decode cX3_lastingReason 42 = .ok (.iconst 1, 1) := by decide +kernel
theorem dX3_lastingReason_43 : decode cX3_lastingReason 43 = .ok (.iand, 1) := by decide +kernel
theorem dX3_lastingReason_44 : decode cX3_lastingReason 44 = .ok (.ifCond .eq 31, 3) := by decide +kernel
theorem dX3_lastingReason_47 : decode cX3_lastingReason 47 = .ok (.iload_n 3, 1) := by decide +kernel
theorem dX3_lastingReason_48 : decode cX3_lastingReason 48 = .ok (.aload_n 0, 1) := by decide +kernel
theorem dX3_lastingReason_49 : decode cX3_lastingReason 49 = .ok (.getfield 17, 3) := by decide +kernel
theorem dX3_lastingReason_52 : decode cX3_lastingReason 52 = .ok (.getfield 57, 3) := by decide +kernel
theorem dX3_lastingReason_55 : decode cX3_lastingReason 55 = .ok (.iload 5, 2) := by decide +kernel
theorem dX3_lastingReason_57 : decode cX3_lastingReason 57 = .ok (.iaload, 1) := by decide +kernel
theorem dX3_lastingReason_58 : decode cX3_lastingReason 58 = .ok (.ior, 1) := by decide +kernel
theorem dX3_lastingReason_59 : decode cX3_lastingReason 59 = .ok (.istore_n 3, 1) := by decide +kernel
theorem dX3_lastingReason_60 : decode cX3_lastingReason 60 = .ok (.iload 4, 2) := by decide +kernel
theorem dX3_lastingReason_62 : decode cX3_lastingReason 62 = .ok (.aload_n 0, 1) := by decide +kernel
theorem dX3_lastingReason_63 : decode cX3_lastingReason 63 = .ok (.getfield 17, 3) := by decide +kernel
theorem dX3_lastingReason_66 : decode cX3_lastingReason 66 = .ok (.getfield 60, 3) := by decide +kernel
theorem dX3_lastingReason_69 : decode cX3_lastingReason 69 = .ok (.iload 5, 2) := by decide +kernel
theorem dX3_lastingReason_71 : decode cX3_lastingReason 71 = .ok (.iaload, 1) := by decide +kernel
theorem dX3_lastingReason_72 : decode cX3_lastingReason 72 = .ok (.ior, 1) := by decide +kernel
theorem dX3_lastingReason_73 : decode cX3_lastingReason 73 = .ok (.istore 4, 2) := by decide +kernel
theorem dX3_lastingReason_75 : decode cX3_lastingReason 75 = .ok (.iinc 5 1, 3) := by decide +kernel
theorem dX3_lastingReason_78 : decode cX3_lastingReason 78 = .ok (.goto (-52), 3) := by decide +kernel
theorem dX3_lastingReason_81 : decode cX3_lastingReason 81 = .ok (.iload_n 3, 1) := by decide +kernel
theorem dX3_lastingReason_82 : decode cX3_lastingReason 82 = .ok (.iload_n 1, 1) := by decide +kernel
theorem dX3_lastingReason_83 : decode cX3_lastingReason 83 = .ok (.iconst (-1), 1) := by decide +kernel
theorem dX3_lastingReason_84 : decode cX3_lastingReason 84 = .ok (.ixor, 1) := by decide +kernel
theorem dX3_lastingReason_85 : decode cX3_lastingReason 85 = .ok (.iand, 1) := by decide +kernel
theorem dX3_lastingReason_86 : decode cX3_lastingReason 86 = .ok (.ifCond .eq 5, 3) := by decide +kernel
theorem dX3_lastingReason_89 : decode cX3_lastingReason 89 = .ok (.iconst 3, 1) := by decide +kernel
theorem dX3_lastingReason_90 : decode cX3_lastingReason 90 = .ok (.ireturn, 1) := by decide +kernel
theorem dX3_lastingReason_91 : decode cX3_lastingReason 91 = .ok (.iload 4, 2) := by decide +kernel
theorem dX3_lastingReason_93 : decode cX3_lastingReason 93 = .ok (.iload_n 1, 1) := by decide +kernel
theorem dX3_lastingReason_94 : decode cX3_lastingReason 94 = .ok (.iand, 1) := by decide +kernel
theorem dX3_lastingReason_95 : decode cX3_lastingReason 95 = .ok (.ifCond .eq 7, 3) := by decide +kernel
theorem dX3_lastingReason_98 : decode cX3_lastingReason 98 = .ok (.iconst 4, 1) := by decide +kernel
theorem dX3_lastingReason_99 : decode cX3_lastingReason 99 = .ok (.goto 4, 3) := by decide +kernel
theorem dX3_lastingReason_102 : decode cX3_lastingReason 102 = .ok (.iconst 0, 1) := by decide +kernel
theorem dX3_lastingReason_103 : decode cX3_lastingReason 103 = .ok (.ireturn, 1) := by decide +kernel
theorem dX3_isLawful_0 : decode cX3_isLawful 0 = .ok (.iload_n 2, 1) := by decide +kernel
theorem dX3_isLawful_1 : decode cX3_isLawful 1 = .ok (.tableswitch 80 0 3 #[31, 48, 65, 74], 31) := by decide +kernel
theorem dX3_isLawful_32 : decode cX3_isLawful 32 = .ok (.aload_n 0, 1) := by decide +kernel
theorem dX3_isLawful_33 : decode cX3_isLawful 33 = .ok (.iload_n 1, 1) := by decide +kernel
theorem dX3_isLawful_34 : decode cX3_isLawful 34 = .ok (.invokevirtual 63, 3) := by decide +kernel
theorem dX3_isLawful_37 : decode cX3_isLawful 37 = .ok (.bipush 10, 2) := by decide +kernel
theorem dX3_isLawful_39 : decode cX3_isLawful 39 = .ok (.irem, 1) := by decide +kernel
theorem dX3_isLawful_40 : decode cX3_isLawful 40 = .ok (.ifCond .ne 7, 3) := by decide +kernel
theorem dX3_isLawful_43 : decode cX3_isLawful 43 = .ok (.iconst 1, 1) := by decide +kernel
theorem dX3_isLawful_44 : decode cX3_isLawful 44 = .ok (.goto 4, 3) := by decide +kernel
theorem dX3_isLawful_47 : decode cX3_isLawful 47 = .ok (.iconst 0, 1) := by decide +kernel
theorem dX3_isLawful_48 : decode cX3_isLawful 48 = .ok (.ireturn, 1) := by decide +kernel
theorem dX3_isLawful_49 : decode cX3_isLawful 49 = .ok (.aload_n 0, 1) := by decide +kernel
theorem dX3_isLawful_50 : decode cX3_isLawful 50 = .ok (.iload_n 1, 1) := by decide +kernel
theorem dX3_isLawful_51 : decode cX3_isLawful 51 = .ok (.invokevirtual 63, 3) := by decide +kernel
theorem dX3_isLawful_54 : decode cX3_isLawful 54 = .ok (.bipush 7, 2) := by decide +kernel
theorem dX3_isLawful_56 : decode cX3_isLawful 56 = .ok (.irem, 1) := by decide +kernel
theorem dX3_isLawful_57 : decode cX3_isLawful 57 = .ok (.ifCond .ne 7, 3) := by decide +kernel
theorem dX3_isLawful_60 : decode cX3_isLawful 60 = .ok (.iconst 1, 1) := by decide +kernel
theorem dX3_isLawful_61 : decode cX3_isLawful 61 = .ok (.goto 4, 3) := by decide +kernel
theorem dX3_isLawful_64 : decode cX3_isLawful 64 = .ok (.iconst 0, 1) := by decide +kernel
theorem dX3_isLawful_65 : decode cX3_isLawful 65 = .ok (.ireturn, 1) := by decide +kernel
theorem dX3_isLawful_66 : decode cX3_isLawful 66 = .ok (.aload_n 0, 1) := by decide +kernel
theorem dX3_isLawful_67 : decode cX3_isLawful 67 = .ok (.iload_n 1, 1) := by decide +kernel
theorem dX3_isLawful_68 : decode cX3_isLawful 68 = .ok (.invokevirtual 63, 3) := by decide +kernel
theorem dX3_isLawful_71 : decode cX3_isLawful 71 = .ok (.invokestatic 66, 3) := by decide +kernel
theorem dX3_isLawful_74 : decode cX3_isLawful 74 = .ok (.ireturn, 1) := by decide +kernel
theorem dX3_isLawful_75 : decode cX3_isLawful 75 = .ok (.aload_n 0, 1) := by decide +kernel
theorem dX3_isLawful_76 : decode cX3_isLawful 76 = .ok (.iload_n 1, 1) := by decide +kernel
theorem dX3_isLawful_77 : decode cX3_isLawful 77 = .ok (.invokevirtual 70, 3) := by decide +kernel
theorem dX3_isLawful_80 : decode cX3_isLawful 80 = .ok (.ireturn, 1) := by decide +kernel
theorem dX3_isLawful_81 : decode cX3_isLawful 81 = .ok (.aload_n 0, 1) := by decide +kernel
theorem dX3_isLawful_82 : decode cX3_isLawful 82 = .ok (.iload_n 1, 1) := by decide +kernel
theorem dX3_isLawful_83 : decode cX3_isLawful 83 = .ok (.invokevirtual 63, 3) := by decide +kernel
theorem dX3_isLawful_86 : decode cX3_isLawful 86 = .ok (.bipush 10, 2) := by decide +kernel
theorem dX3_isLawful_88 : decode cX3_isLawful 88 = .ok (.irem, 1) := by decide +kernel
theorem dX3_isLawful_89 : decode cX3_isLawful 89 = .ok (.ifCond .ne 15, 3) := by decide +kernel
theorem dX3_isLawful_92 : decode cX3_isLawful 92 = .ok (.aload_n 0, 1) := by decide +kernel
theorem dX3_isLawful_93 : decode cX3_isLawful 93 = .ok (.iload_n 1, 1) := by decide +kernel
theorem dX3_isLawful_94 : decode cX3_isLawful 94 = .ok (.invokevirtual 70, 3) := by decide +kernel
theorem dX3_isLawful_97 : decode cX3_isLawful 97 = .ok (.ifCond .eq 7, 3) := by decide +kernel
theorem dX3_isLawful_100 : decode cX3_isLawful 100 = .ok (.iconst 1, 1) := by decide +kernel
theorem dX3_isLawful_101 : decode cX3_isLawful 101 = .ok (.goto 4, 3) := by decide +kernel
theorem dX3_isLawful_104 : decode cX3_isLawful 104 = .ok (.iconst 0, 1) := by decide +kernel
theorem dX3_isLawful_105 : decode cX3_isLawful 105 = .ok (.ireturn, 1) := by decide +kernel
theorem dX3_yearsTogether_0 : decode cX3_yearsTogether 0 = .ok (.iconst 0, 1) := by decide +kernel
theorem dX3_yearsTogether_1 : decode cX3_yearsTogether 1 = .ok (.istore_n 2, 1) := by decide +kernel
theorem dX3_yearsTogether_2 : decode cX3_yearsTogether 2 = .ok (.iconst 0, 1) := by decide +kernel
theorem dX3_yearsTogether_3 : decode cX3_yearsTogether 3 = .ok (.istore_n 3, 1) := by decide +kernel
theorem dX3_yearsTogether_4 : decode cX3_yearsTogether 4 = .ok (.iload_n 3, 1) := by decide +kernel
theorem dX3_yearsTogether_5 : decode cX3_yearsTogether 5 = .ok (.aload_n 0, 1) := by decide +kernel
theorem dX3_yearsTogether_6 : decode cX3_yearsTogether 6 = .ok (.getfield 17, 3) := by decide +kernel
theorem dX3_yearsTogether_9 : decode cX3_yearsTogether 9 = .ok (.getfield 31, 3) := by decide +kernel
theorem dX3_yearsTogether_12 : decode cX3_yearsTogether 12 = .ok (.if_icmp .ge 26, 3) := by decide +kernel
theorem dX3_yearsTogether_15 : decode cX3_yearsTogether 15 = .ok (.iload_n 1, 1) := by decide +kernel
theorem dX3_yearsTogether_16 : decode cX3_yearsTogether 16 = .ok (.iload_n 3, 1) := by decide +kernel
theorem dX3_yearsTogether_17 : decode cX3_yearsTogether 17 = .ok (.ishr, 1) := by decide +kernel
theorem dX3_yearsTogether_18 : decode cX3_yearsTogether 18 = .ok (.iconst 1, 1) := by decide +kernel
theorem dX3_yearsTogether_19 : decode cX3_yearsTogether 19 = .ok (.iand, 1) := by decide +kernel
theorem dX3_yearsTogether_20 : decode cX3_yearsTogether 20 = .ok (.ifCond .eq 12, 3) := by decide +kernel
theorem dX3_yearsTogether_23 : decode cX3_yearsTogether 23 = .ok (.iload_n 2, 1) := by decide +kernel
theorem dX3_yearsTogether_24 : decode cX3_yearsTogether 24 = .ok (.aload_n 0, 1) := by decide +kernel
theorem dX3_yearsTogether_25 : decode cX3_yearsTogether 25 = .ok (.getfield 11, 3) := by decide +kernel
theorem dX3_yearsTogether_28 : decode cX3_yearsTogether 28 = .ok (.iload_n 3, 1) := by decide +kernel
theorem dX3_yearsTogether_29 : decode cX3_yearsTogether 29 = .ok (.iaload, 1) := by decide +kernel
theorem dX3_yearsTogether_30 : decode cX3_yearsTogether 30 = .ok (.iadd, 1) := by decide +kernel
theorem dX3_yearsTogether_31 : decode cX3_yearsTogether 31 = .ok (.istore_n 2, 1) := by decide +kernel
theorem dX3_yearsTogether_32 : decode cX3_yearsTogether 32 = .ok (.iinc 3 1, 3) := by decide +kernel
theorem dX3_yearsTogether_35 : decode cX3_yearsTogether 35 = .ok (.goto (-31), 3) := by decide +kernel
theorem dX3_yearsTogether_38 : decode cX3_yearsTogether 38 = .ok (.iload_n 2, 1) := by decide +kernel
theorem dX3_yearsTogether_39 : decode cX3_yearsTogether 39 = .ok (.ireturn, 1) := by decide +kernel
theorem dX3_isSquare_0 : decode cX3_isSquare 0 = .ok (.iconst 0, 1) := by decide +kernel
theorem dX3_isSquare_1 : decode cX3_isSquare 1 = .ok (.istore_n 1, 1) := by decide +kernel
theorem dX3_isSquare_2 : decode cX3_isSquare 2 = .ok (.iload_n 1, 1) := by decide +kernel
theorem dX3_isSquare_3 : decode cX3_isSquare 3 = .ok (.bipush 57, 2) := by decide +kernel
theorem dX3_isSquare_5 : decode cX3_isSquare 5 = .ok (.if_icmp .gt 18, 3) := by decide +kernel
theorem dX3_isSquare_8 : decode cX3_isSquare 8 = .ok (.iload_n 1, 1) := by decide +kernel
theorem dX3_isSquare_9 : decode cX3_isSquare 9 = .ok (.iload_n 1, 1) := by decide +kernel
theorem dX3_isSquare_10 : decode cX3_isSquare 10 = .ok (.imul, 1) := by decide +kernel
theorem dX3_isSquare_11 : decode cX3_isSquare 11 = .ok (.iload_n 0, 1) := by decide +kernel
theorem dX3_isSquare_12 : decode cX3_isSquare 12 = .ok (.if_icmp .ne 5, 3) := by decide +kernel
theorem dX3_isSquare_15 : decode cX3_isSquare 15 = .ok (.iconst 1, 1) := by decide +kernel
theorem dX3_isSquare_16 : decode cX3_isSquare 16 = .ok (.ireturn, 1) := by decide +kernel
theorem dX3_isSquare_17 : decode cX3_isSquare 17 = .ok (.iinc 1 1, 3) := by decide +kernel
theorem dX3_isSquare_20 : decode cX3_isSquare 20 = .ok (.goto (-18), 3) := by decide +kernel
theorem dX3_isSquare_23 : decode cX3_isSquare 23 = .ok (.iconst 0, 1) := by decide +kernel
theorem dX3_isSquare_24 : decode cX3_isSquare 24 = .ok (.ireturn, 1) := by decide +kernel
theorem dX3_isUnlike_0 : decode cX3_isUnlike 0 = .ok (.iconst 1, 1) := by decide +kernel
theorem dX3_isUnlike_1 : decode cX3_isUnlike 1 = .ok (.istore_n 2, 1) := by decide +kernel
theorem dX3_isUnlike_2 : decode cX3_isUnlike 2 = .ok (.iload_n 2, 1) := by decide +kernel
theorem dX3_isUnlike_3 : decode cX3_isUnlike 3 = .ok (.aload_n 0, 1) := by decide +kernel
theorem dX3_isUnlike_4 : decode cX3_isUnlike 4 = .ok (.getfield 17, 3) := by decide +kernel
theorem dX3_isUnlike_7 : decode cX3_isUnlike 7 = .ok (.getfield 31, 3) := by decide +kernel
theorem dX3_isUnlike_10 : decode cX3_isUnlike 10 = .ok (.if_icmp .ge 51, 3) := by decide +kernel
theorem dX3_isUnlike_13 : decode cX3_isUnlike 13 = .ok (.iconst 0, 1) := by decide +kernel
theorem dX3_isUnlike_14 : decode cX3_isUnlike 14 = .ok (.istore_n 3, 1) := by decide +kernel
theorem dX3_isUnlike_15 : decode cX3_isUnlike 15 = .ok (.iload_n 3, 1) := by decide +kernel
theorem dX3_isUnlike_16 : decode cX3_isUnlike 16 = .ok (.iload_n 2, 1) := by decide +kernel
theorem dX3_isUnlike_17 : decode cX3_isUnlike 17 = .ok (.if_icmp .ge 38, 3) := by decide +kernel
theorem dX3_isUnlike_20 : decode cX3_isUnlike 20 = .ok (.iload_n 1, 1) := by decide +kernel
theorem dX3_isUnlike_21 : decode cX3_isUnlike 21 = .ok (.iload_n 2, 1) := by decide +kernel
theorem dX3_isUnlike_22 : decode cX3_isUnlike 22 = .ok (.ishr, 1) := by decide +kernel
theorem dX3_isUnlike_23 : decode cX3_isUnlike 23 = .ok (.iload_n 1, 1) := by decide +kernel
theorem dX3_isUnlike_24 : decode cX3_isUnlike 24 = .ok (.iload_n 3, 1) := by decide +kernel
theorem dX3_isUnlike_25 : decode cX3_isUnlike 25 = .ok (.ishr, 1) := by decide +kernel
theorem dX3_isUnlike_26 : decode cX3_isUnlike 26 = .ok (.iand, 1) := by decide +kernel
theorem dX3_isUnlike_27 : decode cX3_isUnlike 27 = .ok (.iconst 1, 1) := by decide +kernel
theorem dX3_isUnlike_28 : decode cX3_isUnlike 28 = .ok (.iand, 1) := by decide +kernel
theorem dX3_isUnlike_29 : decode cX3_isUnlike 29 = .ok (.ifCond .eq 20, 3) := by decide +kernel
theorem dX3_isUnlike_32 : decode cX3_isUnlike 32 = .ok (.aload_n 0, 1) := by decide +kernel
theorem dX3_isUnlike_33 : decode cX3_isUnlike 33 = .ok (.getfield 11, 3) := by decide +kernel
theorem dX3_isUnlike_36 : decode cX3_isUnlike 36 = .ok (.iload_n 2, 1) := by decide +kernel
theorem dX3_isUnlike_37 : decode cX3_isUnlike 37 = .ok (.iaload, 1) := by decide +kernel
theorem dX3_isUnlike_38 : decode cX3_isUnlike 38 = .ok (.aload_n 0, 1) := by decide +kernel
theorem dX3_isUnlike_39 : decode cX3_isUnlike 39 = .ok (.getfield 11, 3) := by decide +kernel
theorem dX3_isUnlike_42 : decode cX3_isUnlike 42 = .ok (.iload_n 3, 1) := by decide +kernel
theorem dX3_isUnlike_43 : decode cX3_isUnlike 43 = .ok (.iaload, 1) := by decide +kernel
theorem dX3_isUnlike_44 : decode cX3_isUnlike 44 = .ok (.if_icmp .ne 5, 3) := by decide +kernel
theorem dX3_isUnlike_47 : decode cX3_isUnlike 47 = .ok (.iconst 0, 1) := by decide +kernel
theorem dX3_isUnlike_48 : decode cX3_isUnlike 48 = .ok (.ireturn, 1) := by decide +kernel
theorem dX3_isUnlike_49 : decode cX3_isUnlike 49 = .ok (.iinc 3 1, 3) := by decide +kernel
theorem dX3_isUnlike_52 : decode cX3_isUnlike 52 = .ok (.goto (-37), 3) := by decide +kernel
theorem dX3_isUnlike_55 : decode cX3_isUnlike 55 = .ok (.iinc 2 1, 3) := by decide +kernel
theorem dX3_isUnlike_58 : decode cX3_isUnlike 58 = .ok (.goto (-56), 3) := by decide +kernel
theorem dX3_isUnlike_61 : decode cX3_isUnlike 61 = .ok (.iconst 1, 1) := by decide +kernel
theorem dX3_isUnlike_62 : decode cX3_isUnlike 62 = .ok (.ireturn, 1) := by decide +kernel
theorem dX3_changeBehind_0 : decode cX3_changeBehind 0 = .ok (.iload_n 2, 1) := by decide +kernel
theorem dX3_changeBehind_1 : decode cX3_changeBehind 1 = .ok (.invokestatic 21, 3) := by decide +kernel
theorem dX3_changeBehind_4 : decode cX3_changeBehind 4 = .ok (.istore_n 3, 1) := by decide +kernel
theorem dX3_changeBehind_5 : decode cX3_changeBehind 5 = .ok (.ldc 73, 2) := by decide +kernel
theorem dX3_changeBehind_7 : decode cX3_changeBehind 7 = .ok (.istore 4, 2) := by decide +kernel
theorem dX3_changeBehind_9 : decode cX3_changeBehind 9 = .ok (.iconst 0, 1) := by decide +kernel
theorem dX3_changeBehind_10 : decode cX3_changeBehind 10 = .ok (.istore 5, 2) := by decide +kernel
theorem dX3_changeBehind_12 : decode cX3_changeBehind 12 = .ok (.iload 5, 2) := by decide +kernel
theorem dX3_changeBehind_14 : decode cX3_changeBehind 14 = .ok (.aload_n 0, 1) := by decide +kernel
theorem dX3_changeBehind_15 : decode cX3_changeBehind 15 = .ok (.getfield 17, 3) := by decide +kernel
theorem dX3_changeBehind_18 : decode cX3_changeBehind 18 = .ok (.getfield 31, 3) := by decide +kernel
theorem dX3_changeBehind_21 : decode cX3_changeBehind 21 = .ok (.if_icmp .ge 36, 3) := by decide +kernel
theorem dX3_changeBehind_24 : decode cX3_changeBehind 24 = .ok (.iload_n 1, 1) := by decide +kernel
theorem dX3_changeBehind_25 : decode cX3_changeBehind 25 = .ok (.iload 5, 2) := by decide +kernel
theorem dX3_changeBehind_27 : decode cX3_changeBehind 27 = .ok (.ishr, 1) := by decide +kernel
theorem dX3_changeBehind_28 : decode cX3_changeBehind 28 = .ok (.iconst 1, 1) := by decide +kernel
theorem dX3_changeBehind_29 : decode cX3_changeBehind 29 = .ok (.iand, 1) := by decide +kernel
theorem dX3_changeBehind_30 : decode cX3_changeBehind 30 = .ok (.ifCond .eq 21, 3) := by decide +kernel
theorem dX3_changeBehind_33 : decode cX3_changeBehind 33 = .ok (.iload 4, 2) := by decide +kernel
theorem dX3_changeBehind_35 : decode cX3_changeBehind 35 = .ok (.aload_n 0, 1) := by decide +kernel
theorem dX3_changeBehind_36 : decode cX3_changeBehind 36 = .ok (.getfield 17, 3) := by decide +kernel
theorem dX3_changeBehind_39 : decode cX3_changeBehind 39 = .ok (.iload 5, 2) := by decide +kernel
theorem dX3_changeBehind_41 : decode cX3_changeBehind 41 = .ok (.iload_n 2, 1) := by decide +kernel
theorem dX3_changeBehind_42 : decode cX3_changeBehind 42 = .ok (.iload_n 3, 1) := by decide +kernel
theorem dX3_changeBehind_43 : decode cX3_changeBehind 43 = .ok (.invokevirtual 74, 3) := by decide +kernel
theorem dX3_changeBehind_46 : decode cX3_changeBehind 46 = .ok (.invokestatic 77, 3) := by decide +kernel
theorem dX3_changeBehind_49 : decode cX3_changeBehind 49 = .ok (.istore 4, 2) := by decide +kernel
theorem dX3_changeBehind_51 : decode cX3_changeBehind 51 = .ok (.iinc 5 1, 3) := by decide +kernel
theorem dX3_changeBehind_54 : decode cX3_changeBehind 54 = .ok (.goto (-42), 3) := by decide +kernel
theorem dX3_changeBehind_57 : decode cX3_changeBehind 57 = .ok (.iload 4, 2) := by decide +kernel
theorem dX3_changeBehind_59 : decode cX3_changeBehind 59 = .ok (.ireturn, 1) := by decide +kernel
theorem dX3_firstDay_0 : decode cX3_firstDay 0 = .ok (.aload_n 0, 1) := by decide +kernel
theorem dX3_firstDay_1 : decode cX3_firstDay 1 = .ok (.iload_n 1, 1) := by decide +kernel
theorem dX3_firstDay_2 : decode cX3_firstDay 2 = .ok (.iload_n 2, 1) := by decide +kernel
theorem dX3_firstDay_3 : decode cX3_firstDay 3 = .ok (.invokevirtual 38, 3) := by decide +kernel
theorem dX3_firstDay_6 : decode cX3_firstDay 6 = .ok (.ifCond .eq 5, 3) := by decide +kernel
theorem dX3_firstDay_9 : decode cX3_firstDay 9 = .ok (.iconst (-1), 1) := by decide +kernel
theorem dX3_firstDay_10 : decode cX3_firstDay 10 = .ok (.ireturn, 1) := by decide +kernel
theorem dX3_firstDay_11 : decode cX3_firstDay 11 = .ok (.iload_n 3, 1) := by decide +kernel
theorem dX3_firstDay_12 : decode cX3_firstDay 12 = .ok (.istore 4, 2) := by decide +kernel
theorem dX3_firstDay_14 : decode cX3_firstDay 14 = .ok (.iconst 0, 1) := by decide +kernel
theorem dX3_firstDay_15 : decode cX3_firstDay 15 = .ok (.istore 5, 2) := by decide +kernel
theorem dX3_firstDay_17 : decode cX3_firstDay 17 = .ok (.iload 5, 2) := by decide +kernel
theorem dX3_firstDay_19 : decode cX3_firstDay 19 = .ok (.ldc 82, 2) := by decide +kernel
theorem dX3_firstDay_21 : decode cX3_firstDay 21 = .ok (.if_icmp .gt 43, 3) := by decide +kernel
theorem dX3_firstDay_24 : decode cX3_firstDay 24 = .ok (.iload 4, 2) := by decide +kernel
theorem dX3_firstDay_26 : decode cX3_firstDay 26 = .ok (.ldc 82, 2) := by decide +kernel
theorem dX3_firstDay_28 : decode cX3_firstDay 28 = .ok (.if_icmp .gt 36, 3) := by decide +kernel
theorem dX3_firstDay_31 : decode cX3_firstDay 31 = .ok (.aload_n 0, 1) := by decide +kernel
theorem dX3_firstDay_32 : decode cX3_firstDay 32 = .ok (.iload 4, 2) := by decide +kernel
theorem dX3_firstDay_34 : decode cX3_firstDay 34 = .ok (.invokevirtual 83, 3) := by decide +kernel
theorem dX3_firstDay_37 : decode cX3_firstDay 37 = .ok (.aload_n 0, 1) := by decide +kernel
theorem dX3_firstDay_38 : decode cX3_firstDay 38 = .ok (.iload_n 1, 1) := by decide +kernel
theorem dX3_firstDay_39 : decode cX3_firstDay 39 = .ok (.iload_n 2, 1) := by decide +kernel
theorem dX3_firstDay_40 : decode cX3_firstDay 40 = .ok (.invokevirtual 87, 3) := by decide +kernel
theorem dX3_firstDay_43 : decode cX3_firstDay 43 = .ok (.ifCond .ne 6, 3) := by decide +kernel
theorem dX3_firstDay_46 : decode cX3_firstDay 46 = .ok (.iload 4, 2) := by decide +kernel
theorem dX3_firstDay_48 : decode cX3_firstDay 48 = .ok (.ireturn, 1) := by decide +kernel
theorem dX3_firstDay_49 : decode cX3_firstDay 49 = .ok (.aload_n 0, 1) := by decide +kernel
theorem dX3_firstDay_50 : decode cX3_firstDay 50 = .ok (.iload_n 1, 1) := by decide +kernel
theorem dX3_firstDay_51 : decode cX3_firstDay 51 = .ok (.iload 4, 2) := by decide +kernel
theorem dX3_firstDay_53 : decode cX3_firstDay 53 = .ok (.invokevirtual 90, 3) := by decide +kernel
theorem dX3_firstDay_56 : decode cX3_firstDay 56 = .ok (.istore 4, 2) := by decide +kernel
theorem dX3_firstDay_58 : decode cX3_firstDay 58 = .ok (.iinc 5 1, 3) := by decide +kernel
theorem dX3_firstDay_61 : decode cX3_firstDay 61 = .ok (.goto (-44), 3) := by decide +kernel
theorem dX3_firstDay_64 : decode cX3_firstDay 64 = .ok (.iconst (-1), 1) := by decide +kernel
theorem dX3_firstDay_65 : decode cX3_firstDay 65 = .ok (.ireturn, 1) := by decide +kernel
theorem dX3_daysOfYear_0 : decode cX3_daysOfYear 0 = .ok (.iload_n 3, 1) := by decide +kernel
theorem dX3_daysOfYear_1 : decode cX3_daysOfYear 1 = .ok (.iconst 1, 1) := by decide +kernel
theorem dX3_daysOfYear_2 : decode cX3_daysOfYear 2 = .ok (.iadd, 1) := by decide +kernel
theorem dX3_daysOfYear_3 : decode cX3_daysOfYear 3 = .ok (.invokestatic 93, 3) := by decide +kernel
theorem dX3_daysOfYear_6 : decode cX3_daysOfYear 6 = .ok (.istore 4, 2) := by decide +kernel
theorem dX3_daysOfYear_8 : decode cX3_daysOfYear 8 = .ok (.iload_n 3, 1) := by decide +kernel
theorem dX3_daysOfYear_9 : decode cX3_daysOfYear 9 = .ok (.invokestatic 93, 3) := by decide +kernel
theorem dX3_daysOfYear_12 : decode cX3_daysOfYear 12 = .ok (.istore 5, 2) := by decide +kernel
theorem dX3_daysOfYear_14 : decode cX3_daysOfYear 14 = .ok (.iconst 0, 1) := by decide +kernel
theorem dX3_daysOfYear_15 : decode cX3_daysOfYear 15 = .ok (.istore 6, 2) := by decide +kernel
theorem dX3_daysOfYear_17 : decode cX3_daysOfYear 17 = .ok (.iconst 0, 1) := by decide +kernel
theorem dX3_daysOfYear_18 : decode cX3_daysOfYear 18 = .ok (.istore 7, 2) := by decide +kernel
theorem dX3_daysOfYear_20 : decode cX3_daysOfYear 20 = .ok (.iload 7, 2) := by decide +kernel
theorem dX3_daysOfYear_22 : decode cX3_daysOfYear 22 = .ok (.sipush 366, 3) := by decide +kernel
theorem dX3_daysOfYear_25 : decode cX3_daysOfYear 25 = .ok (.if_icmp .ge 59, 3) := by decide +kernel
theorem dX3_daysOfYear_28 : decode cX3_daysOfYear 28 = .ok (.iload 5, 2) := by decide +kernel
theorem dX3_daysOfYear_30 : decode cX3_daysOfYear 30 = .ok (.iload 4, 2) := by decide +kernel
theorem dX3_daysOfYear_32 : decode cX3_daysOfYear 32 = .ok (.if_icmp .ge 52, 3) := by decide +kernel
theorem dX3_daysOfYear_35 : decode cX3_daysOfYear 35 = .ok (.aload_n 0, 1) := by decide +kernel
theorem dX3_daysOfYear_36 : decode cX3_daysOfYear 36 = .ok (.iload_n 1, 1) := by decide +kernel
theorem dX3_daysOfYear_37 : decode cX3_daysOfYear 37 = .ok (.iload 5, 2) := by decide +kernel
theorem dX3_daysOfYear_39 : decode cX3_daysOfYear 39 = .ok (.invokevirtual 90, 3) := by decide +kernel
theorem dX3_daysOfYear_42 : decode cX3_daysOfYear 42 = .ok (.iload 4, 2) := by decide +kernel
theorem dX3_daysOfYear_44 : decode cX3_daysOfYear 44 = .ok (.invokestatic 77, 3) := by decide +kernel
