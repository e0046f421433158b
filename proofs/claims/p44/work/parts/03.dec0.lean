theorem dX0_init_0 : decode cX0_init 0 = .ok (.aload_n 0, 1) := by decide +kernel
theorem dX0_init_1 : decode cX0_init 1 = .ok (.invokespecial 5, 3) := by decide +kernel
theorem dX0_init_4 : decode cX0_init 4 = .ok (.aload_n 0, 1) := by decide +kernel
theorem dX0_init_5 : decode cX0_init 5 = .ok (.iconst 0, 1) := by decide +kernel
theorem dX0_init_6 : decode cX0_init 6 = .ok (.putfield 11, 3) := by decide +kernel
theorem dX0_init_9 : decode cX0_init 9 = .ok (.aload_n 0, 1) := by decide +kernel
theorem dX0_init_10 : decode cX0_init 10 = .ok (.bipush 84, 2) := by decide +kernel
theorem dX0_init_12 : decode cX0_init 12 = .ok (.newarray .int, 2) := by decide +kernel
theorem dX0_init_14 : decode cX0_init 14 = .ok (.putfield 15, 3) := by decide +kernel
theorem dX0_init_17 : decode cX0_init 17 = .ok (.aload_n 0, 1) := by decide +kernel
theorem dX0_init_18 : decode cX0_init 18 = .ok (.getfield 15, 3) := by decide +kernel
theorem dX0_init_21 : decode cX0_init 21 = .ok (.bipush 16, 2) := by decide +kernel
theorem dX0_init_23 : decode cX0_init 23 = .ok (.iconst 1, 1) := by decide +kernel
theorem dX0_init_24 : decode cX0_init 24 = .ok (.iastore, 1) := by decide +kernel
theorem dX0_init_25 : decode cX0_init 25 = .ok (.aload_n 0, 1) := by decide +kernel
theorem dX0_init_26 : decode cX0_init 26 = .ok (.getfield 15, 3) := by decide +kernel
theorem dX0_init_29 : decode cX0_init 29 = .ok (.bipush 18, 2) := by decide +kernel
theorem dX0_init_31 : decode cX0_init 31 = .ok (.bipush 6, 2) := by decide +kernel
theorem dX0_init_33 : decode cX0_init 33 = .ok (.iastore, 1) := by decide +kernel
theorem dX0_init_34 : decode cX0_init 34 = .ok (.return_, 1) := by decide +kernel
theorem dX0_mayCome_0 : decode cX0_mayCome 0 = .ok (.iload_n 0, 1) := by decide +kernel
theorem dX0_mayCome_1 : decode cX0_mayCome 1 = .ok (.ifCond .lt 23, 3) := by decide +kernel
theorem dX0_mayCome_4 : decode cX0_mayCome 4 = .ok (.iload_n 0, 1) := by decide +kernel
theorem dX0_mayCome_5 : decode cX0_mayCome 5 = .ok (.bipush 99, 2) := by decide +kernel
theorem dX0_mayCome_7 : decode cX0_mayCome 7 = .ok (.if_icmp .gt 17, 3) := by decide +kernel
theorem dX0_mayCome_10 : decode cX0_mayCome 10 = .ok (.iload_n 1, 1) := by decide +kernel
theorem dX0_mayCome_11 : decode cX0_mayCome 11 = .ok (.ifCond .lt 13, 3) := by decide +kernel
theorem dX0_mayCome_14 : decode cX0_mayCome 14 = .ok (.iload_n 1, 1) := by decide +kernel
theorem dX0_mayCome_15 : decode cX0_mayCome 15 = .ok (.bipush 9, 2) := by decide +kernel
theorem dX0_mayCome_17 : decode cX0_mayCome 17 = .ok (.if_icmp .gt 7, 3) := by decide +kernel
theorem dX0_mayCome_20 : decode cX0_mayCome 20 = .ok (.iconst 1, 1) := by decide +kernel
theorem dX0_mayCome_21 : decode cX0_mayCome 21 = .ok (.goto 4, 3) := by decide +kernel
theorem dX0_mayCome_24 : decode cX0_mayCome 24 = .ok (.iconst 0, 1) := by decide +kernel
theorem dX0_mayCome_25 : decode cX0_mayCome 25 = .ok (.ireturn, 1) := by decide +kernel
theorem dX0_isFeeling_0 : decode cX0_isFeeling 0 = .ok (.iload_n 0, 1) := by decide +kernel
theorem dX0_isFeeling_1 : decode cX0_isFeeling 1 = .ok (.bipush (-9), 2) := by decide +kernel
theorem dX0_isFeeling_3 : decode cX0_isFeeling 3 = .ok (.if_icmp .lt 13, 3) := by decide +kernel
theorem dX0_isFeeling_6 : decode cX0_isFeeling 6 = .ok (.iload_n 0, 1) := by decide +kernel
theorem dX0_isFeeling_7 : decode cX0_isFeeling 7 = .ok (.bipush 9, 2) := by decide +kernel
theorem dX0_isFeeling_9 : decode cX0_isFeeling 9 = .ok (.if_icmp .gt 7, 3) := by decide +kernel
theorem dX0_isFeeling_12 : decode cX0_isFeeling 12 = .ok (.iconst 1, 1) := by decide +kernel
theorem dX0_isFeeling_13 : decode cX0_isFeeling 13 = .ok (.goto 4, 3) := by decide +kernel
theorem dX0_isFeeling_16 : decode cX0_isFeeling 16 = .ok (.iconst 0, 1) := by decide +kernel
theorem dX0_isFeeling_17 : decode cX0_isFeeling 17 = .ok (.ireturn, 1) := by decide +kernel
theorem dX0_mostOf_0 : decode cX0_mostOf 0 = .ok (.iload_n 0, 1) := by decide +kernel
theorem dX0_mostOf_1 : decode cX0_mostOf 1 = .ok (.ifCond .lt 19, 3) := by decide +kernel
theorem dX0_mostOf_4 : decode cX0_mostOf 4 = .ok (.iload_n 0, 1) := by decide +kernel
theorem dX0_mostOf_5 : decode cX0_mostOf 5 = .ok (.getstatic 19, 3) := by decide +kernel
theorem dX0_mostOf_8 : decode cX0_mostOf 8 = .ok (.arraylength, 1) := by decide +kernel
theorem dX0_mostOf_9 : decode cX0_mostOf 9 = .ok (.if_icmp .ge 11, 3) := by decide +kernel
theorem dX0_mostOf_12 : decode cX0_mostOf 12 = .ok (.getstatic 19, 3) := by decide +kernel
theorem dX0_mostOf_15 : decode cX0_mostOf 15 = .ok (.iload_n 0, 1) := by decide +kernel
theorem dX0_mostOf_16 : decode cX0_mostOf 16 = .ok (.iaload, 1) := by decide +kernel
theorem dX0_mostOf_17 : decode cX0_mostOf 17 = .ok (.goto 4, 3) := by decide +kernel
theorem dX0_mostOf_20 : decode cX0_mostOf 20 = .ok (.iconst (-1), 1) := by decide +kernel
theorem dX0_mostOf_21 : decode cX0_mostOf 21 = .ok (.ireturn, 1) := by decide +kernel
theorem dX0_placeOfFeeling_0 : decode cX0_placeOfFeeling 0 = .ok (.bipush 20, 2) := by decide +kernel
theorem dX0_placeOfFeeling_2 : decode cX0_placeOfFeeling 2 = .ok (.iload_n 0, 1) := by decide +kernel
theorem dX0_placeOfFeeling_3 : decode cX0_placeOfFeeling 3 = .ok (.bipush 8, 2) := by decide +kernel
theorem dX0_placeOfFeeling_5 : decode cX0_placeOfFeeling 5 = .ok (.imul, 1) := by decide +kernel
theorem dX0_placeOfFeeling_6 : decode cX0_placeOfFeeling 6 = .ok (.iadd, 1) := by decide +kernel
theorem dX0_placeOfFeeling_7 : decode cX0_placeOfFeeling 7 = .ok (.iload_n 1, 1) := by decide +kernel
theorem dX0_placeOfFeeling_8 : decode cX0_placeOfFeeling 8 = .ok (.iadd, 1) := by decide +kernel
theorem dX0_placeOfFeeling_9 : decode cX0_placeOfFeeling 9 = .ok (.ireturn, 1) := by decide +kernel
theorem dX0_admit_0 : decode cX0_admit 0 = .ok (.aload_n 0, 1) := by decide +kernel
theorem dX0_admit_1 : decode cX0_admit 1 = .ok (.getfield 11, 3) := by decide +kernel
theorem dX0_admit_4 : decode cX0_admit 4 = .ok (.bipush 8, 2) := by decide +kernel
theorem dX0_admit_6 : decode cX0_admit 6 = .ok (.if_icmp .lt 6, 3) := by decide +kernel
theorem dX0_admit_9 : decode cX0_admit 9 = .ok (.bipush (-3), 2) := by decide +kernel
theorem dX0_admit_11 : decode cX0_admit 11 = .ok (.ireturn, 1) := by decide +kernel
theorem dX0_admit_12 : decode cX0_admit 12 = .ok (.aload_n 0, 1) := by decide +kernel
theorem dX0_admit_13 : decode cX0_admit 13 = .ok (.getfield 15, 3) := by decide +kernel
theorem dX0_admit_16 : decode cX0_admit 16 = .ok (.iconst 0, 1) := by decide +kernel
theorem dX0_admit_17 : decode cX0_admit 17 = .ok (.aload_n 0, 1) := by decide +kernel
theorem dX0_admit_18 : decode cX0_admit 18 = .ok (.getfield 11, 3) := by decide +kernel
theorem dX0_admit_21 : decode cX0_admit 21 = .ok (.iadd, 1) := by decide +kernel
theorem dX0_admit_22 : decode cX0_admit 22 = .ok (.iload_n 1, 1) := by decide +kernel
theorem dX0_admit_23 : decode cX0_admit 23 = .ok (.iastore, 1) := by decide +kernel
theorem dX0_admit_24 : decode cX0_admit 24 = .ok (.aload_n 0, 1) := by decide +kernel
theorem dX0_admit_25 : decode cX0_admit 25 = .ok (.getfield 15, 3) := by decide +kernel
theorem dX0_admit_28 : decode cX0_admit 28 = .ok (.bipush 8, 2) := by decide +kernel
theorem dX0_admit_30 : decode cX0_admit 30 = .ok (.aload_n 0, 1) := by decide +kernel
theorem dX0_admit_31 : decode cX0_admit 31 = .ok (.getfield 11, 3) := by decide +kernel
theorem dX0_admit_34 : decode cX0_admit 34 = .ok (.iadd, 1) := by decide +kernel
theorem dX0_admit_35 : decode cX0_admit 35 = .ok (.iload_n 2, 1) := by decide +kernel
theorem dX0_admit_36 : decode cX0_admit 36 = .ok (.iastore, 1) := by decide +kernel
theorem dX0_admit_37 : decode cX0_admit 37 = .ok (.aload_n 0, 1) := by decide +kernel
theorem dX0_admit_38 : decode cX0_admit 38 = .ok (.dup, 1) := by decide +kernel
theorem dX0_admit_39 : decode cX0_admit 39 = .ok (.getfield 11, 3) := by decide +kernel
theorem dX0_admit_42 : decode cX0_admit 42 = .ok (.iconst 1, 1) := by decide +kernel
theorem dX0_admit_43 : decode cX0_admit 43 = .ok (.iadd, 1) := by decide +kernel
theorem dX0_admit_44 : decode cX0_admit 44 = .ok (.putfield 11, 3) := by decide +kernel
theorem dX0_admit_47 : decode cX0_admit 47 = .ok (.aload_n 0, 1) := by decide +kernel
theorem dX0_admit_48 : decode cX0_admit 48 = .ok (.getfield 11, 3) := by decide +kernel
theorem dX0_admit_51 : decode cX0_admit 51 = .ok (.iconst 1, 1) := by decide +kernel
theorem dX0_admit_52 : decode cX0_admit 52 = .ok (.isub, 1) := by decide +kernel
theorem dX0_admit_53 : decode cX0_admit 53 = .ok (.ireturn, 1) := by decide +kernel
theorem dX0_has_0 : decode cX0_has 0 = .ok (.iload_n 1, 1) := by decide +kernel
theorem dX0_has_1 : decode cX0_has 1 = .ok (.ifCond .lt 15, 3) := by decide +kernel
theorem dX0_has_4 : decode cX0_has 4 = .ok (.iload_n 1, 1) := by decide +kernel
theorem dX0_has_5 : decode cX0_has 5 = .ok (.aload_n 0, 1) := by decide +kernel
theorem dX0_has_6 : decode cX0_has 6 = .ok (.getfield 11, 3) := by decide +kernel
theorem dX0_has_9 : decode cX0_has 9 = .ok (.if_icmp .ge 7, 3) := by decide +kernel
theorem dX0_has_12 : decode cX0_has 12 = .ok (.iconst 1, 1) := by decide +kernel
theorem dX0_has_13 : decode cX0_has 13 = .ok (.goto 4, 3) := by decide +kernel
theorem dX0_has_16 : decode cX0_has 16 = .ok (.iconst 0, 1) := by decide +kernel
theorem dX0_has_17 : decode cX0_has 17 = .ok (.ireturn, 1) := by decide +kernel
theorem dX0_hasPair_0 : decode cX0_hasPair 0 = .ok (.iload_n 1, 1) := by decide +kernel
theorem dX0_hasPair_1 : decode cX0_hasPair 1 = .ok (.ifCond .lt 40, 3) := by decide +kernel
theorem dX0_hasPair_4 : decode cX0_hasPair 4 = .ok (.aload_n 0, 1) := by decide +kernel
theorem dX0_hasPair_5 : decode cX0_hasPair 5 = .ok (.iload_n 1, 1) := by decide +kernel
theorem dX0_hasPair_6 : decode cX0_hasPair 6 = .ok (.bipush 10, 2) := by decide +kernel
theorem dX0_hasPair_8 : decode cX0_hasPair 8 = .ok (.idiv, 1) := by decide +kernel
theorem dX0_hasPair_9 : decode cX0_hasPair 9 = .ok (.invokevirtual 22, 3) := by decide +kernel
theorem dX0_hasPair_12 : decode cX0_hasPair 12 = .ok (.ifCond .eq 29, 3) := by decide +kernel
theorem dX0_hasPair_15 : decode cX0_hasPair 15 = .ok (.aload_n 0, 1) := by decide +kernel
theorem dX0_hasPair_16 : decode cX0_hasPair 16 = .ok (.iload_n 1, 1) := by decide +kernel
theorem dX0_hasPair_17 : decode cX0_hasPair 17 = .ok (.bipush 10, 2) := by decide +kernel
theorem dX0_hasPair_19 : decode cX0_hasPair 19 = .ok (.irem, 1) := by decide +kernel
theorem dX0_hasPair_20 : decode cX0_hasPair 20 = .ok (.invokevirtual 22, 3) := by decide +kernel
theorem dX0_hasPair_23 : decode cX0_hasPair 23 = .ok (.ifCond .eq 18, 3) := by decide +kernel
theorem dX0_hasPair_26 : decode cX0_hasPair 26 = .ok (.iload_n 1, 1) := by decide +kernel
theorem dX0_hasPair_27 : decode cX0_hasPair 27 = .ok (.bipush 10, 2) := by decide +kernel
theorem dX0_hasPair_29 : decode cX0_hasPair 29 = .ok (.idiv, 1) := by decide +kernel
theorem dX0_hasPair_30 : decode cX0_hasPair 30 = .ok (.iload_n 1, 1) := by decide +kernel
theorem dX0_hasPair_31 : decode cX0_hasPair 31 = .ok (.bipush 10, 2) := by decide +kernel
theorem dX0_hasPair_33 : decode cX0_hasPair 33 = .ok (.irem, 1) := by decide +kernel
theorem dX0_hasPair_34 : decode cX0_hasPair 34 = .ok (.if_icmp .eq 7, 3) := by decide +kernel
theorem dX0_hasPair_37 : decode cX0_hasPair 37 = .ok (.iconst 1, 1) := by decide +kernel
theorem dX0_hasPair_38 : decode cX0_hasPair 38 = .ok (.goto 4, 3) := by decide +kernel
theorem dX0_hasPair_41 : decode cX0_hasPair 41 = .ok (.iconst 0, 1) := by decide +kernel
theorem dX0_hasPair_42 : decode cX0_hasPair 42 = .ok (.ireturn, 1) := by decide +kernel
theorem dX0_placeOf_0 : decode cX0_placeOf 0 = .ok (.iload_n 2, 1) := by decide +kernel
theorem dX0_placeOf_1 : decode cX0_placeOf 1 = .ok (.ifCond .eq 8, 3) := by decide +kernel
theorem dX0_placeOf_4 : decode cX0_placeOf 4 = .ok (.iload_n 2, 1) := by decide +kernel
theorem dX0_placeOf_5 : decode cX0_placeOf 5 = .ok (.iconst 1, 1) := by decide +kernel
theorem dX0_placeOf_6 : decode cX0_placeOf 6 = .ok (.if_icmp .ne 28, 3) := by decide +kernel
theorem dX0_placeOf_9 : decode cX0_placeOf 9 = .ok (.aload_n 0, 1) := by decide +kernel
theorem dX0_placeOf_10 : decode cX0_placeOf 10 = .ok (.iload_n 1, 1) := by decide +kernel
theorem dX0_placeOf_11 : decode cX0_placeOf 11 = .ok (.invokevirtual 22, 3) := by decide +kernel
theorem dX0_placeOf_14 : decode cX0_placeOf 14 = .ok (.ifCond .eq 18, 3) := by decide +kernel
theorem dX0_placeOf_17 : decode cX0_placeOf 17 = .ok (.iload_n 2, 1) := by decide +kernel
theorem dX0_placeOf_18 : decode cX0_placeOf 18 = .ok (.ifCond .ne 7, 3) := by decide +kernel
theorem dX0_placeOf_21 : decode cX0_placeOf 21 = .ok (.iconst 0, 1) := by decide +kernel
theorem dX0_placeOf_22 : decode cX0_placeOf 22 = .ok (.goto 5, 3) := by decide +kernel
theorem dX0_placeOf_25 : decode cX0_placeOf 25 = .ok (.bipush 8, 2) := by decide +kernel
theorem dX0_placeOf_27 : decode cX0_placeOf 27 = .ok (.iload_n 1, 1) := by decide +kernel
theorem dX0_placeOf_28 : decode cX0_placeOf 28 = .ok (.iadd, 1) := by decide +kernel
theorem dX0_placeOf_29 : decode cX0_placeOf 29 = .ok (.goto 4, 3) := by decide +kernel
theorem dX0_placeOf_32 : decode cX0_placeOf 32 = .ok (.iconst (-1), 1) := by decide +kernel
theorem dX0_placeOf_33 : decode cX0_placeOf 33 = .ok (.ireturn, 1) := by decide +kernel
theorem dX0_placeOf_34 : decode cX0_placeOf 34 = .ok (.iload_n 2, 1) := by decide +kernel
theorem dX0_placeOf_35 : decode cX0_placeOf 35 = .ok (.iconst 2, 1) := by decide +kernel
theorem dX0_placeOf_36 : decode cX0_placeOf 36 = .ok (.if_icmp .lt 21, 3) := by decide +kernel
theorem dX0_placeOf_39 : decode cX0_placeOf 39 = .ok (.iload_n 2, 1) := by decide +kernel
theorem dX0_placeOf_40 : decode cX0_placeOf 40 = .ok (.iconst 5, 1) := by decide +kernel
theorem dX0_placeOf_41 : decode cX0_placeOf 41 = .ok (.if_icmp .gt 16, 3) := by decide +kernel
theorem dX0_placeOf_44 : decode cX0_placeOf 44 = .ok (.iload_n 1, 1) := by decide +kernel
theorem dX0_placeOf_45 : decode cX0_placeOf 45 = .ok (.ifCond .ne 12, 3) := by decide +kernel
theorem dX0_placeOf_48 : decode cX0_placeOf 48 = .ok (.bipush 16, 2) := by decide +kernel
theorem dX0_placeOf_50 : decode cX0_placeOf 50 = .ok (.iload_n 2, 1) := by decide +kernel
theorem dX0_placeOf_51 : decode cX0_placeOf 51 = .ok (.iadd, 1) := by decide +kernel
theorem dX0_placeOf_52 : decode cX0_placeOf 52 = .ok (.iconst 2, 1) := by decide +kernel
theorem dX0_placeOf_53 : decode cX0_placeOf 53 = .ok (.isub, 1) := by decide +kernel
theorem dX0_placeOf_54 : decode cX0_placeOf 54 = .ok (.goto 4, 3) := by decide +kernel
theorem dX0_placeOf_57 : decode cX0_placeOf 57 = .ok (.iconst (-1), 1) := by decide +kernel
theorem dX0_placeOf_58 : decode cX0_placeOf 58 = .ok (.ireturn, 1) := by decide +kernel
theorem dX0_numberAt_0 : decode cX0_numberAt 0 = .ok (.iload_n 1, 1) := by decide +kernel
theorem dX0_numberAt_1 : decode cX0_numberAt 1 = .ok (.ifCond .lt 18, 3) := by decide +kernel
theorem dX0_numberAt_4 : decode cX0_numberAt 4 = .ok (.iload_n 1, 1) := by decide +kernel
theorem dX0_numberAt_5 : decode cX0_numberAt 5 = .ok (.bipush 84, 2) := by decide +kernel
theorem dX0_numberAt_7 : decode cX0_numberAt 7 = .ok (.if_icmp .ge 12, 3) := by decide +kernel
theorem dX0_numberAt_10 : decode cX0_numberAt 10 = .ok (.aload_n 0, 1) := by decide +kernel
theorem dX0_numberAt_11 : decode cX0_numberAt 11 = .ok (.getfield 15, 3) := by decide +kernel
theorem dX0_numberAt_14 : decode cX0_numberAt 14 = .ok (.iload_n 1, 1) := by decide +kernel
theorem dX0_numberAt_15 : decode cX0_numberAt 15 = .ok (.iaload, 1) := by decide +kernel
theorem dX0_numberAt_16 : decode cX0_numberAt 16 = .ok (.goto 4, 3) := by decide +kernel
theorem dX0_numberAt_19 : decode cX0_numberAt 19 = .ok (.iconst 0, 1) := by decide +kernel
theorem dX0_numberAt_20 : decode cX0_numberAt 20 = .ok (.ireturn, 1) := by decide +kernel
theorem dX0_setNumber_0 : decode cX0_setNumber 0 = .ok (.iload_n 1, 1) := by decide +kernel
theorem dX0_setNumber_1 : decode cX0_setNumber 1 = .ok (.ifCond .lt 16, 3) := by decide +kernel
theorem dX0_setNumber_4 : decode cX0_setNumber 4 = .ok (.iload_n 1, 1) := by decide +kernel
theorem dX0_setNumber_5 : decode cX0_setNumber 5 = .ok (.bipush 84, 2) := by decide +kernel
theorem dX0_setNumber_7 : decode cX0_setNumber 7 = .ok (.if_icmp .ge 10, 3) := by decide +kernel
theorem dX0_setNumber_10 : decode cX0_setNumber 10 = .ok (.aload_n 0, 1) := by decide +kernel
theorem dX0_setNumber_11 : decode cX0_setNumber 11 = .ok (.getfield 15, 3) := by decide +kernel
theorem dX0_setNumber_14 : decode cX0_setNumber 14 = .ok (.iload_n 1, 1) := by decide +kernel
theorem dX0_setNumber_15 : decode cX0_setNumber 15 = .ok (.iload_n 2, 1) := by decide +kernel
theorem dX0_setNumber_16 : decode cX0_setNumber 16 = .ok (.iastore, 1) := by decide +kernel
theorem dX0_setNumber_17 : decode cX0_setNumber 17 = .ok (.return_, 1) := by decide +kernel
theorem dX0_hungerOf_0 : decode cX0_hungerOf 0 = .ok (.iload_n 1, 1) := by decide +kernel
theorem dX0_hungerOf_1 : decode cX0_hungerOf 1 = .ok (.ifCond .lt 20, 3) := by decide +kernel
theorem dX0_hungerOf_4 : decode cX0_hungerOf 4 = .ok (.iload_n 1, 1) := by decide +kernel
theorem dX0_hungerOf_5 : decode cX0_hungerOf 5 = .ok (.bipush 8, 2) := by decide +kernel
theorem dX0_hungerOf_7 : decode cX0_hungerOf 7 = .ok (.if_icmp .ge 14, 3) := by decide +kernel
theorem dX0_hungerOf_10 : decode cX0_hungerOf 10 = .ok (.aload_n 0, 1) := by decide +kernel
theorem dX0_hungerOf_11 : decode cX0_hungerOf 11 = .ok (.getfield 15, 3) := by decide +kernel
theorem dX0_hungerOf_14 : decode cX0_hungerOf 14 = .ok (.iconst 0, 1) := by decide +kernel
theorem dX0_hungerOf_15 : decode cX0_hungerOf 15 = .ok (.iload_n 1, 1) := by decide +kernel
theorem dX0_hungerOf_16 : decode cX0_hungerOf 16 = .ok (.iadd, 1) := by decide +kernel
theorem dX0_hungerOf_17 : decode cX0_hungerOf 17 = .ok (.iaload, 1) := by decide +kernel
theorem dX0_hungerOf_18 : decode cX0_hungerOf 18 = .ok (.goto 4, 3) := by decide +kernel
theorem dX0_hungerOf_21 : decode cX0_hungerOf 21 = .ok (.iconst 0, 1) := by decide +kernel
theorem dX0_hungerOf_22 : decode cX0_hungerOf 22 = .ok (.ireturn, 1) := by decide +kernel
theorem dX0_hungerMore_0 : decode cX0_hungerMore 0 = .ok (.aload_n 0, 1) := by decide +kernel
theorem dX0_hungerMore_1 : decode cX0_hungerMore 1 = .ok (.iconst 0, 1) := by decide +kernel
theorem dX0_hungerMore_2 : decode cX0_hungerMore 2 = .ok (.iload_n 1, 1) := by decide +kernel
theorem dX0_hungerMore_3 : decode cX0_hungerMore 3 = .ok (.iadd, 1) := by decide +kernel
theorem dX0_hungerMore_4 : decode cX0_hungerMore 4 = .ok (.aload_n 0, 1) := by decide +kernel
theorem dX0_hungerMore_5 : decode cX0_hungerMore 5 = .ok (.iload_n 1, 1) := by decide +kernel
theorem dX0_hungerMore_6 : decode cX0_hungerMore 6 = .ok (.invokevirtual 26, 3) := by decide +kernel
theorem dX0_hungerMore_9 : decode cX0_hungerMore 9 = .ok (.iload_n 2, 1) := by decide +kernel
theorem dX0_hungerMore_10 : decode cX0_hungerMore 10 = .ok (.iadd, 1) := by decide +kernel
theorem dX0_hungerMore_11 : decode cX0_hungerMore 11 = .ok (.bipush 99, 2) := by decide +kernel
theorem dX0_hungerMore_13 : decode cX0_hungerMore 13 = .ok (.invokestatic 30, 3) := by decide +kernel
theorem dX0_hungerMore_16 : decode cX0_hungerMore 16 = .ok (.invokevirtual 36, 3) := by decide +kernel
theorem dX0_hungerMore_19 : decode cX0_hungerMore 19 = .ok (.return_, 1) := by decide +kernel
theorem dX0_hungerLess_0 : decode cX0_hungerLess 0 = .ok (.aload_n 0, 1) := by decide +kernel
theorem dX0_hungerLess_1 : decode cX0_hungerLess 1 = .ok (.iconst 0, 1) := by decide +kernel
theorem dX0_hungerLess_2 : decode cX0_hungerLess 2 = .ok (.iload_n 1, 1) := by decide +kernel
theorem dX0_hungerLess_3 : decode cX0_hungerLess 3 = .ok (.iadd, 1) := by decide +kernel
theorem dX0_hungerLess_4 : decode cX0_hungerLess 4 = .ok (.aload_n 0, 1) := by decide +kernel
theorem dX0_hungerLess_5 : decode cX0_hungerLess 5 = .ok (.iload_n 1, 1) := by decide +kernel
theorem dX0_hungerLess_6 : decode cX0_hungerLess 6 = .ok (.invokevirtual 26, 3) := by decide +kernel
theorem dX0_hungerLess_9 : decode cX0_hungerLess 9 = .ok (.iload_n 2, 1) := by decide +kernel
theorem dX0_hungerLess_10 : decode cX0_hungerLess 10 = .ok (.isub, 1) := by decide +kernel
theorem dX0_hungerLess_11 : decode cX0_hungerLess 11 = .ok (.iconst 0, 1) := by decide +kernel
theorem dX0_hungerLess_12 : decode cX0_hungerLess 12 = .ok (.invokestatic 40, 3) := by decide +kernel
theorem dX0_hungerLess_15 : decode cX0_hungerLess 15 = .ok (.invokevirtual 36, 3) := by decide +kernel
theorem dX0_hungerLess_18 : decode cX0_hungerLess 18 = .ok (.return_, 1) := by decide +kernel
theorem dX0_felt_0 : decode cX0_felt 0 = .ok (.bipush 20, 2) := by decide +kernel
theorem dX0_felt_2 : decode cX0_felt 2 = .ok (.iload_n 1, 1) := by decide +kernel
theorem dX0_felt_3 : decode cX0_felt 3 = .ok (.bipush 8, 2) := by decide +kernel
theorem dX0_felt_5 : decode cX0_felt 5 = .ok (.imul, 1) := by decide +kernel
theorem dX0_felt_6 : decode cX0_felt 6 = .ok (.iadd, 1) := by decide +kernel
theorem dX0_felt_7 : decode cX0_felt 7 = .ok (.iload_n 2, 1) := by decide +kernel
theorem dX0_felt_8 : decode cX0_felt 8 = .ok (.iadd, 1) := by decide +kernel
theorem dX0_felt_9 : decode cX0_felt 9 = .ok (.istore_n 3, 1) := by decide +kernel
theorem dX0_felt_10 : decode cX0_felt 10 = .ok (.iload_n 3, 1) := by decide +kernel
theorem dX0_felt_11 : decode cX0_felt 11 = .ok (.bipush 20, 2) := by decide +kernel
theorem dX0_felt_13 : decode cX0_felt 13 = .ok (.if_icmp .lt 18, 3) := by decide +kernel
theorem dX0_felt_16 : decode cX0_felt 16 = .ok (.iload_n 3, 1) := by decide +kernel
theorem dX0_felt_17 : decode cX0_felt 17 = .ok (.bipush 84, 2) := by decide +kernel
theorem dX0_felt_19 : decode cX0_felt 19 = .ok (.if_icmp .ge 12, 3) := by decide +kernel
theorem dX0_felt_22 : decode cX0_felt 22 = .ok (.aload_n 0, 1) := by decide +kernel
theorem dX0_felt_23 : decode cX0_felt 23 = .ok (.getfield 15, 3) := by decide +kernel
theorem dX0_felt_26 : decode cX0_felt 26 = .ok (.iload_n 3, 1) := by decide +kernel
theorem dX0_felt_27 : decode cX0_felt 27 = .ok (.iaload, 1) := by decide +kernel
theorem dX0_felt_28 : decode cX0_felt 28 = .ok (.goto 4, 3) := by decide +kernel
theorem dX0_felt_31 : decode cX0_felt 31 = .ok (.iconst 0, 1) := by decide +kernel
theorem dX0_felt_32 : decode cX0_felt 32 = .ok (.ireturn, 1) := by decide +kernel
theorem dX0_setFelt_0 : decode cX0_setFelt 0 = .ok (.aload_n 0, 1) := by decide +kernel
theorem dX0_setFelt_1 : decode cX0_setFelt 1 = .ok (.iload_n 1, 1) := by decide +kernel
theorem dX0_setFelt_2 : decode cX0_setFelt 2 = .ok (.iload_n 2, 1) := by decide +kernel
theorem dX0_setFelt_3 : decode cX0_setFelt 3 = .ok (.invokestatic 43, 3) := by decide +kernel
theorem dX0_setFelt_6 : decode cX0_setFelt 6 = .ok (.iload_n 3, 1) := by decide +kernel
theorem dX0_setFelt_7 : decode cX0_setFelt 7 = .ok (.invokevirtual 36, 3) := by decide +kernel
theorem dX0_setFelt_10 : decode cX0_setFelt 10 = .ok (.return_, 1) := by decide +kernel
theorem dX0_friendOf_0 : decode cX0_friendOf 0 = .ok (.bipush 8, 2) := by decide +kernel
theorem dX0_friendOf_2 : decode cX0_friendOf 2 = .ok (.istore_n 3, 1) := by decide +kernel
theorem dX0_friendOf_3 : decode cX0_friendOf 3 = .ok (.iconst 0, 1) := by decide +kernel
theorem dX0_friendOf_4 : decode cX0_friendOf 4 = .ok (.istore 4, 2) := by decide +kernel
theorem dX0_friendOf_6 : decode cX0_friendOf 6 = .ok (.iconst 0, 1) := by decide +kernel
theorem dX0_friendOf_7 : decode cX0_friendOf 7 = .ok (.istore 5, 2) := by decide +kernel
theorem dX0_friendOf_9 : decode cX0_friendOf 9 = .ok (.iload 5, 2) := by decide +kernel
theorem dX0_friendOf_11 : decode cX0_friendOf 11 = .ok (.aload_n 0, 1) := by decide +kernel
theorem dX0_friendOf_12 : decode cX0_friendOf 12 = .ok (.getfield 11, 3) := by decide +kernel
theorem dX0_friendOf_15 : decode cX0_friendOf 15 = .ok (.if_icmp .ge 38, 3) := by decide +kernel
theorem dX0_friendOf_18 : decode cX0_friendOf 18 = .ok (.aload_n 0, 1) := by decide +kernel
theorem dX0_friendOf_19 : decode cX0_friendOf 19 = .ok (.iload 5, 2) := by decide +kernel
theorem dX0_friendOf_21 : decode cX0_friendOf 21 = .ok (.iload_n 1, 1) := by decide +kernel
theorem dX0_friendOf_22 : decode cX0_friendOf 22 = .ok (.invokevirtual 46, 3) := by decide +kernel
theorem dX0_friendOf_25 : decode cX0_friendOf 25 = .ok (.istore 6, 2) := by decide +kernel
theorem dX0_friendOf_27 : decode cX0_friendOf 27 = .ok (.iload 5, 2) := by decide +kernel
theorem dX0_friendOf_29 : decode cX0_friendOf 29 = .ok (.iload_n 2, 1) := by decide +kernel
theorem dX0_friendOf_30 : decode cX0_friendOf 30 = .ok (.if_icmp .eq 17, 3) := by decide +kernel
theorem dX0_friendOf_33 : decode cX0_friendOf 33 = .ok (.iload 6, 2) := by decide +kernel
theorem dX0_friendOf_35 : decode cX0_friendOf 35 = .ok (.iload 4, 2) := by decide +kernel
theorem dX0_friendOf_37 : decode cX0_friendOf 37 = .ok (.if_icmp .le 10, 3) := by decide +kernel
theorem dX0_friendOf_40 : decode cX0_friendOf 40 = .ok (.iload 5, 2) := by decide +kernel
theorem dX0_friendOf_42 : decode cX0_friendOf 42 = .ok (.istore_n 3, 1) := by decide +kernel
theorem dX0_friendOf_43 : decode cX0_friendOf 43 = .ok (.iload 6, 2) := by decide +kernel
theorem dX0_friendOf_45 : decode cX0_friendOf 45 = .ok (.istore 4, 2) := by decide +kernel
theorem dX0_friendOf_47 : decode cX0_friendOf 47 = .ok (.iinc 5 1, 3) := by decide +kernel
theorem dX0_friendOf_50 : decode cX0_friendOf 50 = .ok (.goto (-41), 3) := by decide +kernel
theorem dX0_friendOf_53 : decode cX0_friendOf 53 = .ok (.iload_n 3, 1) := by decide +kernel
theorem dX0_friendOf_54 : decode cX0_friendOf 54 = .ok (.ireturn, 1) := by decide +kernel
theorem dX0_hatersOf_0 : decode cX0_hatersOf 0 = .ok (.iconst 0, 1) := by decide +kernel
theorem dX0_hatersOf_1 : decode cX0_hatersOf 1 = .ok (.istore_n 2, 1) := by decide +kernel
theorem dX0_hatersOf_2 : decode cX0_hatersOf 2 = .ok (.iconst 0, 1) := by decide +kernel
theorem dX0_hatersOf_3 : decode cX0_hatersOf 3 = .ok (.istore_n 3, 1) := by decide +kernel
theorem dX0_hatersOf_4 : decode cX0_hatersOf 4 = .ok (.iload_n 3, 1) := by decide +kernel
theorem dX0_hatersOf_5 : decode cX0_hatersOf 5 = .ok (.aload_n 0, 1) := by decide +kernel
theorem dX0_hatersOf_6 : decode cX0_hatersOf 6 = .ok (.getfield 11, 3) := by decide +kernel
theorem dX0_hatersOf_9 : decode cX0_hatersOf 9 = .ok (.if_icmp .ge 26, 3) := by decide +kernel
theorem dX0_hatersOf_12 : decode cX0_hatersOf 12 = .ok (.iload_n 2, 1) := by decide +kernel
theorem dX0_hatersOf_13 : decode cX0_hatersOf 13 = .ok (.aload_n 0, 1) := by decide +kernel
theorem dX0_hatersOf_14 : decode cX0_hatersOf 14 = .ok (.iload_n 3, 1) := by decide +kernel
theorem dX0_hatersOf_15 : decode cX0_hatersOf 15 = .ok (.iload_n 1, 1) := by decide +kernel
theorem dX0_hatersOf_16 : decode cX0_hatersOf 16 = .ok (.invokevirtual 46, 3) := by decide +kernel
theorem dX0_hatersOf_19 : decode cX0_hatersOf 19 = .ok (.ifCond .ge 7, 3) := by decide +kernel
theorem dX0_hatersOf_22 : decode cX0_hatersOf 22 = .ok (.iconst 1, 1) := by decide +kernel
theorem dX0_hatersOf_23 : decode cX0_hatersOf 23 = .ok (.goto 4, 3) := by decide +kernel
theorem dX0_hatersOf_26 : decode cX0_hatersOf 26 = .ok (.iconst 0, 1) := by decide +kernel
theorem dX0_hatersOf_27 : decode cX0_hatersOf 27 = .ok (.iadd, 1) := by decide +kernel
theorem dX0_hatersOf_28 : decode cX0_hatersOf 28 = .ok (.istore_n 2, 1) := by decide +kernel
theorem dX0_hatersOf_29 : decode cX0_hatersOf 29 = .ok (.iinc 3 1, 3) := by decide +kernel
theorem dX0_hatersOf_32 : decode cX0_hatersOf 32 = .ok (.goto (-28), 3) := by decide +kernel
theorem dX0_hatersOf_35 : decode cX0_hatersOf 35 = .ok (.iload_n 2, 1) := by decide +kernel
theorem dX0_hatersOf_36 : decode cX0_hatersOf 36 = .ok (.ireturn, 1) := by decide +kernel
theorem dX0_feelingsBelowNone_0 : decode cX0_feelingsBelowNone 0 = .ok (.iconst 0, 1) := by decide +kernel
theorem dX0_feelingsBelowNone_1 : decode cX0_feelingsBelowNone 1 = .ok (.istore_n 1, 1) := by decide +kernel
theorem dX0_feelingsBelowNone_2 : decode cX0_feelingsBelowNone 2 = .ok (.iconst 0, 1) := by decide +kernel
theorem dX0_feelingsBelowNone_3 : decode cX0_feelingsBelowNone 3 = .ok (.istore_n 2, 1) := by decide +kernel
theorem dX0_feelingsBelowNone_4 : decode cX0_feelingsBelowNone 4 = .ok (.iload_n 2, 1) := by decide +kernel
theorem dX0_feelingsBelowNone_5 : decode cX0_feelingsBelowNone 5 = .ok (.aload_n 0, 1) := by decide +kernel
theorem dX0_feelingsBelowNone_6 : decode cX0_feelingsBelowNone 6 = .ok (.getfield 11, 3) := by decide +kernel
theorem dX0_feelingsBelowNone_9 : decode cX0_feelingsBelowNone 9 = .ok (.if_icmp .ge 17, 3) := by decide +kernel
theorem dX0_feelingsBelowNone_12 : decode cX0_feelingsBelowNone 12 = .ok (.iload_n 1, 1) := by decide +kernel
theorem dX0_feelingsBelowNone_13 : decode cX0_feelingsBelowNone 13 = .ok (.aload_n 0, 1) := by decide +kernel
theorem dX0_feelingsBelowNone_14 : decode cX0_feelingsBelowNone 14 = .ok (.iload_n 2, 1) := by decide +kernel
theorem dX0_feelingsBelowNone_15 : decode cX0_feelingsBelowNone 15 = .ok (.invokevirtual 52, 3) := by decide +kernel
theorem dX0_feelingsBelowNone_18 : decode cX0_feelingsBelowNone 18 = .ok (.iadd, 1) := by decide +kernel
theorem dX0_feelingsBelowNone_19 : decode cX0_feelingsBelowNone 19 = .ok (.istore_n 1, 1) := by decide +kernel
theorem dX0_feelingsBelowNone_20 : decode cX0_feelingsBelowNone 20 = .ok (.iinc 2 1, 3) := by decide +kernel
theorem dX0_feelingsBelowNone_23 : decode cX0_feelingsBelowNone 23 = .ok (.goto (-19), 3) := by decide +kernel
theorem dX0_feelingsBelowNone_26 : decode cX0_feelingsBelowNone 26 = .ok (.iload_n 1, 1) := by decide +kernel
theorem dX0_feelingsBelowNone_27 : decode cX0_feelingsBelowNone 27 = .ok (.ireturn, 1) := by decide +kernel
theorem dX0_endDay_0 : decode cX0_endDay 0 = .ok (.iconst 0, 1) := by decide +kernel
theorem dX0_endDay_1 : decode cX0_endDay 1 = .ok (.istore_n 2, 1) := by decide +kernel
theorem dX0_endDay_2 : decode cX0_endDay 2 = .ok (.iload_n 2, 1) := by decide +kernel
theorem dX0_endDay_3 : decode cX0_endDay 3 = .ok (.aload_n 0, 1) := by decide +kernel
theorem dX0_endDay_4 : decode cX0_endDay 4 = .ok (.getfield 11, 3) := by decide +kernel
theorem dX0_endDay_7 : decode cX0_endDay 7 = .ok (.if_icmp .ge 29, 3) := by decide +kernel
theorem dX0_endDay_10 : decode cX0_endDay 10 = .ok (.iload_n 1, 1) := by decide +kernel
theorem dX0_endDay_11 : decode cX0_endDay 11 = .ok (.iload_n 2, 1) := by decide +kernel
theorem dX0_endDay_12 : decode cX0_endDay 12 = .ok (.ishr, 1) := by decide +kernel
theorem dX0_endDay_13 : decode cX0_endDay 13 = .ok (.iconst 1, 1) := by decide +kernel
theorem dX0_endDay_14 : decode cX0_endDay 14 = .ok (.iand, 1) := by decide +kernel
theorem dX0_endDay_15 : decode cX0_endDay 15 = .ok (.ifCond .ne 15, 3) := by decide +kernel
theorem dX0_endDay_18 : decode cX0_endDay 18 = .ok (.aload_n 0, 1) := by decide +kernel
theorem dX0_endDay_19 : decode cX0_endDay 19 = .ok (.iload_n 2, 1) := by decide +kernel
theorem dX0_endDay_20 : decode cX0_endDay 20 = .ok (.aload_n 0, 1) := by decide +kernel
theorem dX0_endDay_21 : decode cX0_endDay 21 = .ok (.getfield 15, 3) := by decide +kernel
theorem dX0_endDay_24 : decode cX0_endDay 24 = .ok (.bipush 18, 2) := by decide +kernel
theorem dX0_endDay_26 : decode cX0_endDay 26 = .ok (.iaload, 1) := by decide +kernel
theorem dX0_endDay_27 : decode cX0_endDay 27 = .ok (.invokevirtual 61, 3) := by decide +kernel
theorem dX0_endDay_30 : decode cX0_endDay 30 = .ok (.iinc 2 1, 3) := by decide +kernel
theorem dX0_endDay_33 : decode cX0_endDay 33 = .ok (.goto (-31), 3) := by decide +kernel
theorem dX0_endDay_36 : decode cX0_endDay 36 = .ok (.aload_n 0, 1) := by decide +kernel
theorem dX0_endDay_37 : decode cX0_endDay 37 = .ok (.getfield 15, 3) := by decide +kernel
theorem dX0_endDay_40 : decode cX0_endDay 40 = .ok (.bipush 19, 2) := by decide +kernel
theorem dX0_endDay_42 : decode cX0_endDay 42 = .ok (.aload_n 0, 1) := by decide +kernel
theorem dX0_endDay_43 : decode cX0_endDay 43 = .ok (.getfield 15, 3) := by decide +kernel
theorem dX0_endDay_46 : decode cX0_endDay 46 = .ok (.bipush 19, 2) := by decide +kernel
theorem dX0_endDay_48 : decode cX0_endDay 48 = .ok (.iaload, 1) := by decide +kernel
theorem dX0_endDay_49 : decode cX0_endDay 49 = .ok (.iconst 1, 1) := by decide +kernel
theorem dX0_endDay_50 : decode cX0_endDay 50 = .ok (.iadd, 1) := by decide +kernel
theorem dX0_endDay_51 : decode cX0_endDay 51 = .ok (.bipush 99, 2) := by decide +kernel
theorem dX0_endDay_53 : decode cX0_endDay 53 = .ok (.invokestatic 30, 3) := by decide +kernel
theorem dX0_endDay_56 : decode cX0_endDay 56 = .ok (.iastore, 1) := by decide +kernel
theorem dX0_endDay_57 : decode cX0_endDay 57 = .ok (.aload_n 0, 1) := by decide +kernel
theorem dX0_endDay_58 : decode cX0_endDay 58 = .ok (.getfield 15, 3) := by decide +kernel
theorem dX0_endDay_61 : decode cX0_endDay 61 = .ok (.bipush 17, 2) := by decide +kernel
theorem dX0_endDay_63 : decode cX0_endDay 63 = .ok (.iaload, 1) := by decide +kernel
theorem dX0_endDay_64 : decode cX0_endDay 64 = .ok (.ifCond .eq 25, 3) := by decide +kernel
theorem dX0_endDay_67 : decode cX0_endDay 67 = .ok (.aload_n 0, 1) := by decide +kernel
theorem dX0_endDay_68 : decode cX0_endDay 68 = .ok (.getfield 15, 3) := by decide +kernel
theorem dX0_endDay_71 : decode cX0_endDay 71 = .ok (.bipush 19, 2) := by decide +kernel
theorem dX0_endDay_73 : decode cX0_endDay 73 = .ok (.iaload, 1) := by decide +kernel
theorem dX0_endDay_74 : decode cX0_endDay 74 = .ok (.aload_n 0, 1) := by decide +kernel
theorem dX0_endDay_75 : decode cX0_endDay 75 = .ok (.getfield 15, 3) := by decide +kernel
theorem dX0_endDay_78 : decode cX0_endDay 78 = .ok (.bipush 17, 2) := by decide +kernel
theorem dX0_endDay_80 : decode cX0_endDay 80 = .ok (.iaload, 1) := by decide +kernel
theorem dX0_endDay_81 : decode cX0_endDay 81 = .ok (.irem, 1) := by decide +kernel
theorem dX0_endDay_82 : decode cX0_endDay 82 = .ok (.ifCond .ne 7, 3) := by decide +kernel
theorem dX0_endDay_85 : decode cX0_endDay 85 = .ok (.aload_n 0, 1) := by decide +kernel
theorem dX0_endDay_86 : decode cX0_endDay 86 = .ok (.invokevirtual 64, 3) := by decide +kernel
theorem dX0_endDay_89 : decode cX0_endDay 89 = .ok (.return_, 1) := by decide +kernel
theorem dX0_fade_0 : decode cX0_fade 0 = .ok (.bipush 20, 2) := by decide +kernel
theorem dX0_fade_2 : decode cX0_fade 2 = .ok (.istore_n 1, 1) := by decide +kernel
theorem dX0_fade_3 : decode cX0_fade 3 = .ok (.iload_n 1, 1) := by decide +kernel
theorem dX0_fade_4 : decode cX0_fade 4 = .ok (.bipush 84, 2) := by decide +kernel
theorem dX0_fade_6 : decode cX0_fade 6 = .ok (.if_icmp .ge 43, 3) := by decide +kernel
theorem dX0_fade_9 : decode cX0_fade 9 = .ok (.aload_n 0, 1) := by decide +kernel
theorem dX0_fade_10 : decode cX0_fade 10 = .ok (.getfield 15, 3) := by decide +kernel
theorem dX0_fade_13 : decode cX0_fade 13 = .ok (.iload_n 1, 1) := by decide +kernel
theorem dX0_fade_14 : decode cX0_fade 14 = .ok (.iaload, 1) := by decide +kernel
theorem dX0_fade_15 : decode cX0_fade 15 = .ok (.istore_n 2, 1) := by decide +kernel
theorem dX0_fade_16 : decode cX0_fade 16 = .ok (.aload_n 0, 1) := by decide +kernel
theorem dX0_fade_17 : decode cX0_fade 17 = .ok (.getfield 15, 3) := by decide +kernel
theorem dX0_fade_20 : decode cX0_fade 20 = .ok (.iload_n 1, 1) := by decide +kernel
theorem dX0_fade_21 : decode cX0_fade 21 = .ok (.iload_n 2, 1) := by decide +kernel
theorem dX0_fade_22 : decode cX0_fade 22 = .ok (.ifCond .le 9, 3) := by decide +kernel
theorem dX0_fade_25 : decode cX0_fade 25 = .ok (.iload_n 2, 1) := by decide +kernel
theorem dX0_fade_26 : decode cX0_fade 26 = .ok (.iconst 1, 1) := by decide +kernel
theorem dX0_fade_27 : decode cX0_fade 27 = .ok (.isub, 1) := by decide +kernel
theorem dX0_fade_28 : decode cX0_fade 28 = .ok (.goto 14, 3) := by decide +kernel
theorem dX0_fade_31 : decode cX0_fade 31 = .ok (.iload_n 2, 1) := by decide +kernel
theorem dX0_fade_32 : decode cX0_fade 32 = .ok (.ifCond .ge 9, 3) := by decide +kernel
theorem dX0_fade_35 : decode cX0_fade 35 = .ok (.iload_n 2, 1) := by decide +kernel
theorem dX0_fade_36 : decode cX0_fade 36 = .ok (.iconst 1, 1) := by decide +kernel
theorem dX0_fade_37 : decode cX0_fade 37 = .ok (.iadd, 1) := by decide +kernel
theorem dX0_fade_38 : decode cX0_fade 38 = .ok (.goto 4, 3) := by decide +kernel
theorem dX0_fade_41 : decode cX0_fade 41 = .ok (.iconst 0, 1) := by decide +kernel
theorem dX0_fade_42 : decode cX0_fade 42 = .ok (.iastore, 1) := by decide +kernel
theorem dX0_fade_43 : decode cX0_fade 43 = .ok (.iinc 1 1, 3) := by decide +kernel
theorem dX0_fade_46 : decode cX0_fade 46 = .ok (.goto (-43), 3) := by decide +kernel
theorem dX0_fade_49 : decode cX0_fade 49 = .ok (.return_, 1) := by decide +kernel
theorem dX0_takeOver_0 : decode cX0_takeOver 0 = .ok (.aload_n 0, 1) := by decide +kernel
theorem dX0_takeOver_1 : decode cX0_takeOver 1 = .ok (.aload_n 1, 1) := by decide +kernel
theorem dX0_takeOver_2 : decode cX0_takeOver 2 = .ok (.getfield 11, 3) := by decide +kernel
theorem dX0_takeOver_5 : decode cX0_takeOver 5 = .ok (.putfield 11, 3) := by decide +kernel
theorem dX0_takeOver_8 : decode cX0_takeOver 8 = .ok (.aload_n 1, 1) := by decide +kernel
theorem dX0_takeOver_9 : decode cX0_takeOver 9 = .ok (.getfield 15, 3) := by decide +kernel
theorem dX0_takeOver_12 : decode cX0_takeOver 12 = .ok (.iconst 0, 1) := by decide +kernel
theorem dX0_takeOver_13 : decode cX0_takeOver 13 = .ok (.aload_n 0, 1) := by decide +kernel
theorem dX0_takeOver_14 : decode cX0_takeOver 14 = .ok (.getfield 15, 3) := by decide +kernel
theorem dX0_takeOver_17 : decode cX0_takeOver 17 = .ok (.iconst 0, 1) := by decide +kernel
theorem dX0_takeOver_18 : decode cX0_takeOver 18 = .ok (.bipush 84, 2) := by decide +kernel
theorem dX0_takeOver_20 : decode cX0_takeOver 20 = .ok (.invokestatic 67, 3) := by decide +kernel
theorem dX0_takeOver_23 : decode cX0_takeOver 23 = .ok (.return_, 1) := by decide +kernel
theorem dX1_init_0 : decode cX1_init 0 = .ok (.aload_n 0, 1) := by decide +kernel
theorem dX1_init_1 : decode cX1_init 1 = .ok (.invokespecial 3, 3) := by decide +kernel
theorem dX1_init_4 : decode cX1_init 4 = .ok (.aload_n 0, 1) := by decide +kernel
theorem dX1_init_5 : decode cX1_init 5 = .ok (.bipush 6, 2) := by decide +kernel
theorem dX1_init_7 : decode cX1_init 7 = .ok (.newarray .int, 2) := by decide +kernel
theorem dX1_init_9 : decode cX1_init 9 = .ok (.putfield 11, 3) := by decide +kernel
theorem dX1_init_12 : decode cX1_init 12 = .ok (.aload_n 0, 1) := by decide +kernel
theorem dX1_init_13 : decode cX1_init 13 = .ok (.bipush 72, 2) := by decide +kernel
theorem dX1_init_15 : decode cX1_init 15 = .ok (.newarray .int, 2) := by decide +kernel
theorem dX1_init_17 : decode cX1_init 17 = .ok (.putfield 15, 3) := by decide +kernel
theorem dX1_init_20 : decode cX1_init 20 = .ok (.aload_n 0, 1) := by decide +kernel
theorem dX1_init_21 : decode cX1_init 21 = .ok (.iconst 0, 1) := by decide +kernel
theorem dX1_init_22 : decode cX1_init 22 = .ok (.putfield 18, 3) := by decide +kernel
theorem dX1_init_25 : decode cX1_init 25 = .ok (.aload_n 0, 1) := by decide +kernel
theorem dX1_init_26 : decode cX1_init 26 = .ok (.new 22, 3) := by decide +kernel
theorem dX1_init_29 : decode cX1_init 29 = .ok (.dup, 1) := by decide +kernel
theorem dX1_init_30 : decode cX1_init 30 = .ok (.invokespecial 24, 3) := by decide +kernel
theorem dX1_init_33 : decode cX1_init 33 = .ok (.putfield 25, 3) := by decide +kernel
theorem dX1_init_36 : decode cX1_init 36 = .ok (.aload_n 0, 1) := by decide +kernel
theorem dX1_init_37 : decode cX1_init 37 = .ok (.bipush 6, 2) := by decide +kernel
theorem dX1_init_39 : decode cX1_init 39 = .ok (.newarray .int, 2) := by decide +kernel
theorem dX1_init_41 : decode cX1_init 41 = .ok (.putfield 29, 3) := by decide +kernel
theorem dX1_init_44 : decode cX1_init 44 = .ok (.aload_n 0, 1) := by decide +kernel
theorem dX1_init_45 : decode cX1_init 45 = .ok (.iconst 0, 1) := by decide +kernel
theorem dX1_init_46 : decode cX1_init 46 = .ok (.putfield 32, 3) := by decide +kernel
theorem dX1_init_49 : decode cX1_init 49 = .ok (.return_, 1) := by decide +kernel
theorem dX1_add_0 : decode cX1_add 0 = .ok (.iload_n 1, 1) := by decide +kernel
theorem dX1_add_1 : decode cX1_add 1 = .ok (.ifCond .lt 19, 3) := by decide +kernel
theorem dX1_add_4 : decode cX1_add 4 = .ok (.iload_n 1, 1) := by decide +kernel
theorem dX1_add_5 : decode cX1_add 5 = .ok (.bipush 6, 2) := by decide +kernel
theorem dX1_add_7 : decode cX1_add 7 = .ok (.if_icmp .ge 13, 3) := by decide +kernel
theorem dX1_add_10 : decode cX1_add 10 = .ok (.aload_n 0, 1) := by decide +kernel
theorem dX1_add_11 : decode cX1_add 11 = .ok (.getfield 11, 3) := by decide +kernel
theorem dX1_add_14 : decode cX1_add 14 = .ok (.iload_n 1, 1) := by decide +kernel
theorem dX1_add_15 : decode cX1_add 15 = .ok (.dup2, 1) := by decide +kernel
theorem dX1_add_16 : decode cX1_add 16 = .ok (.iaload, 1) := by decide +kernel
theorem dX1_add_17 : decode cX1_add 17 = .ok (.iload_n 2, 1) := by decide +kernel
theorem dX1_add_18 : decode cX1_add 18 = .ok (.iadd, 1) := by decide +kernel
theorem dX1_add_19 : decode cX1_add 19 = .ok (.iastore, 1) := by decide +kernel
theorem dX1_add_20 : decode cX1_add 20 = .ok (.return_, 1) := by decide +kernel
theorem dX1_told_0 : decode cX1_told 0 = .ok (.iload_n 1, 1) := by decide +kernel
theorem dX1_told_1 : decode cX1_told 1 = .ok (.ifCond .lt 18, 3) := by decide +kernel
theorem dX1_told_4 : decode cX1_told 4 = .ok (.iload_n 1, 1) := by decide +kernel
theorem dX1_told_5 : decode cX1_told 5 = .ok (.bipush 6, 2) := by decide +kernel
theorem dX1_told_7 : decode cX1_told 7 = .ok (.if_icmp .ge 12, 3) := by decide +kernel
theorem dX1_told_10 : decode cX1_told 10 = .ok (.aload_n 0, 1) := by decide +kernel
theorem dX1_told_11 : decode cX1_told 11 = .ok (.getfield 11, 3) := by decide +kernel
theorem dX1_told_14 : decode cX1_told 14 = .ok (.iload_n 1, 1) := by decide +kernel
theorem dX1_told_15 : decode cX1_told 15 = .ok (.iaload, 1) := by decide +kernel
theorem dX1_told_16 : decode cX1_told 16 = .ok (.goto 4, 3) := by decide +kernel
theorem dX1_told_19 : decode cX1_told 19 = .ok (.iconst 0, 1) := by decide +kernel
theorem dX1_told_20 : decode cX1_told 20 = .ok (.ireturn, 1) := by decide +kernel
theorem dX1_tell_0 : decode cX1_tell 0 = .ok (.aload_n 0, 1) := by decide +kernel
theorem dX1_tell_1 : decode cX1_tell 1 = .ok (.iconst 0, 1) := by decide +kernel
theorem dX1_tell_2 : decode cX1_tell 2 = .ok (.iconst 1, 1) := by decide +kernel
theorem dX1_tell_3 : decode cX1_tell 3 = .ok (.invokevirtual 36, 3) := by decide +kernel
theorem dX1_tell_6 : decode cX1_tell 6 = .ok (.aload_n 0, 1) := by decide +kernel
theorem dX1_tell_7 : decode cX1_tell 7 = .ok (.iconst 1, 1) := by decide +kernel
theorem dX1_tell_8 : decode cX1_tell 8 = .ok (.aload_n 1, 1) := by decide +kernel
theorem dX1_tell_9 : decode cX1_tell 9 = .ok (.getfield 40, 3) := by decide +kernel
theorem dX1_tell_12 : decode cX1_tell 12 = .ok (.invokevirtual 36, 3) := by decide +kernel
theorem dX1_tell_15 : decode cX1_tell 15 = .ok (.aload_n 0, 1) := by decide +kernel
theorem dX1_tell_16 : decode cX1_tell 16 = .ok (.iconst 2, 1) := by decide +kernel
theorem dX1_tell_17 : decode cX1_tell 17 = .ok (.iload_n 2, 1) := by decide +kernel
theorem dX1_tell_18 : decode cX1_tell 18 = .ok (.aload_n 1, 1) := by decide +kernel
theorem dX1_tell_19 : decode cX1_tell 19 = .ok (.getfield 40, 3) := by decide +kernel
theorem dX1_tell_22 : decode cX1_tell 22 = .ok (.isub, 1) := by decide +kernel
theorem dX1_tell_23 : decode cX1_tell 23 = .ok (.invokevirtual 36, 3) := by decide +kernel
theorem dX1_tell_26 : decode cX1_tell 26 = .ok (.aload_n 0, 1) := by decide +kernel
theorem dX1_tell_27 : decode cX1_tell 27 = .ok (.iconst 0, 1) := by decide +kernel
theorem dX1_tell_28 : decode cX1_tell 28 = .ok (.putfield 18, 3) := by decide +kernel
theorem dX1_tell_31 : decode cX1_tell 31 = .ok (.iconst 0, 1) := by decide +kernel
theorem dX1_tell_32 : decode cX1_tell 32 = .ok (.istore_n 3, 1) := by decide +kernel
theorem dX1_tell_33 : decode cX1_tell 33 = .ok (.iload_n 3, 1) := by decide +kernel
theorem dX1_tell_34 : decode cX1_tell 34 = .ok (.aload_n 1, 1) := by decide +kernel
theorem dX1_tell_35 : decode cX1_tell 35 = .ok (.getfield 40, 3) := by decide +kernel
theorem dX1_tell_38 : decode cX1_tell 38 = .ok (.if_icmp .ge 121, 3) := by decide +kernel
theorem dX1_tell_41 : decode cX1_tell 41 = .ok (.iload_n 3, 1) := by decide +kernel
theorem dX1_tell_42 : decode cX1_tell 42 = .ok (.bipush 8, 2) := by decide +kernel
theorem dX1_tell_44 : decode cX1_tell 44 = .ok (.if_icmp .ge 115, 3) := by decide +kernel
theorem dX1_tell_47 : decode cX1_tell 47 = .ok (.aload_n 0, 1) := by decide +kernel
theorem dX1_tell_48 : decode cX1_tell 48 = .ok (.bipush 48, 2) := by decide +kernel
theorem dX1_tell_50 : decode cX1_tell 50 = .ok (.aload_n 1, 1) := by decide +kernel
theorem dX1_tell_51 : decode cX1_tell 51 = .ok (.getfield 45, 3) := by decide +kernel
theorem dX1_tell_54 : decode cX1_tell 54 = .ok (.iload_n 3, 1) := by decide +kernel
theorem dX1_tell_55 : decode cX1_tell 55 = .ok (.iaload, 1) := by decide +kernel
theorem dX1_tell_56 : decode cX1_tell 56 = .ok (.iadd, 1) := by decide +kernel
theorem dX1_tell_57 : decode cX1_tell 57 = .ok (.invokevirtual 48, 3) := by decide +kernel
theorem dX1_tell_60 : decode cX1_tell 60 = .ok (.aload_n 0, 1) := by decide +kernel
theorem dX1_tell_61 : decode cX1_tell 61 = .ok (.bipush 60, 2) := by decide +kernel
theorem dX1_tell_63 : decode cX1_tell 63 = .ok (.invokevirtual 48, 3) := by decide +kernel
theorem dX1_tell_66 : decode cX1_tell 66 = .ok (.aload_n 0, 1) := by decide +kernel
theorem dX1_tell_67 : decode cX1_tell 67 = .ok (.bipush 48, 2) := by decide +kernel
theorem dX1_tell_69 : decode cX1_tell 69 = .ok (.aload_n 1, 1) := by decide +kernel
theorem dX1_tell_70 : decode cX1_tell 70 = .ok (.getfield 52, 3) := by decide +kernel
theorem dX1_tell_73 : decode cX1_tell 73 = .ok (.iload_n 3, 1) := by decide +kernel
theorem dX1_tell_74 : decode cX1_tell 74 = .ok (.iaload, 1) := by decide +kernel
theorem dX1_tell_75 : decode cX1_tell 75 = .ok (.iadd, 1) := by decide +kernel
theorem dX1_tell_76 : decode cX1_tell 76 = .ok (.invokevirtual 48, 3) := by decide +kernel
theorem dX1_tell_79 : decode cX1_tell 79 = .ok (.aload_n 0, 1) := by decide +kernel
theorem dX1_tell_80 : decode cX1_tell 80 = .ok (.bipush 124, 2) := by decide +kernel
theorem dX1_tell_82 : decode cX1_tell 82 = .ok (.invokevirtual 48, 3) := by decide +kernel
theorem dX1_tell_85 : decode cX1_tell 85 = .ok (.aload_n 0, 1) := by decide +kernel
theorem dX1_tell_86 : decode cX1_tell 86 = .ok (.bipush 48, 2) := by decide +kernel
theorem dX1_tell_88 : decode cX1_tell 88 = .ok (.aload_n 1, 1) := by decide +kernel
theorem dX1_tell_89 : decode cX1_tell 89 = .ok (.getfield 55, 3) := by decide +kernel
theorem dX1_tell_92 : decode cX1_tell 92 = .ok (.iload_n 3, 1) := by decide +kernel
theorem dX1_tell_93 : decode cX1_tell 93 = .ok (.iaload, 1) := by decide +kernel
theorem dX1_tell_94 : decode cX1_tell 94 = .ok (.iadd, 1) := by decide +kernel
theorem dX1_tell_95 : decode cX1_tell 95 = .ok (.invokevirtual 48, 3) := by decide +kernel
theorem dX1_tell_98 : decode cX1_tell 98 = .ok (.aload_n 0, 1) := by decide +kernel
theorem dX1_tell_99 : decode cX1_tell 99 = .ok (.bipush 58, 2) := by decide +kernel
theorem dX1_tell_101 : decode cX1_tell 101 = .ok (.invokevirtual 48, 3) := by decide +kernel
theorem dX1_tell_104 : decode cX1_tell 104 = .ok (.aload_n 1, 1) := by decide +kernel
theorem dX1_tell_105 : decode cX1_tell 105 = .ok (.getfield 58, 3) := by decide +kernel
theorem dX1_tell_108 : decode cX1_tell 108 = .ok (.iload_n 3, 1) := by decide +kernel
theorem dX1_tell_109 : decode cX1_tell 109 = .ok (.iaload, 1) := by decide +kernel
theorem dX1_tell_110 : decode cX1_tell 110 = .ok (.bipush 10, 2) := by decide +kernel
theorem dX1_tell_112 : decode cX1_tell 112 = .ok (.if_icmp .lt 19, 3) := by decide +kernel
theorem dX1_tell_115 : decode cX1_tell 115 = .ok (.aload_n 0, 1) := by decide +kernel
theorem dX1_tell_116 : decode cX1_tell 116 = .ok (.bipush 48, 2) := by decide +kernel
theorem dX1_tell_118 : decode cX1_tell 118 = .ok (.aload_n 1, 1) := by decide +kernel
theorem dX1_tell_119 : decode cX1_tell 119 = .ok (.getfield 58, 3) := by decide +kernel
theorem dX1_tell_122 : decode cX1_tell 122 = .ok (.iload_n 3, 1) := by decide +kernel
theorem dX1_tell_123 : decode cX1_tell 123 = .ok (.iaload, 1) := by decide +kernel
theorem dX1_tell_124 : decode cX1_tell 124 = .ok (.bipush 10, 2) := by decide +kernel
theorem dX1_tell_126 : decode cX1_tell 126 = .ok (.idiv, 1) := by decide +kernel
theorem dX1_tell_127 : decode cX1_tell 127 = .ok (.iadd, 1) := by decide +kernel
theorem dX1_tell_128 : decode cX1_tell 128 = .ok (.invokevirtual 48, 3) := by decide +kernel
theorem dX1_tell_131 : decode cX1_tell 131 = .ok (.aload_n 0, 1) := by decide +kernel
theorem dX1_tell_132 : decode cX1_tell 132 = .ok (.bipush 48, 2) := by decide +kernel
theorem dX1_tell_134 : decode cX1_tell 134 = .ok (.aload_n 1, 1) := by decide +kernel
theorem dX1_tell_135 : decode cX1_tell 135 = .ok (.getfield 58, 3) := by decide +kernel
theorem dX1_tell_138 : decode cX1_tell 138 = .ok (.iload_n 3, 1) := by decide +kernel
theorem dX1_tell_139 : decode cX1_tell 139 = .ok (.iaload, 1) := by decide +kernel
theorem dX1_tell_140 : decode cX1_tell 140 = .ok (.bipush 10, 2) := by decide +kernel
theorem dX1_tell_142 : decode cX1_tell 142 = .ok (.irem, 1) := by decide +kernel
theorem dX1_tell_143 : decode cX1_tell 143 = .ok (.iadd, 1) := by decide +kernel
theorem dX1_tell_144 : decode cX1_tell 144 = .ok (.invokevirtual 48, 3) := by decide +kernel
theorem dX1_tell_147 : decode cX1_tell 147 = .ok (.aload_n 0, 1) := by decide +kernel
theorem dX1_tell_148 : decode cX1_tell 148 = .ok (.bipush 59, 2) := by decide +kernel
theorem dX1_tell_150 : decode cX1_tell 150 = .ok (.invokevirtual 48, 3) := by decide +kernel
theorem dX1_tell_153 : decode cX1_tell 153 = .ok (.iinc 3 1, 3) := by decide +kernel
theorem dX1_tell_156 : decode cX1_tell 156 = .ok (.goto (-123), 3) := by decide +kernel
theorem dX1_tell_159 : decode cX1_tell 159 = .ok (.return_, 1) := by decide +kernel
theorem dX1_write_0 : decode cX1_write 0 = .ok (.aload_n 0, 1) := by decide +kernel
theorem dX1_write_1 : decode cX1_write 1 = .ok (.getfield 18, 3) := by decide +kernel
theorem dX1_write_4 : decode cX1_write 4 = .ok (.bipush 72, 2) := by decide +kernel
theorem dX1_write_6 : decode cX1_write 6 = .ok (.if_icmp .ge 23, 3) := by decide +kernel
theorem dX1_write_9 : decode cX1_write 9 = .ok (.aload_n 0, 1) := by decide +kernel
theorem dX1_write_10 : decode cX1_write 10 = .ok (.getfield 15, 3) := by decide +kernel
theorem dX1_write_13 : decode cX1_write 13 = .ok (.aload_n 0, 1) := by decide +kernel
theorem dX1_write_14 : decode cX1_write 14 = .ok (.getfield 18, 3) := by decide +kernel
theorem dX1_write_17 : decode cX1_write 17 = .ok (.iload_n 1, 1) := by decide +kernel
theorem dX1_write_18 : decode cX1_write 18 = .ok (.iastore, 1) := by decide +kernel
theorem dX1_write_19 : decode cX1_write 19 = .ok (.aload_n 0, 1) := by decide +kernel
theorem dX1_write_20 : decode cX1_write 20 = .ok (.dup, 1) := by decide +kernel
theorem dX1_write_21 : decode cX1_write 21 = .ok (.getfield 18, 3) := by decide +kernel
theorem dX1_write_24 : decode cX1_write 24 = .ok (.iconst 1, 1) := by decide +kernel
theorem dX1_write_25 : decode cX1_write 25 = .ok (.iadd, 1) := by decide +kernel
theorem dX1_write_26 : decode cX1_write 26 = .ok (.putfield 18, 3) := by decide +kernel
theorem dX1_write_29 : decode cX1_write 29 = .ok (.return_, 1) := by decide +kernel
theorem dX1_taleLength_0 : decode cX1_taleLength 0 = .ok (.aload_n 0, 1) := by decide +kernel
theorem dX1_taleLength_1 : decode cX1_taleLength 1 = .ok (.getfield 18, 3) := by decide +kernel
theorem dX1_taleLength_4 : decode cX1_taleLength 4 = .ok (.ireturn, 1) := by decide +kernel
theorem dX1_taleByte_0 : decode cX1_taleByte 0 = .ok (.iload_n 1, 1) := by decide +kernel
theorem dX1_taleByte_1 : decode cX1_taleByte 1 = .ok (.ifCond .lt 20, 3) := by decide +kernel
theorem dX1_taleByte_4 : decode cX1_taleByte 4 = .ok (.iload_n 1, 1) := by decide +kernel
theorem dX1_taleByte_5 : decode cX1_taleByte 5 = .ok (.aload_n 0, 1) := by decide +kernel
theorem dX1_taleByte_6 : decode cX1_taleByte 6 = .ok (.getfield 18, 3) := by decide +kernel
theorem dX1_taleByte_9 : decode cX1_taleByte 9 = .ok (.if_icmp .ge 12, 3) := by decide +kernel
theorem dX1_taleByte_12 : decode cX1_taleByte 12 = .ok (.aload_n 0, 1) := by decide +kernel
theorem dX1_taleByte_13 : decode cX1_taleByte 13 = .ok (.getfield 15, 3) := by decide +kernel
theorem dX1_taleByte_16 : decode cX1_taleByte 16 = .ok (.iload_n 1, 1) := by decide +kernel
theorem dX1_taleByte_17 : decode cX1_taleByte 17 = .ok (.iaload, 1) := by decide +kernel
theorem dX1_taleByte_18 : decode cX1_taleByte 18 = .ok (.goto 5, 3) := by decide +kernel
theorem dX1_taleByte_21 : decode cX1_taleByte 21 = .ok (.bipush (-2), 2) := by decide +kernel
theorem dX1_taleByte_23 : decode cX1_taleByte 23 = .ok (.ireturn, 1) := by decide +kernel
theorem dX2_init_0 : decode cX2_init 0 = .ok (.aload_n 0, 1) := by decide +kernel
theorem dX2_init_1 : decode cX2_init 1 = .ok (.invokespecial 1, 3) := by decide +kernel
theorem dX2_init_4 : decode cX2_init 4 = .ok (.aload_n 0, 1) := by decide +kernel
theorem dX2_init_5 : decode cX2_init 5 = .ok (.bipush 40, 2) := by decide +kernel
theorem dX2_init_7 : decode cX2_init 7 = .ok (.newarray .int, 2) := by decide +kernel
theorem dX2_init_9 : decode cX2_init 9 = .ok (.putfield 9, 3) := by decide +kernel
theorem dX2_init_12 : decode cX2_init 12 = .ok (.aload_n 0, 1) := by decide +kernel
theorem dX2_init_13 : decode cX2_init 13 = .ok (.bipush 40, 2) := by decide +kernel
theorem dX2_init_15 : decode cX2_init 15 = .ok (.newarray .int, 2) := by decide +kernel
theorem dX2_init_17 : decode cX2_init 17 = .ok (.putfield 13, 3) := by decide +kernel
theorem dX2_init_20 : decode cX2_init 20 = .ok (.aload_n 0, 1) := by decide +kernel
theorem dX2_init_21 : decode cX2_init 21 = .ok (.bipush 40, 2) := by decide +kernel
theorem dX2_init_23 : decode cX2_init 23 = .ok (.newarray .int, 2) := by decide +kernel
theorem dX2_init_25 : decode cX2_init 25 = .ok (.putfield 16, 3) := by decide +kernel
theorem dX2_init_28 : decode cX2_init 28 = .ok (.aload_n 0, 1) := by decide +kernel
theorem dX2_init_29 : decode cX2_init 29 = .ok (.iconst 0, 1) := by decide +kernel
theorem dX2_init_30 : decode cX2_init 30 = .ok (.putfield 19, 3) := by decide +kernel
theorem dX2_init_33 : decode cX2_init 33 = .ok (.aload_n 0, 1) := by decide +kernel
theorem dX2_init_34 : decode cX2_init 34 = .ok (.iconst 0, 1) := by decide +kernel
theorem dX2_init_35 : decode cX2_init 35 = .ok (.putfield 23, 3) := by decide +kernel
theorem dX2_init_38 : decode cX2_init 38 = .ok (.return_, 1) := by decide +kernel
theorem dX2_add_0 : decode cX2_add 0 = .ok (.aload_n 0, 1) := by decide +kernel
theorem dX2_add_1 : decode cX2_add 1 = .ok (.getfield 19, 3) := by decide +kernel
theorem dX2_add_4 : decode cX2_add 4 = .ok (.bipush 40, 2) := by decide +kernel
theorem dX2_add_6 : decode cX2_add 6 = .ok (.if_icmp .lt 7, 3) := by decide +kernel
theorem dX2_add_9 : decode cX2_add 9 = .ok (.aload_n 0, 1) := by decide +kernel
theorem dX2_add_10 : decode cX2_add 10 = .ok (.invokevirtual 26, 3) := by decide +kernel
theorem dX2_add_13 : decode cX2_add 13 = .ok (.aload_n 0, 1) := by decide +kernel
theorem dX2_add_14 : decode cX2_add 14 = .ok (.getfield 9, 3) := by decide +kernel
theorem dX2_add_17 : decode cX2_add 17 = .ok (.aload_n 0, 1) := by decide +kernel
theorem dX2_add_18 : decode cX2_add 18 = .ok (.getfield 19, 3) := by decide +kernel
theorem dX2_add_21 : decode cX2_add 21 = .ok (.iload_n 1, 1) := by decide +kernel
theorem dX2_add_22 : decode cX2_add 22 = .ok (.iastore, 1) := by decide +kernel
theorem dX2_add_23 : decode cX2_add 23 = .ok (.aload_n 0, 1) := by decide +kernel
theorem dX2_add_24 : decode cX2_add 24 = .ok (.getfield 13, 3) := by decide +kernel
theorem dX2_add_27 : decode cX2_add 27 = .ok (.aload_n 0, 1) := by decide +kernel
theorem dX2_add_28 : decode cX2_add 28 = .ok (.getfield 19, 3) := by decide +kernel
theorem dX2_add_31 : decode cX2_add 31 = .ok (.iload_n 2, 1) := by decide +kernel
theorem dX2_add_32 : decode cX2_add 32 = .ok (.iastore, 1) := by decide +kernel
theorem dX2_add_33 : decode cX2_add 33 = .ok (.aload_n 0, 1) := by decide +kernel
theorem dX2_add_34 : decode cX2_add 34 = .ok (.getfield 16, 3) := by decide +kernel
theorem dX2_add_37 : decode cX2_add 37 = .ok (.aload_n 0, 1) := by decide +kernel
theorem dX2_add_38 : decode cX2_add 38 = .ok (.getfield 19, 3) := by decide +kernel
theorem dX2_add_41 : decode cX2_add 41 = .ok (.iload_n 3, 1) := by decide +kernel
theorem dX2_add_42 : decode cX2_add 42 = .ok (.iastore, 1) := by decide +kernel
theorem dX2_add_43 : decode cX2_add 43 = .ok (.aload_n 0, 1) := by decide +kernel
theorem dX2_add_44 : decode cX2_add 44 = .ok (.dup, 1) := by decide +kernel
theorem dX2_add_45 : decode cX2_add 45 = .ok (.getfield 19, 3) := by decide +kernel
theorem dX2_add_48 : decode cX2_add 48 = .ok (.iconst 1, 1) := by decide +kernel
theorem dX2_add_49 : decode cX2_add 49 = .ok (.iadd, 1) := by decide +kernel
theorem dX2_add_50 : decode cX2_add 50 = .ok (.putfield 19, 3) := by decide +kernel
theorem dX2_add_53 : decode cX2_add 53 = .ok (.aload_n 0, 1) := by decide +kernel
theorem dX2_add_54 : decode cX2_add 54 = .ok (.aload_n 0, 1) := by decide +kernel
theorem dX2_add_55 : decode cX2_add 55 = .ok (.getfield 19, 3) := by decide +kernel
theorem dX2_add_58 : decode cX2_add 58 = .ok (.putfield 23, 3) := by decide +kernel
theorem dX2_add_61 : decode cX2_add 61 = .ok (.return_, 1) := by decide +kernel
theorem dX2_forgetFirst_0 : decode cX2_forgetFirst 0 = .ok (.aload_n 0, 1) := by decide +kernel
theorem dX2_forgetFirst_1 : decode cX2_forgetFirst 1 = .ok (.getfield 9, 3) := by decide +kernel
theorem dX2_forgetFirst_4 : decode cX2_forgetFirst 4 = .ok (.iconst 1, 1) := by decide +kernel
theorem dX2_forgetFirst_5 : decode cX2_forgetFirst 5 = .ok (.aload_n 0, 1) := by decide +kernel
theorem dX2_forgetFirst_6 : decode cX2_forgetFirst 6 = .ok (.getfield 9, 3) := by decide +kernel
theorem dX2_forgetFirst_9 : decode cX2_forgetFirst 9 = .ok (.iconst 0, 1) := by decide +kernel
theorem dX2_forgetFirst_10 : decode cX2_forgetFirst 10 = .ok (.bipush 39, 2) := by decide +kernel
theorem dX2_forgetFirst_12 : decode cX2_forgetFirst 12 = .ok (.invokestatic 29, 3) := by decide +kernel
theorem dX2_forgetFirst_15 : decode cX2_forgetFirst 15 = .ok (.aload_n 0, 1) := by decide +kernel
theorem dX2_forgetFirst_16 : decode cX2_forgetFirst 16 = .ok (.getfield 13, 3) := by decide +kernel
theorem dX2_forgetFirst_19 : decode cX2_forgetFirst 19 = .ok (.iconst 1, 1) := by decide +kernel
theorem dX2_forgetFirst_20 : decode cX2_forgetFirst 20 = .ok (.aload_n 0, 1) := by decide +kernel
theorem dX2_forgetFirst_21 : decode cX2_forgetFirst 21 = .ok (.getfield 13, 3) := by decide +kernel
theorem dX2_forgetFirst_24 : decode cX2_forgetFirst 24 = .ok (.iconst 0, 1) := by decide +kernel
theorem dX2_forgetFirst_25 : decode cX2_forgetFirst 25 = .ok (.bipush 39, 2) := by decide +kernel
theorem dX2_forgetFirst_27 : decode cX2_forgetFirst 27 = .ok (.invokestatic 29, 3) := by decide +kernel
theorem dX2_forgetFirst_30 : decode cX2_forgetFirst 30 = .ok (.aload_n 0, 1) := by decide +kernel
theorem dX2_forgetFirst_31 : decode cX2_forgetFirst 31 = .ok (.getfield 16, 3) := by decide +kernel
theorem dX2_forgetFirst_34 : decode cX2_forgetFirst 34 = .ok (.iconst 1, 1) := by decide +kernel
theorem dX2_forgetFirst_35 : decode cX2_forgetFirst 35 = .ok (.aload_n 0, 1) := by decide +kernel
theorem dX2_forgetFirst_36 : decode cX2_forgetFirst 36 = .ok (.getfield 16, 3) := by decide +kernel
theorem dX2_forgetFirst_39 : decode cX2_forgetFirst 39 = .ok (.iconst 0, 1) := by decide +kernel
theorem dX2_forgetFirst_40 : decode cX2_forgetFirst 40 = .ok (.bipush 39, 2) := by decide +kernel
theorem dX2_forgetFirst_42 : decode cX2_forgetFirst 42 = .ok (.invokestatic 29, 3) := by decide +kernel
theorem dX2_forgetFirst_45 : decode cX2_forgetFirst 45 = .ok (.aload_n 0, 1) := by decide +kernel
theorem dX2_forgetFirst_46 : decode cX2_forgetFirst 46 = .ok (.bipush 39, 2) := by decide +kernel
theorem dX2_forgetFirst_48 : decode cX2_forgetFirst 48 = .ok (.putfield 19, 3) := by decide +kernel
theorem dX2_forgetFirst_51 : decode cX2_forgetFirst 51 = .ok (.return_, 1) := by decide +kernel
theorem dX2_undoable_0 : decode cX2_undoable 0 = .ok (.aload_n 0, 1) := by decide +kernel
theorem dX2_undoable_1 : decode cX2_undoable 1 = .ok (.getfield 19, 3) := by decide +kernel
theorem dX2_undoable_4 : decode cX2_undoable 4 = .ok (.ireturn, 1) := by decide +kernel
theorem dX3_init_0 : decode cX3_init 0 = .ok (.aload_n 0, 1) := by decide +kernel
theorem dX3_init_1 : decode cX3_init 1 = .ok (.invokespecial 1, 3) := by decide +kernel
theorem dX3_init_4 : decode cX3_init 4 = .ok (.aload_n 0, 1) := by decide +kernel
theorem dX3_init_5 : decode cX3_init 5 = .ok (.sipush 161, 3) := by decide +kernel
theorem dX3_init_8 : decode cX3_init 8 = .ok (.newarray .int, 2) := by decide +kernel
theorem dX3_init_10 : decode cX3_init 10 = .ok (.putfield 9, 3) := by decide +kernel
theorem dX3_init_13 : decode cX3_init 13 = .ok (.aload_n 0, 1) := by decide +kernel
theorem dX3_init_14 : decode cX3_init 14 = .ok (.iconst 0, 1) := by decide +kernel
theorem dX3_init_15 : decode cX3_init 15 = .ok (.putfield 15, 3) := by decide +kernel
theorem dX3_init_18 : decode cX3_init 18 = .ok (.aload_n 0, 1) := by decide +kernel
theorem dX3_init_19 : decode cX3_init 19 = .ok (.bipush 6, 2) := by decide +kernel
theorem dX3_init_21 : decode cX3_init 21 = .ok (.newarray .int, 2) := by decide +kernel
theorem dX3_init_23 : decode cX3_init 23 = .ok (.putfield 19, 3) := by decide +kernel
theorem dX3_init_26 : decode cX3_init 26 = .ok (.aload_n 0, 1) := by decide +kernel
theorem dX3_init_27 : decode cX3_init 27 = .ok (.bipush 40, 2) := by decide +kernel
theorem dX3_init_29 : decode cX3_init 29 = .ok (.newarray .int, 2) := by decide +kernel
theorem dX3_init_31 : decode cX3_init 31 = .ok (.putfield 22, 3) := by decide +kernel
theorem dX3_init_34 : decode cX3_init 34 = .ok (.return_, 1) := by decide +kernel
theorem dX3_become_0 : decode cX3_become 0 = .ok (.aload_n 0, 1) := by decide +kernel
theorem dX3_become_1 : decode cX3_become 1 = .ok (.aload_n 1, 1) := by decide +kernel
theorem dX3_become_2 : decode cX3_become 2 = .ok (.getfield 25, 3) := by decide +kernel
theorem dX3_become_5 : decode cX3_become 5 = .ok (.aload_n 0, 1) := by decide +kernel
theorem dX3_become_6 : decode cX3_become 6 = .ok (.getfield 9, 3) := by decide +kernel
theorem dX3_become_9 : decode cX3_become 9 = .ok (.arraylength, 1) := by decide +kernel
theorem dX3_become_10 : decode cX3_become 10 = .ok (.invokestatic 26, 3) := by decide +kernel
theorem dX3_become_13 : decode cX3_become 13 = .ok (.putfield 15, 3) := by decide +kernel
theorem dX3_become_16 : decode cX3_become 16 = .ok (.aload_n 1, 1) := by decide +kernel
theorem dX3_become_17 : decode cX3_become 17 = .ok (.getfield 32, 3) := by decide +kernel
theorem dX3_become_20 : decode cX3_become 20 = .ok (.iconst 0, 1) := by decide +kernel
theorem dX3_become_21 : decode cX3_become 21 = .ok (.aload_n 0, 1) := by decide +kernel
theorem dX3_become_22 : decode cX3_become 22 = .ok (.getfield 9, 3) := by decide +kernel
theorem dX3_become_25 : decode cX3_become 25 = .ok (.iconst 0, 1) := by decide +kernel
theorem dX3_become_26 : decode cX3_become 26 = .ok (.aload_n 0, 1) := by decide +kernel
theorem dX3_become_27 : decode cX3_become 27 = .ok (.getfield 15, 3) := by decide +kernel
theorem dX3_become_30 : decode cX3_become 30 = .ok (.invokestatic 33, 3) := by decide +kernel
theorem dX3_become_33 : decode cX3_become 33 = .ok (.return_, 1) := by decide +kernel
theorem dX3_setWords_0 : decode cX3_setWords 0 = .ok (.aload_n 0, 1) := by decide +kernel
theorem dX3_setWords_1 : decode cX3_setWords 1 = .ok (.getfield 19, 3) := by decide +kernel
theorem dX3_setWords_4 : decode cX3_setWords 4 = .ok (.iconst 1, 1) := by decide +kernel
theorem dX3_setWords_5 : decode cX3_setWords 5 = .ok (.iload_n 1, 1) := by decide +kernel
theorem dX3_setWords_6 : decode cX3_setWords 6 = .ok (.iastore, 1) := by decide +kernel
theorem dX3_setWords_7 : decode cX3_setWords 7 = .ok (.aload_n 0, 1) := by decide +kernel
theorem dX3_setWords_8 : decode cX3_setWords 8 = .ok (.getfield 19, 3) := by decide +kernel
theorem dX3_setWords_11 : decode cX3_setWords 11 = .ok (.iconst 2, 1) := by decide +kernel
theorem dX3_setWords_12 : decode cX3_setWords 12 = .ok (.iload_n 2, 1) := by decide +kernel
theorem dX3_setWords_13 : decode cX3_setWords 13 = .ok (.iastore, 1) := by decide +kernel
theorem dX3_setWords_14 : decode cX3_setWords 14 = .ok (.aload_n 0, 1) := by decide +kernel
theorem dX3_setWords_15 : decode cX3_setWords 15 = .ok (.getfield 19, 3) := by decide +kernel
theorem dX3_setWords_18 : decode cX3_setWords 18 = .ok (.iconst 3, 1) := by decide +kernel
theorem dX3_setWords_19 : decode cX3_setWords 19 = .ok (.iload_n 3, 1) := by decide +kernel
theorem dX3_setWords_20 : decode cX3_setWords 20 = .ok (.iastore, 1) := by decide +kernel
theorem dX3_setWords_21 : decode cX3_setWords 21 = .ok (.aload_n 0, 1) := by decide +kernel
theorem dX3_setWords_22 : decode cX3_setWords 22 = .ok (.getfield 19, 3) := by decide +kernel
theorem dX3_setWords_25 : decode cX3_setWords 25 = .ok (.iconst 4, 1) := by decide +kernel
theorem dX3_setWords_26 : decode cX3_setWords 26 = .ok (.iload 4, 2) := by decide +kernel
theorem dX3_setWords_28 : decode cX3_setWords 28 = .ok (.iastore, 1) := by decide +kernel
theorem dX3_setWords_29 : decode cX3_setWords 29 = .ok (.aload_n 0, 1) := by decide +kernel
theorem dX3_setWords_30 : decode cX3_setWords 30 = .ok (.getfield 19, 3) := by decide +kernel
theorem dX3_setWords_33 : decode cX3_setWords 33 = .ok (.iconst 5, 1) := by decide +kernel
theorem dX3_setWords_34 : decode cX3_setWords 34 = .ok (.iload 5, 2) := by decide +kernel
theorem dX3_setWords_36 : decode cX3_setWords 36 = .ok (.iastore, 1) := by decide +kernel
theorem dX3_setWords_37 : decode cX3_setWords 37 = .ok (.return_, 1) := by decide +kernel
theorem dX3_weighedOut_0 : decode cX3_weighedOut 0 = .ok (.aload_n 0, 1) := by decide +kernel
theorem dX3_weighedOut_1 : decode cX3_weighedOut 1 = .ok (.getfield 15, 3) := by decide +kernel
theorem dX3_weighedOut_4 : decode cX3_weighedOut 4 = .ok (.ifCond .ne 18, 3) := by decide +kernel
theorem dX3_weighedOut_7 : decode cX3_weighedOut 7 = .ok (.bipush 8, 2) := by decide +kernel
theorem dX3_weighedOut_9 : decode cX3_weighedOut 9 = .ok (.aload_n 0, 1) := by decide +kernel
theorem dX3_weighedOut_10 : decode cX3_weighedOut 10 = .ok (.getfield 19, 3) := by decide +kernel
theorem dX3_weighedOut_13 : decode cX3_weighedOut 13 = .ok (.iconst 3, 1) := by decide +kernel
theorem dX3_weighedOut_14 : decode cX3_weighedOut 14 = .ok (.iaload, 1) := by decide +kernel
theorem dX3_weighedOut_15 : decode cX3_weighedOut 15 = .ok (.iadd, 1) := by decide +kernel
theorem dX3_weighedOut_16 : decode cX3_weighedOut 16 = .ok (.iload_n 1, 1) := by decide +kernel
theorem dX3_weighedOut_17 : decode cX3_weighedOut 17 = .ok (.isub, 1) := by decide +kernel
theorem dX3_weighedOut_18 : decode cX3_weighedOut 18 = .ok (.invokestatic 39, 3) := by decide +kernel
theorem dX3_weighedOut_21 : decode cX3_weighedOut 21 = .ok (.ireturn, 1) := by decide +kernel
theorem dX3_weighedOut_22 : decode cX3_weighedOut 22 = .ok (.aload_n 0, 1) := by decide +kernel
theorem dX3_weighedOut_23 : decode cX3_weighedOut 23 = .ok (.getfield 19, 3) := by decide +kernel
theorem dX3_weighedOut_26 : decode cX3_weighedOut 26 = .ok (.iconst 0, 1) := by decide +kernel
theorem dX3_weighedOut_27 : decode cX3_weighedOut 27 = .ok (.iload_n 1, 1) := by decide +kernel
theorem dX3_weighedOut_28 : decode cX3_weighedOut 28 = .ok (.iastore, 1) := by decide +kernel
theorem dX3_weighedOut_29 : decode cX3_weighedOut 29 = .ok (.iconst (-1), 1) := by decide +kernel
theorem dX3_weighedOut_30 : decode cX3_weighedOut 30 = .ok (.istore_n 2, 1) := by decide +kernel
theorem dX3_weighedOut_31 : decode cX3_weighedOut 31 = .ok (.iconst 1, 1) := by decide +kernel
theorem dX3_weighedOut_32 : decode cX3_weighedOut 32 = .ok (.istore_n 3, 1) := by decide +kernel
theorem dX3_weighedOut_33 : decode cX3_weighedOut 33 = .ok (.iconst 0, 1) := by decide +kernel
theorem dX3_weighedOut_34 : decode cX3_weighedOut 34 = .ok (.istore 4, 2) := by decide +kernel
theorem dX3_weighedOut_36 : decode cX3_weighedOut 36 = .ok (.iload 4, 2) := by decide +kernel
theorem dX3_weighedOut_38 : decode cX3_weighedOut 38 = .ok (.aload_n 0, 1) := by decide +kernel
theorem dX3_weighedOut_39 : decode cX3_weighedOut 39 = .ok (.getfield 15, 3) := by decide +kernel
theorem dX3_weighedOut_42 : decode cX3_weighedOut 42 = .ok (.if_icmp .ge 214, 3) := by decide +kernel
theorem dX3_weighedOut_45 : decode cX3_weighedOut 45 = .ok (.aload_n 0, 1) := by decide +kernel
theorem dX3_weighedOut_46 : decode cX3_weighedOut 46 = .ok (.getfield 9, 3) := by decide +kernel
theorem dX3_weighedOut_49 : decode cX3_weighedOut 49 = .ok (.iload 4, 2) := by decide +kernel
theorem dX3_weighedOut_51 : decode cX3_weighedOut 51 = .ok (.iaload, 1) := by decide +kernel
theorem dX3_weighedOut_52 : decode cX3_weighedOut 52 = .ok (.istore 5, 2) := by decide +kernel
theorem dX3_weighedOut_54 : decode cX3_weighedOut 54 = .ok (.iload 5, 2) := by decide +kernel
theorem dX3_weighedOut_56 : decode cX3_weighedOut 56 = .ok (.bipush (-6), 2) := by decide +kernel
theorem dX3_weighedOut_58 : decode cX3_weighedOut 58 = .ok (.if_icmp .lt 42, 3) := by decide +kernel
theorem dX3_weighedOut_61 : decode cX3_weighedOut 61 = .ok (.iload_n 2, 1) := by decide +kernel
theorem dX3_weighedOut_62 : decode cX3_weighedOut 62 = .ok (.bipush 39, 2) := by decide +kernel
theorem dX3_weighedOut_64 : decode cX3_weighedOut 64 = .ok (.if_icmp .lt 5, 3) := by decide +kernel
theorem dX3_weighedOut_67 : decode cX3_weighedOut 67 = .ok (.iconst 0, 1) := by decide +kernel
theorem dX3_weighedOut_68 : decode cX3_weighedOut 68 = .ok (.ireturn, 1) := by decide +kernel
theorem dX3_weighedOut_69 : decode cX3_weighedOut 69 = .ok (.iinc 2 1, 3) := by decide +kernel
theorem dX3_weighedOut_72 : decode cX3_weighedOut 72 = .ok (.aload_n 0, 1) := by decide +kernel
theorem dX3_weighedOut_73 : decode cX3_weighedOut 73 = .ok (.getfield 22, 3) := by decide +kernel
theorem dX3_weighedOut_76 : decode cX3_weighedOut 76 = .ok (.iload_n 2, 1) := by decide +kernel
theorem dX3_weighedOut_77 : decode cX3_weighedOut 77 = .ok (.iload 5, 2) := by decide +kernel
theorem dX3_weighedOut_79 : decode cX3_weighedOut 79 = .ok (.ifCond .lt 8, 3) := by decide +kernel
theorem dX3_weighedOut_82 : decode cX3_weighedOut 82 = .ok (.iload 5, 2) := by decide +kernel
theorem dX3_weighedOut_84 : decode cX3_weighedOut 84 = .ok (.goto 12, 3) := by decide +kernel
theorem dX3_weighedOut_87 : decode cX3_weighedOut 87 = .ok (.aload_n 0, 1) := by decide +kernel
theorem dX3_weighedOut_88 : decode cX3_weighedOut 88 = .ok (.getfield 19, 3) := by decide +kernel
theorem dX3_weighedOut_91 : decode cX3_weighedOut 91 = .ok (.iconst (-1), 1) := by decide +kernel
theorem dX3_weighedOut_92 : decode cX3_weighedOut 92 = .ok (.iload 5, 2) := by decide +kernel
theorem dX3_weighedOut_94 : decode cX3_weighedOut 94 = .ok (.isub, 1) := by decide +kernel
theorem dX3_weighedOut_95 : decode cX3_weighedOut 95 = .ok (.iaload, 1) := by decide +kernel
theorem dX3_weighedOut_96 : decode cX3_weighedOut 96 = .ok (.iastore, 1) := by decide +kernel
theorem dX3_weighedOut_97 : decode cX3_weighedOut 97 = .ok (.goto 153, 3) := by decide +kernel
theorem dX3_weighedOut_100 : decode cX3_weighedOut 100 = .ok (.iload_n 2, 1) := by decide +kernel
theorem dX3_weighedOut_101 : decode cX3_weighedOut 101 = .ok (.ifCond .ge 5, 3) := by decide +kernel
theorem dX3_weighedOut_104 : decode cX3_weighedOut 104 = .ok (.iconst 0, 1) := by decide +kernel
theorem dX3_weighedOut_105 : decode cX3_weighedOut 105 = .ok (.ireturn, 1) := by decide +kernel
theorem dX3_weighedOut_106 : decode cX3_weighedOut 106 = .ok (.iload 5, 2) := by decide +kernel
theorem dX3_weighedOut_108 : decode cX3_weighedOut 108 = .ok (.bipush (-59), 2) := by decide +kernel
theorem dX3_weighedOut_110 : decode cX3_weighedOut 110 = .ok (.if_icmp .ne 25, 3) := by decide +kernel
theorem dX3_weighedOut_113 : decode cX3_weighedOut 113 = .ok (.iload_n 3, 1) := by decide +kernel
theorem dX3_weighedOut_114 : decode cX3_weighedOut 114 = .ok (.ifCond .eq 13, 3) := by decide +kernel
theorem dX3_weighedOut_117 : decode cX3_weighedOut 117 = .ok (.aload_n 0, 1) := by decide +kernel
theorem dX3_weighedOut_118 : decode cX3_weighedOut 118 = .ok (.getfield 22, 3) := by decide +kernel
theorem dX3_weighedOut_121 : decode cX3_weighedOut 121 = .ok (.iload_n 2, 1) := by decide +kernel
theorem dX3_weighedOut_122 : decode cX3_weighedOut 122 = .ok (.iaload, 1) := by decide +kernel
theorem dX3_weighedOut_123 : decode cX3_weighedOut 123 = .ok (.invokestatic 39, 3) := by decide +kernel
theorem dX3_weighedOut_126 : decode cX3_weighedOut 126 = .ok (.ireturn, 1) := by decide +kernel
theorem dX3_weighedOut_127 : decode cX3_weighedOut 127 = .ok (.iinc 2 (-1), 3) := by decide +kernel
theorem dX3_weighedOut_130 : decode cX3_weighedOut 130 = .ok (.iconst 1, 1) := by decide +kernel
theorem dX3_weighedOut_131 : decode cX3_weighedOut 131 = .ok (.istore_n 3, 1) := by decide +kernel
theorem dX3_weighedOut_132 : decode cX3_weighedOut 132 = .ok (.goto 118, 3) := by decide +kernel
theorem dX3_weighedOut_135 : decode cX3_weighedOut 135 = .ok (.iload 5, 2) := by decide +kernel
theorem dX3_weighedOut_137 : decode cX3_weighedOut 137 = .ok (.bipush (-63), 2) := by decide +kernel
theorem dX3_weighedOut_139 : decode cX3_weighedOut 139 = .ok (.if_icmp .ne 24, 3) := by decide +kernel
theorem dX3_weighedOut_142 : decode cX3_weighedOut 142 = .ok (.aload_n 0, 1) := by decide +kernel
theorem dX3_weighedOut_143 : decode cX3_weighedOut 143 = .ok (.getfield 22, 3) := by decide +kernel
theorem dX3_weighedOut_146 : decode cX3_weighedOut 146 = .ok (.iload_n 2, 1) := by decide +kernel
theorem dX3_weighedOut_147 : decode cX3_weighedOut 147 = .ok (.iaload, 1) := by decide +kernel
theorem dX3_weighedOut_148 : decode cX3_weighedOut 148 = .ok (.ifCond .eq 7, 3) := by decide +kernel
theorem dX3_weighedOut_151 : decode cX3_weighedOut 151 = .ok (.iconst 1, 1) := by decide +kernel
theorem dX3_weighedOut_152 : decode cX3_weighedOut 152 = .ok (.goto 4, 3) := by decide +kernel
theorem dX3_weighedOut_155 : decode cX3_weighedOut 155 = .ok (.iconst 0, 1) := by decide +kernel
theorem dX3_weighedOut_156 : decode cX3_weighedOut 156 = .ok (.istore_n 3, 1) := by decide +kernel
theorem dX3_weighedOut_157 : decode cX3_weighedOut 157 = .ok (.iinc 2 (-1), 3) := by decide +kernel
theorem dX3_weighedOut_160 : decode cX3_weighedOut 160 = .ok (.goto 90, 3) := by decide +kernel
theorem dX3_weighedOut_163 : decode cX3_weighedOut 163 = .ok (.iload 5, 2) := by decide +kernel
theorem dX3_weighedOut_165 : decode cX3_weighedOut 165 = .ok (.bipush (-126), 2) := by decide +kernel
theorem dX3_weighedOut_167 : decode cX3_weighedOut 167 = .ok (.if_icmp .ne 19, 3) := by decide +kernel
theorem dX3_weighedOut_170 : decode cX3_weighedOut 170 = .ok (.aload_n 0, 1) := by decide +kernel
theorem dX3_weighedOut_171 : decode cX3_weighedOut 171 = .ok (.getfield 22, 3) := by decide +kernel
theorem dX3_weighedOut_174 : decode cX3_weighedOut 174 = .ok (.iload_n 2, 1) := by decide +kernel
theorem dX3_weighedOut_175 : decode cX3_weighedOut 175 = .ok (.aload_n 0, 1) := by decide +kernel
theorem dX3_weighedOut_176 : decode cX3_weighedOut 176 = .ok (.getfield 22, 3) := by decide +kernel
theorem dX3_weighedOut_179 : decode cX3_weighedOut 179 = .ok (.iload_n 2, 1) := by decide +kernel
theorem dX3_weighedOut_180 : decode cX3_weighedOut 180 = .ok (.iaload, 1) := by decide +kernel
theorem dX3_weighedOut_181 : decode cX3_weighedOut 181 = .ok (.ineg, 1) := by decide +kernel
theorem dX3_weighedOut_182 : decode cX3_weighedOut 182 = .ok (.iastore, 1) := by decide +kernel
theorem dX3_weighedOut_183 : decode cX3_weighedOut 183 = .ok (.goto 67, 3) := by decide +kernel
theorem dX3_weighedOut_186 : decode cX3_weighedOut 186 = .ok (.iload 5, 2) := by decide +kernel
theorem dX3_weighedOut_188 : decode cX3_weighedOut 188 = .ok (.bipush (-33), 2) := by decide +kernel
theorem dX3_weighedOut_190 : decode cX3_weighedOut 190 = .ok (.if_icmp .ne 26, 3) := by decide +kernel
theorem dX3_weighedOut_193 : decode cX3_weighedOut 193 = .ok (.aload_n 0, 1) := by decide +kernel
theorem dX3_weighedOut_194 : decode cX3_weighedOut 194 = .ok (.getfield 22, 3) := by decide +kernel
theorem dX3_weighedOut_197 : decode cX3_weighedOut 197 = .ok (.iload_n 2, 1) := by decide +kernel
theorem dX3_weighedOut_198 : decode cX3_weighedOut 198 = .ok (.aload_n 0, 1) := by decide +kernel
theorem dX3_weighedOut_199 : decode cX3_weighedOut 199 = .ok (.getfield 22, 3) := by decide +kernel
theorem dX3_weighedOut_202 : decode cX3_weighedOut 202 = .ok (.iload_n 2, 1) := by decide +kernel
theorem dX3_weighedOut_203 : decode cX3_weighedOut 203 = .ok (.iaload, 1) := by decide +kernel
theorem dX3_weighedOut_204 : decode cX3_weighedOut 204 = .ok (.ifCond .ne 7, 3) := by decide +kernel
theorem dX3_weighedOut_207 : decode cX3_weighedOut 207 = .ok (.iconst 1, 1) := by decide +kernel
theorem dX3_weighedOut_208 : decode cX3_weighedOut 208 = .ok (.goto 4, 3) := by decide +kernel
theorem dX3_weighedOut_211 : decode cX3_weighedOut 211 = .ok (.iconst 0, 1) := by decide +kernel
theorem dX3_weighedOut_212 : decode cX3_weighedOut 212 = .ok (.iastore, 1) := by decide +kernel
theorem dX3_weighedOut_213 : decode cX3_weighedOut 213 = .ok (.goto 37, 3) := by decide +kernel
theorem dX3_weighedOut_216 : decode cX3_weighedOut 216 = .ok (.iload_n 2, 1) := by decide +kernel
theorem dX3_weighedOut_217 : decode cX3_weighedOut 217 = .ok (.iconst 1, 1) := by decide +kernel
theorem dX3_weighedOut_218 : decode cX3_weighedOut 218 = .ok (.if_icmp .lt 32, 3) := by decide +kernel
theorem dX3_weighedOut_221 : decode cX3_weighedOut 221 = .ok (.iinc 2 (-1), 3) := by decide +kernel
theorem dX3_weighedOut_224 : decode cX3_weighedOut 224 = .ok (.aload_n 0, 1) := by decide +kernel
theorem dX3_weighedOut_225 : decode cX3_weighedOut 225 = .ok (.getfield 22, 3) := by decide +kernel
theorem dX3_weighedOut_228 : decode cX3_weighedOut 228 = .ok (.iload_n 2, 1) := by decide +kernel
theorem dX3_weighedOut_229 : decode cX3_weighedOut 229 = .ok (.iload 5, 2) := by decide +kernel
theorem dX3_weighedOut_231 : decode cX3_weighedOut 231 = .ok (.ineg, 1) := by decide +kernel
theorem dX3_weighedOut_232 : decode cX3_weighedOut 232 = .ok (.aload_n 0, 1) := by decide +kernel
theorem dX3_weighedOut_233 : decode cX3_weighedOut 233 = .ok (.getfield 22, 3) := by decide +kernel
theorem dX3_weighedOut_236 : decode cX3_weighedOut 236 = .ok (.iload_n 2, 1) := by decide +kernel
theorem dX3_weighedOut_237 : decode cX3_weighedOut 237 = .ok (.iaload, 1) := by decide +kernel
theorem dX3_weighedOut_238 : decode cX3_weighedOut 238 = .ok (.aload_n 0, 1) := by decide +kernel
theorem dX3_weighedOut_239 : decode cX3_weighedOut 239 = .ok (.getfield 22, 3) := by decide +kernel
theorem dX3_weighedOut_242 : decode cX3_weighedOut 242 = .ok (.iload_n 2, 1) := by decide +kernel
theorem dX3_weighedOut_243 : decode cX3_weighedOut 243 = .ok (.iconst 1, 1) := by decide +kernel
theorem dX3_weighedOut_244 : decode cX3_weighedOut 244 = .ok (.iadd, 1) := by decide +kernel
theorem dX3_weighedOut_245 : decode cX3_weighedOut 245 = .ok (.iaload, 1) := by decide +kernel
theorem dX3_weighedOut_246 : decode cX3_weighedOut 246 = .ok (.invokestatic 43, 3) := by decide +kernel
theorem dX3_weighedOut_249 : decode cX3_weighedOut 249 = .ok (.iastore, 1) := by decide +kernel
theorem dX3_weighedOut_250 : decode cX3_weighedOut 250 = .ok (.iinc 4 1, 3) := by decide +kernel
theorem dX3_weighedOut_253 : decode cX3_weighedOut 253 = .ok (.goto (-217), 3) := by decide +kernel
theorem dX3_weighedOut_256 : decode cX3_weighedOut 256 = .ok (.iconst 0, 1) := by decide +kernel
theorem dX3_weighedOut_257 : decode cX3_weighedOut 257 = .ok (.ireturn, 1) := by decide +kernel
theorem dX3_held_0 : decode cX3_held 0 = .ok (.iload_n 0, 1) := by decide +kernel
theorem dX3_held_1 : decode cX3_held 1 = .ok (.ifCond .ge 7, 3) := by decide +kernel
theorem dX3_held_4 : decode cX3_held 4 = .ok (.iconst 0, 1) := by decide +kernel
theorem dX3_held_5 : decode cX3_held 5 = .ok (.goto 15, 3) := by decide +kernel
theorem dX3_held_8 : decode cX3_held 8 = .ok (.iload_n 0, 1) := by decide +kernel
theorem dX3_held_9 : decode cX3_held 9 = .ok (.bipush 50, 2) := by decide +kernel
theorem dX3_held_11 : decode cX3_held 11 = .ok (.if_icmp .le 8, 3) := by decide +kernel
theorem dX3_held_14 : decode cX3_held 14 = .ok (.bipush 50, 2) := by decide +kernel
theorem dX3_held_16 : decode cX3_held 16 = .ok (.goto 4, 3) := by decide +kernel
theorem dX3_held_19 : decode cX3_held 19 = .ok (.iload_n 0, 1) := by decide +kernel
theorem dX3_held_20 : decode cX3_held 20 = .ok (.ireturn, 1) := by decide +kernel
theorem dX3_joined_0 : decode cX3_joined 0 = .ok (.iload_n 0, 1) := by decide +kernel
theorem dX3_joined_1 : decode cX3_joined 1 = .ok (.lookupswitch 188 #[(37, 176), (38, 105), (42, 160), (43, 152), (45, 156), (47, 164), (60, 119), (61, 130), (62, 141), (124, 91)], 91) := by decide +kernel
theorem dX3_joined_92 : decode cX3_joined 92 = .ok (.iload_n 1, 1) := by decide +kernel
theorem dX3_joined_93 : decode cX3_joined 93 = .ok (.ifCond .ne 7, 3) := by decide +kernel
theorem dX3_joined_96 : decode cX3_joined 96 = .ok (.iload_n 2, 1) := by decide +kernel
theorem dX3_joined_97 : decode cX3_joined 97 = .ok (.ifCond .eq 7, 3) := by decide +kernel
theorem dX3_joined_100 : decode cX3_joined 100 = .ok (.iconst 1, 1) := by decide +kernel
theorem dX3_joined_101 : decode cX3_joined 101 = .ok (.goto 4, 3) := by decide +kernel
theorem dX3_joined_104 : decode cX3_joined 104 = .ok (.iconst 0, 1) := by decide +kernel
theorem dX3_joined_105 : decode cX3_joined 105 = .ok (.ireturn, 1) := by decide +kernel
theorem dX3_joined_106 : decode cX3_joined 106 = .ok (.iload_n 1, 1) := by decide +kernel
theorem dX3_joined_107 : decode cX3_joined 107 = .ok (.ifCond .eq 11, 3) := by decide +kernel
theorem dX3_joined_110 : decode cX3_joined 110 = .ok (.iload_n 2, 1) := by decide +kernel
theorem dX3_joined_111 : decode cX3_joined 111 = .ok (.ifCond .eq 7, 3) := by decide +kernel
theorem dX3_joined_114 : decode cX3_joined 114 = .ok (.iconst 1, 1) := by decide +kernel
theorem dX3_joined_115 : decode cX3_joined 115 = .ok (.goto 4, 3) := by decide +kernel
theorem dX3_joined_118 : decode cX3_joined 118 = .ok (.iconst 0, 1) := by decide +kernel
theorem dX3_joined_119 : decode cX3_joined 119 = .ok (.ireturn, 1) := by decide +kernel
theorem dX3_joined_120 : decode cX3_joined 120 = .ok (.iload_n 1, 1) := by decide +kernel
theorem dX3_joined_121 : decode cX3_joined 121 = .ok (.iload_n 2, 1) := by decide +kernel
theorem dX3_joined_122 : decode cX3_joined 122 = .ok (.if_icmp .ge 7, 3) := by decide +kernel
theorem dX3_joined_125 : decode cX3_joined 125 = .ok (.iconst 1, 1) := by decide +kernel
theorem dX3_joined_126 : decode cX3_joined 126 = .ok (.goto 4, 3) := by decide +kernel
theorem dX3_joined_129 : decode cX3_joined 129 = .ok (.iconst 0, 1) := by decide +kernel
theorem dX3_joined_130 : decode cX3_joined 130 = .ok (.ireturn, 1) := by decide +kernel
theorem dX3_joined_131 : decode cX3_joined 131 = .ok (.iload_n 1, 1) := by decide +kernel
theorem dX3_joined_132 : decode cX3_joined 132 = .ok (.iload_n 2, 1) := by decide +kernel
theorem dX3_joined_133 : decode cX3_joined 133 = .ok (.if_icmp .ne 7, 3) := by decide +kernel
theorem dX3_joined_136 : decode cX3_joined 136 = .ok (.iconst 1, 1) := by decide +kernel
theorem dX3_joined_137 : decode cX3_joined 137 = .ok (.goto 4, 3) := by decide +kernel
theorem dX3_joined_140 : decode cX3_joined 140 = .ok (.iconst 0, 1) := by decide +kernel
theorem dX3_joined_141 : decode cX3_joined 141 = .ok (.ireturn, 1) := by decide +kernel
theorem dX3_joined_142 : decode cX3_joined 142 = .ok (.iload_n 1, 1) := by decide +kernel
theorem dX3_joined_143 : decode cX3_joined 143 = .ok (.iload_n 2, 1) := by decide +kernel
theorem dX3_joined_144 : decode cX3_joined 144 = .ok (.if_icmp .le 7, 3) := by decide +kernel
theorem dX3_joined_147 : decode cX3_joined 147 = .ok (.iconst 1, 1) := by decide +kernel
theorem dX3_joined_148 : decode cX3_joined 148 = .ok (.goto 4, 3) := by decide +kernel
theorem dX3_joined_151 : decode cX3_joined 151 = .ok (.iconst 0, 1) := by decide +kernel
theorem dX3_joined_152 : decode cX3_joined 152 = .ok (.ireturn, 1) := by decide +kernel
theorem dX3_joined_153 : decode cX3_joined 153 = .ok (.iload_n 1, 1) := by decide +kernel
theorem dX3_joined_154 : decode cX3_joined 154 = .ok (.iload_n 2, 1) := by decide +kernel
theorem dX3_joined_155 : decode cX3_joined 155 = .ok (.iadd, 1) := by decide +kernel
theorem dX3_joined_156 : decode cX3_joined 156 = .ok (.ireturn, 1) := by decide +kernel
theorem dX3_joined_157 : decode cX3_joined 157 = .ok (.iload_n 1, 1) := by decide +kernel
theorem dX3_joined_158 : decode cX3_joined 158 = .ok (.iload_n 2, 1) := by decide +kernel
theorem dX3_joined_159 : decode cX3_joined 159 = .ok (.isub, 1) := by decide +kernel
theorem dX3_joined_160 : decode cX3_joined 160 = .ok (.ireturn, 1) := by decide +kernel
theorem dX3_joined_161 : decode cX3_joined 161 = .ok (.iload_n 1, 1) := by decide +kernel
theorem dX3_joined_162 : decode cX3_joined 162 = .ok (.iload_n 2, 1) := by decide +kernel
theorem dX3_joined_163 : decode cX3_joined 163 = .ok (.imul, 1) := by decide +kernel
theorem dX3_joined_164 : decode cX3_joined 164 = .ok (.ireturn, 1) := by decide +kernel
theorem dX3_joined_165 : decode cX3_joined 165 = .ok (.iload_n 2, 1) := by decide +kernel
theorem dX3_joined_166 : decode cX3_joined 166 = .ok (.ifCond .ne 7, 3) := by decide +kernel
theorem dX3_joined_169 : decode cX3_joined 169 = .ok (.iconst 0, 1) := by decide +kernel
theorem dX3_joined_170 : decode cX3_joined 170 = .ok (.goto 6, 3) := by decide +kernel
theorem dX3_joined_173 : decode cX3_joined 173 = .ok (.iload_n 1, 1) := by decide +kernel
theorem dX3_joined_174 : decode cX3_joined 174 = .ok (.iload_n 2, 1) := by decide +kernel
theorem dX3_joined_175 : decode cX3_joined 175 = .ok (.idiv, 1) := by decide +kernel
theorem dX3_joined_176 : decode cX3_joined 176 = .ok (.ireturn, 1) := by decide +kernel
theorem dX3_joined_177 : decode cX3_joined 177 = .ok (.iload_n 2, 1) := by decide +kernel
theorem dX3_joined_178 : decode cX3_joined 178 = .ok (.ifCond .ne 7, 3) := by decide +kernel
theorem dX3_joined_181 : decode cX3_joined 181 = .ok (.iconst 0, 1) := by decide +kernel
theorem dX3_joined_182 : decode cX3_joined 182 = .ok (.goto 6, 3) := by decide +kernel
theorem dX3_joined_185 : decode cX3_joined 185 = .ok (.iload_n 1, 1) := by decide +kernel
theorem dX3_joined_186 : decode cX3_joined 186 = .ok (.iload_n 2, 1) := by decide +kernel
theorem dX3_joined_187 : decode cX3_joined 187 = .ok (.irem, 1) := by decide +kernel
theorem dX3_joined_188 : decode cX3_joined 188 = .ok (.ireturn, 1) := by decide +kernel
theorem dX3_joined_189 : decode cX3_joined 189 = .ok (.iconst 0, 1) := by decide +kernel
theorem dX3_joined_190 : decode cX3_joined 190 = .ok (.ireturn, 1) := by decide +kernel
theorem dX4_init_0 : decode cX4_init 0 = .ok (.aload_n 0, 1) := by decide +kernel
theorem dX4_init_1 : decode cX4_init 1 = .ok (.invokespecial 5, 3) := by decide +kernel
theorem dX4_init_4 : decode cX4_init 4 = .ok (.aload_n 0, 1) := by decide +kernel
theorem dX4_init_5 : decode cX4_init 5 = .ok (.sipush 161, 3) := by decide +kernel
theorem dX4_init_8 : decode cX4_init 8 = .ok (.newarray .int, 2) := by decide +kernel
theorem dX4_init_10 : decode cX4_init 10 = .ok (.putfield 11, 3) := by decide +kernel
theorem dX4_init_13 : decode cX4_init 13 = .ok (.aload_n 0, 1) := by decide +kernel
theorem dX4_init_14 : decode cX4_init 14 = .ok (.iconst 0, 1) := by decide +kernel
theorem dX4_init_15 : decode cX4_init 15 = .ok (.putfield 15, 3) := by decide +kernel
theorem dX4_init_18 : decode cX4_init 18 = .ok (.aload_n 0, 1) := by decide +kernel
theorem dX4_init_19 : decode cX4_init 19 = .ok (.sipush 160, 3) := by decide +kernel
theorem dX4_init_22 : decode cX4_init 22 = .ok (.newarray .int, 2) := by decide +kernel
theorem dX4_init_24 : decode cX4_init 24 = .ok (.putfield 19, 3) := by decide +kernel
theorem dX4_init_27 : decode cX4_init 27 = .ok (.aload_n 0, 1) := by decide +kernel
theorem dX4_init_28 : decode cX4_init 28 = .ok (.iconst 0, 1) := by decide +kernel
theorem dX4_init_29 : decode cX4_init 29 = .ok (.putfield 22, 3) := by decide +kernel
theorem dX4_init_32 : decode cX4_init 32 = .ok (.aload_n 0, 1) := by decide +kernel
theorem dX4_init_33 : decode cX4_init 33 = .ok (.iconst 0, 1) := by decide +kernel
theorem dX4_init_34 : decode cX4_init 34 = .ok (.putfield 25, 3) := by decide +kernel
theorem dX4_init_37 : decode cX4_init 37 = .ok (.return_, 1) := by decide +kernel
theorem dX4_take_0 : decode cX4_take 0 = .ok (.aload_n 0, 1) := by decide +kernel
theorem dX4_take_1 : decode cX4_take 1 = .ok (.getfield 22, 3) := by decide +kernel
theorem dX4_take_4 : decode cX4_take 4 = .ok (.sipush 160, 3) := by decide +kernel
theorem dX4_take_7 : decode cX4_take 7 = .ok (.if_icmp .lt 6, 3) := by decide +kernel
theorem dX4_take_10 : decode cX4_take 10 = .ok (.bipush (-3), 2) := by decide +kernel
theorem dX4_take_12 : decode cX4_take 12 = .ok (.ireturn, 1) := by decide +kernel
theorem dX4_take_13 : decode cX4_take 13 = .ok (.aload_n 0, 1) := by decide +kernel
theorem dX4_take_14 : decode cX4_take 14 = .ok (.getfield 19, 3) := by decide +kernel
theorem dX4_take_17 : decode cX4_take 17 = .ok (.aload_n 0, 1) := by decide +kernel
theorem dX4_take_18 : decode cX4_take 18 = .ok (.getfield 22, 3) := by decide +kernel
theorem dX4_take_21 : decode cX4_take 21 = .ok (.iload_n 1, 1) := by decide +kernel
theorem dX4_take_22 : decode cX4_take 22 = .ok (.iastore, 1) := by decide +kernel
theorem dX4_take_23 : decode cX4_take 23 = .ok (.aload_n 0, 1) := by decide +kernel
theorem dX4_take_24 : decode cX4_take 24 = .ok (.dup, 1) := by decide +kernel
theorem dX4_take_25 : decode cX4_take 25 = .ok (.getfield 22, 3) := by decide +kernel
theorem dX4_take_28 : decode cX4_take 28 = .ok (.iconst 1, 1) := by decide +kernel
theorem dX4_take_29 : decode cX4_take 29 = .ok (.iadd, 1) := by decide +kernel
theorem dX4_take_30 : decode cX4_take 30 = .ok (.putfield 22, 3) := by decide +kernel
theorem dX4_take_33 : decode cX4_take 33 = .ok (.aload_n 0, 1) := by decide +kernel
theorem dX4_take_34 : decode cX4_take 34 = .ok (.getfield 22, 3) := by decide +kernel
theorem dX4_take_37 : decode cX4_take 37 = .ok (.ireturn, 1) := by decide +kernel
theorem dX4_length_0 : decode cX4_length 0 = .ok (.aload_n 0, 1) := by decide +kernel
theorem dX4_length_1 : decode cX4_length 1 = .ok (.getfield 22, 3) := by decide +kernel
theorem dX4_length_4 : decode cX4_length 4 = .ok (.ireturn, 1) := by decide +kernel
theorem dX4_clear_0 : decode cX4_clear 0 = .ok (.aload_n 0, 1) := by decide +kernel
theorem dX4_clear_1 : decode cX4_clear 1 = .ok (.iconst 0, 1) := by decide +kernel
theorem dX4_clear_2 : decode cX4_clear 2 = .ok (.putfield 22, 3) := by decide +kernel
theorem dX4_clear_5 : decode cX4_clear 5 = .ok (.return_, 1) := by decide +kernel
theorem dX4_read_0 : decode cX4_read 0 = .ok (.aload_n 0, 1) := by decide +kernel
theorem dX4_read_1 : decode cX4_read 1 = .ok (.iconst 0, 1) := by decide +kernel
theorem dX4_read_2 : decode cX4_read 2 = .ok (.putfield 25, 3) := by decide +kernel
theorem dX4_read_5 : decode cX4_read 5 = .ok (.aload_n 0, 1) := by decide +kernel
theorem dX4_read_6 : decode cX4_read 6 = .ok (.iconst 0, 1) := by decide +kernel
theorem dX4_read_7 : decode cX4_read 7 = .ok (.putfield 15, 3) := by decide +kernel
theorem dX4_read_10 : decode cX4_read 10 = .ok (.iconst 0, 1) := by decide +kernel
theorem dX4_read_11 : decode cX4_read 11 = .ok (.istore_n 1, 1) := by decide +kernel
theorem dX4_read_12 : decode cX4_read 12 = .ok (.iload_n 1, 1) := by decide +kernel
theorem dX4_read_13 : decode cX4_read 13 = .ok (.sipush 160, 3) := by decide +kernel
theorem dX4_read_16 : decode cX4_read 16 = .ok (.if_icmp .gt 57, 3) := by decide +kernel
theorem dX4_read_19 : decode cX4_read 19 = .ok (.aload_n 0, 1) := by decide +kernel
theorem dX4_read_20 : decode cX4_read 20 = .ok (.invokevirtual 28, 3) := by decide +kernel
theorem dX4_read_23 : decode cX4_read 23 = .ok (.ifCond .ne 8, 3) := by decide +kernel
theorem dX4_read_26 : decode cX4_read 26 = .ok (.aload_n 0, 1) := by decide +kernel
theorem dX4_read_27 : decode cX4_read 27 = .ok (.getfield 25, 3) := by decide +kernel
theorem dX4_read_30 : decode cX4_read 30 = .ok (.ireturn, 1) := by decide +kernel
theorem dX4_read_31 : decode cX4_read 31 = .ok (.aload_n 0, 1) := by decide +kernel
theorem dX4_read_32 : decode cX4_read 32 = .ok (.invokevirtual 32, 3) := by decide +kernel
theorem dX4_read_35 : decode cX4_read 35 = .ok (.bipush 59, 2) := by decide +kernel
theorem dX4_read_37 : decode cX4_read 37 = .ok (.if_icmp .eq 20, 3) := by decide +kernel
theorem dX4_read_40 : decode cX4_read 40 = .ok (.aload_n 0, 1) := by decide +kernel
theorem dX4_read_41 : decode cX4_read 41 = .ok (.invokevirtual 32, 3) := by decide +kernel
theorem dX4_read_44 : decode cX4_read 44 = .ok (.iconst (-1), 1) := by decide +kernel
theorem dX4_read_45 : decode cX4_read 45 = .ok (.if_icmp .ne 7, 3) := by decide +kernel
theorem dX4_read_48 : decode cX4_read 48 = .ok (.iconst (-1), 1) := by decide +kernel
theorem dX4_read_49 : decode cX4_read 49 = .ok (.goto 7, 3) := by decide +kernel
theorem dX4_read_52 : decode cX4_read 52 = .ok (.aload_n 0, 1) := by decide +kernel
theorem dX4_read_53 : decode cX4_read 53 = .ok (.getfield 25, 3) := by decide +kernel
theorem dX4_read_56 : decode cX4_read 56 = .ok (.ireturn, 1) := by decide +kernel
theorem dX4_read_57 : decode cX4_read 57 = .ok (.aload_n 0, 1) := by decide +kernel
theorem dX4_read_58 : decode cX4_read 58 = .ok (.dup, 1) := by decide +kernel
theorem dX4_read_59 : decode cX4_read 59 = .ok (.getfield 25, 3) := by decide +kernel
theorem dX4_read_62 : decode cX4_read 62 = .ok (.iconst 1, 1) := by decide +kernel
theorem dX4_read_63 : decode cX4_read 63 = .ok (.iadd, 1) := by decide +kernel
theorem dX4_read_64 : decode cX4_read 64 = .ok (.putfield 25, 3) := by decide +kernel
theorem dX4_read_67 : decode cX4_read 67 = .ok (.iinc 1 1, 3) := by decide +kernel
theorem dX4_read_70 : decode cX4_read 70 = .ok (.goto (-58), 3) := by decide +kernel
theorem dX4_read_73 : decode cX4_read 73 = .ok (.aload_n 0, 1) := by decide +kernel
theorem dX4_read_74 : decode cX4_read 74 = .ok (.getfield 25, 3) := by decide +kernel
theorem dX4_read_77 : decode cX4_read 77 = .ok (.ireturn, 1) := by decide +kernel
theorem dX4_readLine_0 : decode cX4_readLine 0 = .ok (.aload_n 0, 1) := by decide +kernel
theorem dX4_readLine_1 : decode cX4_readLine 1 = .ok (.iconst 0, 1) := by decide +kernel
theorem dX4_readLine_2 : decode cX4_readLine 2 = .ok (.iconst 0, 1) := by decide +kernel
theorem dX4_readLine_3 : decode cX4_readLine 3 = .ok (.invokevirtual 36, 3) := by decide +kernel
theorem dX4_readLine_6 : decode cX4_readLine 6 = .ok (.ifCond .ne 5, 3) := by decide +kernel
theorem dX4_readLine_9 : decode cX4_readLine 9 = .ok (.iconst 0, 1) := by decide +kernel
theorem dX4_readLine_10 : decode cX4_readLine 10 = .ok (.ireturn, 1) := by decide +kernel
theorem dX4_readLine_11 : decode cX4_readLine 11 = .ok (.aload_n 0, 1) := by decide +kernel
theorem dX4_readLine_12 : decode cX4_readLine 12 = .ok (.invokevirtual 32, 3) := by decide +kernel
theorem dX4_readLine_15 : decode cX4_readLine 15 = .ok (.bipush 63, 2) := by decide +kernel
theorem dX4_readLine_17 : decode cX4_readLine 17 = .ok (.if_icmp .ne 30, 3) := by decide +kernel
theorem dX4_readLine_20 : decode cX4_readLine 20 = .ok (.aload_n 0, 1) := by decide +kernel
theorem dX4_readLine_21 : decode cX4_readLine 21 = .ok (.dup, 1) := by decide +kernel
theorem dX4_readLine_22 : decode cX4_readLine 22 = .ok (.getfield 25, 3) := by decide +kernel
theorem dX4_readLine_25 : decode cX4_readLine 25 = .ok (.iconst 1, 1) := by decide +kernel
theorem dX4_readLine_26 : decode cX4_readLine 26 = .ok (.iadd, 1) := by decide +kernel
theorem dX4_readLine_27 : decode cX4_readLine 27 = .ok (.putfield 25, 3) := by decide +kernel
theorem dX4_readLine_30 : decode cX4_readLine 30 = .ok (.aload_n 0, 1) := by decide +kernel
theorem dX4_readLine_31 : decode cX4_readLine 31 = .ok (.bipush (-63), 2) := by decide +kernel
theorem dX4_readLine_33 : decode cX4_readLine 33 = .ok (.invokevirtual 40, 3) := by decide +kernel
theorem dX4_readLine_36 : decode cX4_readLine 36 = .ok (.aload_n 0, 1) := by decide +kernel
theorem dX4_readLine_37 : decode cX4_readLine 37 = .ok (.iconst 0, 1) := by decide +kernel
theorem dX4_readLine_38 : decode cX4_readLine 38 = .ok (.iconst 0, 1) := by decide +kernel
theorem dX4_readLine_39 : decode cX4_readLine 39 = .ok (.invokevirtual 36, 3) := by decide +kernel
theorem dX4_readLine_42 : decode cX4_readLine 42 = .ok (.ifCond .ne 5, 3) := by decide +kernel
theorem dX4_readLine_45 : decode cX4_readLine 45 = .ok (.iconst 0, 1) := by decide +kernel
theorem dX4_readLine_46 : decode cX4_readLine 46 = .ok (.ireturn, 1) := by decide +kernel
theorem dX4_readLine_47 : decode cX4_readLine 47 = .ok (.aload_n 0, 1) := by decide +kernel
theorem dX4_readLine_48 : decode cX4_readLine 48 = .ok (.bipush (-59), 2) := by decide +kernel
theorem dX4_readLine_50 : decode cX4_readLine 50 = .ok (.invokevirtual 40, 3) := by decide +kernel
theorem dX4_readLine_53 : decode cX4_readLine 53 = .ok (.iconst 1, 1) := by decide +kernel
theorem dX4_readLine_54 : decode cX4_readLine 54 = .ok (.ireturn, 1) := by decide +kernel
theorem dX4_readLevel_0 : decode cX4_readLevel 0 = .ok (.iload_n 1, 1) := by decide +kernel
theorem dX4_readLevel_1 : decode cX4_readLevel 1 = .ok (.iconst 5, 1) := by decide +kernel
theorem dX4_readLevel_2 : decode cX4_readLevel 2 = .ok (.if_icmp .lt 9, 3) := by decide +kernel
theorem dX4_readLevel_5 : decode cX4_readLevel 5 = .ok (.aload_n 0, 1) := by decide +kernel
theorem dX4_readLevel_6 : decode cX4_readLevel 6 = .ok (.iload_n 2, 1) := by decide +kernel
theorem dX4_readLevel_7 : decode cX4_readLevel 7 = .ok (.invokevirtual 44, 3) := by decide +kernel
theorem dX4_readLevel_10 : decode cX4_readLevel 10 = .ok (.ireturn, 1) := by decide +kernel
theorem dX4_readLevel_11 : decode cX4_readLevel 11 = .ok (.aload_n 0, 1) := by decide +kernel
theorem dX4_readLevel_12 : decode cX4_readLevel 12 = .ok (.iload_n 1, 1) := by decide +kernel
theorem dX4_readLevel_13 : decode cX4_readLevel 13 = .ok (.iconst 1, 1) := by decide +kernel
theorem dX4_readLevel_14 : decode cX4_readLevel 14 = .ok (.iadd, 1) := by decide +kernel
theorem dX4_readLevel_15 : decode cX4_readLevel 15 = .ok (.iload_n 2, 1) := by decide +kernel
theorem dX4_readLevel_16 : decode cX4_readLevel 16 = .ok (.invokevirtual 36, 3) := by decide +kernel
theorem dX4_readLevel_19 : decode cX4_readLevel 19 = .ok (.ifCond .ne 5, 3) := by decide +kernel
theorem dX4_readLevel_22 : decode cX4_readLevel 22 = .ok (.iconst 0, 1) := by decide +kernel
theorem dX4_readLevel_23 : decode cX4_readLevel 23 = .ok (.ireturn, 1) := by decide +kernel
theorem dX4_readLevel_24 : decode cX4_readLevel 24 = .ok (.iload_n 1, 1) := by decide +kernel
theorem dX4_readLevel_25 : decode cX4_readLevel 25 = .ok (.iconst 2, 1) := by decide +kernel
theorem dX4_readLevel_26 : decode cX4_readLevel 26 = .ok (.if_icmp .ne 7, 3) := by decide +kernel
theorem dX4_readLevel_29 : decode cX4_readLevel 29 = .ok (.iconst 1, 1) := by decide +kernel
theorem dX4_readLevel_30 : decode cX4_readLevel 30 = .ok (.goto 6, 3) := by decide +kernel
theorem dX4_readLevel_33 : decode cX4_readLevel 33 = .ok (.sipush 160, 3) := by decide +kernel
theorem dX4_readLevel_36 : decode cX4_readLevel 36 = .ok (.istore_n 3, 1) := by decide +kernel
theorem dX4_readLevel_37 : decode cX4_readLevel 37 = .ok (.iconst 0, 1) := by decide +kernel
theorem dX4_readLevel_38 : decode cX4_readLevel 38 = .ok (.istore 4, 2) := by decide +kernel
theorem dX4_readLevel_40 : decode cX4_readLevel 40 = .ok (.iload 4, 2) := by decide +kernel
theorem dX4_readLevel_42 : decode cX4_readLevel 42 = .ok (.iload_n 3, 1) := by decide +kernel
theorem dX4_readLevel_43 : decode cX4_readLevel 43 = .ok (.if_icmp .ge 56, 3) := by decide +kernel
theorem dX4_readLevel_46 : decode cX4_readLevel 46 = .ok (.aload_n 0, 1) := by decide +kernel
theorem dX4_readLevel_47 : decode cX4_readLevel 47 = .ok (.invokevirtual 32, 3) := by decide +kernel
theorem dX4_readLevel_50 : decode cX4_readLevel 50 = .ok (.invokestatic 48, 3) := by decide +kernel
theorem dX4_readLevel_53 : decode cX4_readLevel 53 = .ok (.iload_n 1, 1) := by decide +kernel
theorem dX4_readLevel_54 : decode cX4_readLevel 54 = .ok (.if_icmp .ne 45, 3) := by decide +kernel
theorem dX4_readLevel_57 : decode cX4_readLevel 57 = .ok (.aload_n 0, 1) := by decide +kernel
theorem dX4_readLevel_58 : decode cX4_readLevel 58 = .ok (.invokevirtual 32, 3) := by decide +kernel
theorem dX4_readLevel_61 : decode cX4_readLevel 61 = .ok (.istore 5, 2) := by decide +kernel
theorem dX4_readLevel_63 : decode cX4_readLevel 63 = .ok (.aload_n 0, 1) := by decide +kernel
theorem dX4_readLevel_64 : decode cX4_readLevel 64 = .ok (.dup, 1) := by decide +kernel
theorem dX4_readLevel_65 : decode cX4_readLevel 65 = .ok (.getfield 25, 3) := by decide +kernel
theorem dX4_readLevel_68 : decode cX4_readLevel 68 = .ok (.iconst 1, 1) := by decide +kernel
theorem dX4_readLevel_69 : decode cX4_readLevel 69 = .ok (.iadd, 1) := by decide +kernel
theorem dX4_readLevel_70 : decode cX4_readLevel 70 = .ok (.putfield 25, 3) := by decide +kernel
theorem dX4_readLevel_73 : decode cX4_readLevel 73 = .ok (.aload_n 0, 1) := by decide +kernel
theorem dX4_readLevel_74 : decode cX4_readLevel 74 = .ok (.iload_n 1, 1) := by decide +kernel
theorem dX4_readLevel_75 : decode cX4_readLevel 75 = .ok (.iconst 1, 1) := by decide +kernel
theorem dX4_readLevel_76 : decode cX4_readLevel 76 = .ok (.iadd, 1) := by decide +kernel
theorem dX4_readLevel_77 : decode cX4_readLevel 77 = .ok (.iload_n 2, 1) := by decide +kernel
theorem dX4_readLevel_78 : decode cX4_readLevel 78 = .ok (.invokevirtual 36, 3) := by decide +kernel
theorem dX4_readLevel_81 : decode cX4_readLevel 81 = .ok (.ifCond .ne 5, 3) := by decide +kernel
theorem dX4_readLevel_84 : decode cX4_readLevel 84 = .ok (.iconst 0, 1) := by decide +kernel
theorem dX4_readLevel_85 : decode cX4_readLevel 85 = .ok (.ireturn, 1) := by decide +kernel
theorem dX4_readLevel_86 : decode cX4_readLevel 86 = .ok (.aload_n 0, 1) := by decide +kernel
theorem dX4_readLevel_87 : decode cX4_readLevel 87 = .ok (.iload 5, 2) := by decide +kernel
theorem dX4_readLevel_89 : decode cX4_readLevel 89 = .ok (.ineg, 1) := by decide +kernel
theorem dX4_readLevel_90 : decode cX4_readLevel 90 = .ok (.invokevirtual 40, 3) := by decide +kernel
theorem dX4_readLevel_93 : decode cX4_readLevel 93 = .ok (.iinc 4 1, 3) := by decide +kernel
theorem dX4_readLevel_96 : decode cX4_readLevel 96 = .ok (.goto (-56), 3) := by decide +kernel
theorem dX4_readLevel_99 : decode cX4_readLevel 99 = .ok (.iconst 1, 1) := by decide +kernel
theorem dX4_readLevel_100 : decode cX4_readLevel 100 = .ok (.ireturn, 1) := by decide +kernel
theorem dX4_levelOf_0 : decode cX4_levelOf 0 = .ok (.iload_n 0, 1) := by decide +kernel
theorem dX4_levelOf_1 : decode cX4_levelOf 1 = .ok (.lookupswitch 101 #[(37, 99), (38, 93), (42, 99), (43, 97), (45, 97), (47, 99), (60, 95), (61, 95), (62, 95), (124, 91)], 91) := by decide +kernel
theorem dX4_levelOf_92 : decode cX4_levelOf 92 = .ok (.iconst 0, 1) := by decide +kernel
theorem dX4_levelOf_93 : decode cX4_levelOf 93 = .ok (.ireturn, 1) := by decide +kernel
theorem dX4_levelOf_94 : decode cX4_levelOf 94 = .ok (.iconst 1, 1) := by decide +kernel
theorem dX4_levelOf_95 : decode cX4_levelOf 95 = .ok (.ireturn, 1) := by decide +kernel
theorem dX4_levelOf_96 : decode cX4_levelOf 96 = .ok (.iconst 2, 1) := by decide +kernel
theorem dX4_levelOf_97 : decode cX4_levelOf 97 = .ok (.ireturn, 1) := by decide +kernel
theorem dX4_levelOf_98 : decode cX4_levelOf 98 = .ok (.iconst 3, 1) := by decide +kernel
theorem dX4_levelOf_99 : decode cX4_levelOf 99 = .ok (.ireturn, 1) := by decide +kernel
theorem dX4_levelOf_100 : decode cX4_levelOf 100 = .ok (.iconst 4, 1) := by decide +kernel
theorem dX4_levelOf_101 : decode cX4_levelOf 101 = .ok (.ireturn, 1) := by decide +kernel
theorem dX4_levelOf_102 : decode cX4_levelOf 102 = .ok (.iconst 5, 1) := by decide +kernel
theorem dX4_levelOf_103 : decode cX4_levelOf 103 = .ok (.ireturn, 1) := by decide +kernel
theorem dX4_readOperand_0 : decode cX4_readOperand 0 = .ok (.aload_n 0, 1) := by decide +kernel
theorem dX4_readOperand_1 : decode cX4_readOperand 1 = .ok (.invokevirtual 32, 3) := by decide +kernel
theorem dX4_readOperand_4 : decode cX4_readOperand 4 = .ok (.istore_n 2, 1) := by decide +kernel
theorem dX4_readOperand_5 : decode cX4_readOperand 5 = .ok (.iload_n 2, 1) := by decide +kernel
theorem dX4_readOperand_6 : decode cX4_readOperand 6 = .ok (.bipush 40, 2) := by decide +kernel
theorem dX4_readOperand_8 : decode cX4_readOperand 8 = .ok (.if_icmp .eq 15, 3) := by decide +kernel
theorem dX4_readOperand_11 : decode cX4_readOperand 11 = .ok (.iload_n 2, 1) := by decide +kernel
theorem dX4_readOperand_12 : decode cX4_readOperand 12 = .ok (.bipush 33, 2) := by decide +kernel
theorem dX4_readOperand_14 : decode cX4_readOperand 14 = .ok (.if_icmp .eq 9, 3) := by decide +kernel
theorem dX4_readOperand_17 : decode cX4_readOperand 17 = .ok (.iload_n 2, 1) := by decide +kernel
theorem dX4_readOperand_18 : decode cX4_readOperand 18 = .ok (.bipush 45, 2) := by decide +kernel
theorem dX4_readOperand_20 : decode cX4_readOperand 20 = .ok (.if_icmp .ne 26, 3) := by decide +kernel
theorem dX4_readOperand_23 : decode cX4_readOperand 23 = .ok (.iload_n 1, 1) := by decide +kernel
theorem dX4_readOperand_24 : decode cX4_readOperand 24 = .ok (.bipush 6, 2) := by decide +kernel
theorem dX4_readOperand_26 : decode cX4_readOperand 26 = .ok (.if_icmp .ge 18, 3) := by decide +kernel
theorem dX4_readOperand_29 : decode cX4_readOperand 29 = .ok (.aload_n 0, 1) := by decide +kernel
theorem dX4_readOperand_30 : decode cX4_readOperand 30 = .ok (.iload_n 2, 1) := by decide +kernel
theorem dX4_readOperand_31 : decode cX4_readOperand 31 = .ok (.iload_n 1, 1) := by decide +kernel
theorem dX4_readOperand_32 : decode cX4_readOperand 32 = .ok (.iconst 1, 1) := by decide +kernel
theorem dX4_readOperand_33 : decode cX4_readOperand 33 = .ok (.iadd, 1) := by decide +kernel
theorem dX4_readOperand_34 : decode cX4_readOperand 34 = .ok (.invokevirtual 52, 3) := by decide +kernel
theorem dX4_readOperand_37 : decode cX4_readOperand 37 = .ok (.ifCond .eq 7, 3) := by decide +kernel
theorem dX4_readOperand_40 : decode cX4_readOperand 40 = .ok (.iconst 1, 1) := by decide +kernel
theorem dX4_readOperand_41 : decode cX4_readOperand 41 = .ok (.goto 4, 3) := by decide +kernel
theorem dX4_readOperand_44 : decode cX4_readOperand 44 = .ok (.iconst 0, 1) := by decide +kernel
theorem dX4_readOperand_45 : decode cX4_readOperand 45 = .ok (.ireturn, 1) := by decide +kernel
theorem dX4_readOperand_46 : decode cX4_readOperand 46 = .ok (.iload_n 2, 1) := by decide +kernel
theorem dX4_readOperand_47 : decode cX4_readOperand 47 = .ok (.invokestatic 55, 3) := by decide +kernel
theorem dX4_readOperand_50 : decode cX4_readOperand 50 = .ok (.ifCond .eq 9, 3) := by decide +kernel
theorem dX4_readOperand_53 : decode cX4_readOperand 53 = .ok (.aload_n 0, 1) := by decide +kernel
theorem dX4_readOperand_54 : decode cX4_readOperand 54 = .ok (.invokevirtual 58, 3) := by decide +kernel
theorem dX4_readOperand_57 : decode cX4_readOperand 57 = .ok (.iconst 1, 1) := by decide +kernel
theorem dX4_readOperand_58 : decode cX4_readOperand 58 = .ok (.ireturn, 1) := by decide +kernel
theorem dX4_readOperand_59 : decode cX4_readOperand 59 = .ok (.aload_n 0, 1) := by decide +kernel
theorem dX4_readOperand_60 : decode cX4_readOperand 60 = .ok (.invokevirtual 61, 3) := by decide +kernel
theorem dX4_readOperand_63 : decode cX4_readOperand 63 = .ok (.ireturn, 1) := by decide +kernel
theorem dX4_readOpened_0 : decode cX4_readOpened 0 = .ok (.aload_n 0, 1) := by decide +kernel
theorem dX4_readOpened_1 : decode cX4_readOpened 1 = .ok (.dup, 1) := by decide +kernel
theorem dX4_readOpened_2 : decode cX4_readOpened 2 = .ok (.getfield 25, 3) := by decide +kernel
theorem dX4_readOpened_5 : decode cX4_readOpened 5 = .ok (.iconst 1, 1) := by decide +kernel
theorem dX4_readOpened_6 : decode cX4_readOpened 6 = .ok (.iadd, 1) := by decide +kernel
theorem dX4_readOpened_7 : decode cX4_readOpened 7 = .ok (.putfield 25, 3) := by decide +kernel
theorem dX4_readOpened_10 : decode cX4_readOpened 10 = .ok (.iload_n 1, 1) := by decide +kernel
theorem dX4_readOpened_11 : decode cX4_readOpened 11 = .ok (.bipush 40, 2) := by decide +kernel
theorem dX4_readOpened_13 : decode cX4_readOpened 13 = .ok (.if_icmp .ne 35, 3) := by decide +kernel
theorem dX4_readOpened_16 : decode cX4_readOpened 16 = .ok (.aload_n 0, 1) := by decide +kernel
theorem dX4_readOpened_17 : decode cX4_readOpened 17 = .ok (.iconst 0, 1) := by decide +kernel
theorem dX4_readOpened_18 : decode cX4_readOpened 18 = .ok (.iload_n 2, 1) := by decide +kernel
theorem dX4_readOpened_19 : decode cX4_readOpened 19 = .ok (.invokevirtual 36, 3) := by decide +kernel
theorem dX4_readOpened_22 : decode cX4_readOpened 22 = .ok (.ifCond .eq 12, 3) := by decide +kernel
theorem dX4_readOpened_25 : decode cX4_readOpened 25 = .ok (.aload_n 0, 1) := by decide +kernel
theorem dX4_readOpened_26 : decode cX4_readOpened 26 = .ok (.invokevirtual 32, 3) := by decide +kernel
theorem dX4_readOpened_29 : decode cX4_readOpened 29 = .ok (.bipush 41, 2) := by decide +kernel
theorem dX4_readOpened_31 : decode cX4_readOpened 31 = .ok (.if_icmp .eq 5, 3) := by decide +kernel
theorem dX4_readOpened_34 : decode cX4_readOpened 34 = .ok (.iconst 0, 1) := by decide +kernel
theorem dX4_readOpened_35 : decode cX4_readOpened 35 = .ok (.ireturn, 1) := by decide +kernel
theorem dX4_readOpened_36 : decode cX4_readOpened 36 = .ok (.aload_n 0, 1) := by decide +kernel
theorem dX4_readOpened_37 : decode cX4_readOpened 37 = .ok (.dup, 1) := by decide +kernel
theorem dX4_readOpened_38 : decode cX4_readOpened 38 = .ok (.getfield 25, 3) := by decide +kernel
theorem dX4_readOpened_41 : decode cX4_readOpened 41 = .ok (.iconst 1, 1) := by decide +kernel
theorem dX4_readOpened_42 : decode cX4_readOpened 42 = .ok (.iadd, 1) := by decide +kernel
theorem dX4_readOpened_43 : decode cX4_readOpened 43 = .ok (.putfield 25, 3) := by decide +kernel
theorem dX4_readOpened_46 : decode cX4_readOpened 46 = .ok (.iconst 1, 1) := by decide +kernel
theorem dX4_readOpened_47 : decode cX4_readOpened 47 = .ok (.ireturn, 1) := by decide +kernel
theorem dX4_readOpened_48 : decode cX4_readOpened 48 = .ok (.aload_n 0, 1) := by decide +kernel
theorem dX4_readOpened_49 : decode cX4_readOpened 49 = .ok (.iload_n 2, 1) := by decide +kernel
theorem dX4_readOpened_50 : decode cX4_readOpened 50 = .ok (.invokevirtual 44, 3) := by decide +kernel
theorem dX4_readOpened_53 : decode cX4_readOpened 53 = .ok (.ifCond .ne 5, 3) := by decide +kernel
theorem dX4_readOpened_56 : decode cX4_readOpened 56 = .ok (.iconst 0, 1) := by decide +kernel
theorem dX4_readOpened_57 : decode cX4_readOpened 57 = .ok (.ireturn, 1) := by decide +kernel
theorem dX4_readOpened_58 : decode cX4_readOpened 58 = .ok (.aload_n 0, 1) := by decide +kernel
theorem dX4_readOpened_59 : decode cX4_readOpened 59 = .ok (.iload_n 1, 1) := by decide +kernel
theorem dX4_readOpened_60 : decode cX4_readOpened 60 = .ok (.bipush 33, 2) := by decide +kernel
theorem dX4_readOpened_62 : decode cX4_readOpened 62 = .ok (.if_icmp .ne 8, 3) := by decide +kernel
theorem dX4_readOpened_65 : decode cX4_readOpened 65 = .ok (.bipush (-33), 2) := by decide +kernel
theorem dX4_readOpened_67 : decode cX4_readOpened 67 = .ok (.goto 5, 3) := by decide +kernel
theorem dX4_readOpened_70 : decode cX4_readOpened 70 = .ok (.bipush (-126), 2) := by decide +kernel
theorem dX4_readOpened_72 : decode cX4_readOpened 72 = .ok (.invokevirtual 40, 3) := by decide +kernel
theorem dX4_readOpened_75 : decode cX4_readOpened 75 = .ok (.iconst 1, 1) := by decide +kernel
theorem dX4_readOpened_76 : decode cX4_readOpened 76 = .ok (.ireturn, 1) := by decide +kernel
theorem dX4_readNumber_0 : decode cX4_readNumber 0 = .ok (.iconst 0, 1) := by decide +kernel
theorem dX4_readNumber_1 : decode cX4_readNumber 1 = .ok (.istore_n 1, 1) := by decide +kernel
theorem dX4_readNumber_2 : decode cX4_readNumber 2 = .ok (.iconst 0, 1) := by decide +kernel
theorem dX4_readNumber_3 : decode cX4_readNumber 3 = .ok (.istore_n 2, 1) := by decide +kernel
theorem dX4_readNumber_4 : decode cX4_readNumber 4 = .ok (.iload_n 2, 1) := by decide +kernel
theorem dX4_readNumber_5 : decode cX4_readNumber 5 = .ok (.iconst 4, 1) := by decide +kernel
theorem dX4_readNumber_6 : decode cX4_readNumber 6 = .ok (.if_icmp .ge 42, 3) := by decide +kernel
theorem dX4_readNumber_9 : decode cX4_readNumber 9 = .ok (.aload_n 0, 1) := by decide +kernel
theorem dX4_readNumber_10 : decode cX4_readNumber 10 = .ok (.invokevirtual 32, 3) := by decide +kernel
theorem dX4_readNumber_13 : decode cX4_readNumber 13 = .ok (.invokestatic 55, 3) := by decide +kernel
theorem dX4_readNumber_16 : decode cX4_readNumber 16 = .ok (.ifCond .eq 32, 3) := by decide +kernel
theorem dX4_readNumber_19 : decode cX4_readNumber 19 = .ok (.iload_n 1, 1) := by decide +kernel
theorem dX4_readNumber_20 : decode cX4_readNumber 20 = .ok (.bipush 10, 2) := by decide +kernel
theorem dX4_readNumber_22 : decode cX4_readNumber 22 = .ok (.imul, 1) := by decide +kernel
theorem dX4_readNumber_23 : decode cX4_readNumber 23 = .ok (.aload_n 0, 1) := by decide +kernel
theorem dX4_readNumber_24 : decode cX4_readNumber 24 = .ok (.invokevirtual 32, 3) := by decide +kernel
theorem dX4_readNumber_27 : decode cX4_readNumber 27 = .ok (.iadd, 1) := by decide +kernel
theorem dX4_readNumber_28 : decode cX4_readNumber 28 = .ok (.bipush 48, 2) := by decide +kernel
theorem dX4_readNumber_30 : decode cX4_readNumber 30 = .ok (.isub, 1) := by decide +kernel
theorem dX4_readNumber_31 : decode cX4_readNumber 31 = .ok (.istore_n 1, 1) := by decide +kernel
theorem dX4_readNumber_32 : decode cX4_readNumber 32 = .ok (.aload_n 0, 1) := by decide +kernel
theorem dX4_readNumber_33 : decode cX4_readNumber 33 = .ok (.dup, 1) := by decide +kernel
theorem dX4_readNumber_34 : decode cX4_readNumber 34 = .ok (.getfield 25, 3) := by decide +kernel
theorem dX4_readNumber_37 : decode cX4_readNumber 37 = .ok (.iconst 1, 1) := by decide +kernel
theorem dX4_readNumber_38 : decode cX4_readNumber 38 = .ok (.iadd, 1) := by decide +kernel
theorem dX4_readNumber_39 : decode cX4_readNumber 39 = .ok (.putfield 25, 3) := by decide +kernel
theorem dX4_readNumber_42 : decode cX4_readNumber 42 = .ok (.iinc 2 1, 3) := by decide +kernel
theorem dX4_readNumber_45 : decode cX4_readNumber 45 = .ok (.goto (-41), 3) := by decide +kernel
theorem dX4_readNumber_48 : decode cX4_readNumber 48 = .ok (.aload_n 0, 1) := by decide +kernel
theorem dX4_readNumber_49 : decode cX4_readNumber 49 = .ok (.iload_n 1, 1) := by decide +kernel
theorem dX4_readNumber_50 : decode cX4_readNumber 50 = .ok (.invokevirtual 40, 3) := by decide +kernel
theorem dX4_readNumber_53 : decode cX4_readNumber 53 = .ok (.return_, 1) := by decide +kernel
theorem dX4_readWord_0 : decode cX4_readWord 0 = .ok (.aload_n 0, 1) := by decide +kernel
theorem dX4_readWord_1 : decode cX4_readWord 1 = .ok (.getfield 25, 3) := by decide +kernel
theorem dX4_readWord_4 : decode cX4_readWord 4 = .ok (.istore_n 1, 1) := by decide +kernel
theorem dX4_readWord_5 : decode cX4_readWord 5 = .ok (.iload_n 1, 1) := by decide +kernel
theorem dX4_readWord_6 : decode cX4_readWord 6 = .ok (.aload_n 0, 1) := by decide +kernel
theorem dX4_readWord_7 : decode cX4_readWord 7 = .ok (.getfield 22, 3) := by decide +kernel
theorem dX4_readWord_10 : decode cX4_readWord 10 = .ok (.if_icmp .ge 38, 3) := by decide +kernel
theorem dX4_readWord_13 : decode cX4_readWord 13 = .ok (.iload_n 1, 1) := by decide +kernel
theorem dX4_readWord_14 : decode cX4_readWord 14 = .ok (.sipush 160, 3) := by decide +kernel
theorem dX4_readWord_17 : decode cX4_readWord 17 = .ok (.if_icmp .ge 31, 3) := by decide +kernel
theorem dX4_readWord_20 : decode cX4_readWord 20 = .ok (.aload_n 0, 1) := by decide +kernel
theorem dX4_readWord_21 : decode cX4_readWord 21 = .ok (.getfield 19, 3) := by decide +kernel
theorem dX4_readWord_24 : decode cX4_readWord 24 = .ok (.iload_n 1, 1) := by decide +kernel
theorem dX4_readWord_25 : decode cX4_readWord 25 = .ok (.iaload, 1) := by decide +kernel
theorem dX4_readWord_26 : decode cX4_readWord 26 = .ok (.bipush 97, 2) := by decide +kernel
theorem dX4_readWord_28 : decode cX4_readWord 28 = .ok (.if_icmp .lt 20, 3) := by decide +kernel
theorem dX4_readWord_31 : decode cX4_readWord 31 = .ok (.aload_n 0, 1) := by decide +kernel
theorem dX4_readWord_32 : decode cX4_readWord 32 = .ok (.getfield 19, 3) := by decide +kernel
theorem dX4_readWord_35 : decode cX4_readWord 35 = .ok (.iload_n 1, 1) := by decide +kernel
theorem dX4_readWord_36 : decode cX4_readWord 36 = .ok (.iaload, 1) := by decide +kernel
theorem dX4_readWord_37 : decode cX4_readWord 37 = .ok (.bipush 122, 2) := by decide +kernel
theorem dX4_readWord_39 : decode cX4_readWord 39 = .ok (.if_icmp .gt 9, 3) := by decide +kernel
theorem dX4_readWord_42 : decode cX4_readWord 42 = .ok (.iinc 1 1, 3) := by decide +kernel
theorem dX4_readWord_45 : decode cX4_readWord 45 = .ok (.goto (-40), 3) := by decide +kernel
theorem dX4_readWord_48 : decode cX4_readWord 48 = .ok (.iconst 0, 1) := by decide +kernel
theorem dX4_readWord_49 : decode cX4_readWord 49 = .ok (.istore_n 2, 1) := by decide +kernel
theorem dX4_readWord_50 : decode cX4_readWord 50 = .ok (.iload_n 2, 1) := by decide +kernel
theorem dX4_readWord_51 : decode cX4_readWord 51 = .ok (.bipush 6, 2) := by decide +kernel
theorem dX4_readWord_53 : decode cX4_readWord 53 = .ok (.if_icmp .ge 35, 3) := by decide +kernel
theorem dX4_readWord_56 : decode cX4_readWord 56 = .ok (.aload_n 0, 1) := by decide +kernel
theorem dX4_readWord_57 : decode cX4_readWord 57 = .ok (.iload_n 2, 1) := by decide +kernel
theorem dX4_readWord_58 : decode cX4_readWord 58 = .ok (.invokestatic 64, 3) := by decide +kernel
theorem dX4_readWord_61 : decode cX4_readWord 61 = .ok (.iload_n 1, 1) := by decide +kernel
theorem dX4_readWord_62 : decode cX4_readWord 62 = .ok (.invokevirtual 68, 3) := by decide +kernel
theorem dX4_readWord_65 : decode cX4_readWord 65 = .ok (.ifCond .eq 17, 3) := by decide +kernel
theorem dX4_readWord_68 : decode cX4_readWord 68 = .ok (.aload_n 0, 1) := by decide +kernel
theorem dX4_readWord_69 : decode cX4_readWord 69 = .ok (.iload_n 1, 1) := by decide +kernel
theorem dX4_readWord_70 : decode cX4_readWord 70 = .ok (.putfield 25, 3) := by decide +kernel
theorem dX4_readWord_73 : decode cX4_readWord 73 = .ok (.aload_n 0, 1) := by decide +kernel
theorem dX4_readWord_74 : decode cX4_readWord 74 = .ok (.iconst (-1), 1) := by decide +kernel
theorem dX4_readWord_75 : decode cX4_readWord 75 = .ok (.iload_n 2, 1) := by decide +kernel
theorem dX4_readWord_76 : decode cX4_readWord 76 = .ok (.isub, 1) := by decide +kernel
theorem dX4_readWord_77 : decode cX4_readWord 77 = .ok (.invokevirtual 40, 3) := by decide +kernel
theorem dX4_readWord_80 : decode cX4_readWord 80 = .ok (.iconst 1, 1) := by decide +kernel
theorem dX4_readWord_81 : decode cX4_readWord 81 = .ok (.ireturn, 1) := by decide +kernel
theorem dX4_readWord_82 : decode cX4_readWord 82 = .ok (.iinc 2 1, 3) := by decide +kernel
theorem dX4_readWord_85 : decode cX4_readWord 85 = .ok (.goto (-35), 3) := by decide +kernel
theorem dX4_readWord_88 : decode cX4_readWord 88 = .ok (.iconst 0, 1) := by decide +kernel
theorem dX4_readWord_89 : decode cX4_readWord 89 = .ok (.ireturn, 1) := by decide +kernel
theorem dX4_isWord_0 : decode cX4_isWord 0 = .ok (.iload_n 2, 1) := by decide +kernel
theorem dX4_isWord_1 : decode cX4_isWord 1 = .ok (.aload_n 0, 1) := by decide +kernel
theorem dX4_isWord_2 : decode cX4_isWord 2 = .ok (.getfield 25, 3) := by decide +kernel
theorem dX4_isWord_5 : decode cX4_isWord 5 = .ok (.isub, 1) := by decide +kernel
theorem dX4_isWord_6 : decode cX4_isWord 6 = .ok (.aload_n 1, 1) := by decide +kernel
theorem dX4_isWord_7 : decode cX4_isWord 7 = .ok (.invokevirtual 72, 3) := by decide +kernel
theorem dX4_isWord_10 : decode cX4_isWord 10 = .ok (.if_icmp .eq 5, 3) := by decide +kernel
theorem dX4_isWord_13 : decode cX4_isWord 13 = .ok (.iconst 0, 1) := by decide +kernel
theorem dX4_isWord_14 : decode cX4_isWord 14 = .ok (.ireturn, 1) := by decide +kernel
theorem dX4_isWord_15 : decode cX4_isWord 15 = .ok (.iconst 0, 1) := by decide +kernel
theorem dX4_isWord_16 : decode cX4_isWord 16 = .ok (.istore_n 3, 1) := by decide +kernel
theorem dX4_isWord_17 : decode cX4_isWord 17 = .ok (.iload_n 3, 1) := by decide +kernel
theorem dX4_isWord_18 : decode cX4_isWord 18 = .ok (.aload_n 1, 1) := by decide +kernel
theorem dX4_isWord_19 : decode cX4_isWord 19 = .ok (.invokevirtual 72, 3) := by decide +kernel
theorem dX4_isWord_22 : decode cX4_isWord 22 = .ok (.if_icmp .ge 47, 3) := by decide +kernel
theorem dX4_isWord_25 : decode cX4_isWord 25 = .ok (.aload_n 0, 1) := by decide +kernel
theorem dX4_isWord_26 : decode cX4_isWord 26 = .ok (.getfield 25, 3) := by decide +kernel
theorem dX4_isWord_29 : decode cX4_isWord 29 = .ok (.iload_n 3, 1) := by decide +kernel
theorem dX4_isWord_30 : decode cX4_isWord 30 = .ok (.iadd, 1) := by decide +kernel
theorem dX4_isWord_31 : decode cX4_isWord 31 = .ok (.istore 4, 2) := by decide +kernel
theorem dX4_isWord_33 : decode cX4_isWord 33 = .ok (.iload 4, 2) := by decide +kernel
theorem dX4_isWord_35 : decode cX4_isWord 35 = .ok (.ifCond .lt 26, 3) := by decide +kernel
theorem dX4_isWord_38 : decode cX4_isWord 38 = .ok (.iload 4, 2) := by decide +kernel
theorem dX4_isWord_40 : decode cX4_isWord 40 = .ok (.sipush 160, 3) := by decide +kernel
theorem dX4_isWord_43 : decode cX4_isWord 43 = .ok (.if_icmp .ge 18, 3) := by decide +kernel
theorem dX4_isWord_46 : decode cX4_isWord 46 = .ok (.aload_n 0, 1) := by decide +kernel
theorem dX4_isWord_47 : decode cX4_isWord 47 = .ok (.getfield 19, 3) := by decide +kernel
theorem dX4_isWord_50 : decode cX4_isWord 50 = .ok (.iload 4, 2) := by decide +kernel
theorem dX4_isWord_52 : decode cX4_isWord 52 = .ok (.iaload, 1) := by decide +kernel
theorem dX4_isWord_53 : decode cX4_isWord 53 = .ok (.aload_n 1, 1) := by decide +kernel
theorem dX4_isWord_54 : decode cX4_isWord 54 = .ok (.iload_n 3, 1) := by decide +kernel
theorem dX4_isWord_55 : decode cX4_isWord 55 = .ok (.invokevirtual 76, 3) := by decide +kernel
theorem dX4_isWord_58 : decode cX4_isWord 58 = .ok (.if_icmp .eq 5, 3) := by decide +kernel
theorem dX4_isWord_61 : decode cX4_isWord 61 = .ok (.iconst 0, 1) := by decide +kernel
theorem dX4_isWord_62 : decode cX4_isWord 62 = .ok (.ireturn, 1) := by decide +kernel
theorem dX4_isWord_63 : decode cX4_isWord 63 = .ok (.iinc 3 1, 3) := by decide +kernel
theorem dX4_isWord_66 : decode cX4_isWord 66 = .ok (.goto (-49), 3) := by decide +kernel
theorem dX4_isWord_69 : decode cX4_isWord 69 = .ok (.iconst 1, 1) := by decide +kernel
theorem dX4_isWord_70 : decode cX4_isWord 70 = .ok (.ireturn, 1) := by decide +kernel
theorem dX4_wordOf_0 : decode cX4_wordOf 0 = .ok (.iload_n 0, 1) := by decide +kernel
theorem dX4_wordOf_1 : decode cX4_wordOf 1 = .ok (.tableswitch 50 0 4 #[35, 38, 41, 44, 47], 35) := by decide +kernel
theorem dX4_wordOf_36 : decode cX4_wordOf 36 = .ok (.ldc 80, 2) := by decide +kernel
theorem dX4_wordOf_38 : decode cX4_wordOf 38 = .ok (.areturn, 1) := by decide +kernel
theorem dX4_wordOf_39 : decode cX4_wordOf 39 = .ok (.ldc 82, 2) := by decide +kernel
theorem dX4_wordOf_41 : decode cX4_wordOf 41 = .ok (.areturn, 1) := by decide +kernel
theorem dX4_wordOf_42 : decode cX4_wordOf 42 = .ok (.ldc 84, 2) := by decide +kernel
theorem dX4_wordOf_44 : decode cX4_wordOf 44 = .ok (.areturn, 1) := by decide +kernel
theorem dX4_wordOf_45 : decode cX4_wordOf 45 = .ok (.ldc 86, 2) := by decide +kernel
theorem dX4_wordOf_47 : decode cX4_wordOf 47 = .ok (.areturn, 1) := by decide +kernel
theorem dX4_wordOf_48 : decode cX4_wordOf 48 = .ok (.ldc 88, 2) := by decide +kernel
theorem dX4_wordOf_50 : decode cX4_wordOf 50 = .ok (.areturn, 1) := by decide +kernel
theorem dX4_wordOf_51 : decode cX4_wordOf 51 = .ok (.ldc 90, 2) := by decide +kernel
theorem dX4_wordOf_53 : decode cX4_wordOf 53 = .ok (.areturn, 1) := by decide +kernel
theorem dX4_isDigit_0 : decode cX4_isDigit 0 = .ok (.iload_n 0, 1) := by decide +kernel
theorem dX4_isDigit_1 : decode cX4_isDigit 1 = .ok (.bipush 48, 2) := by decide +kernel
theorem dX4_isDigit_3 : decode cX4_isDigit 3 = .ok (.if_icmp .lt 13, 3) := by decide +kernel
theorem dX4_isDigit_6 : decode cX4_isDigit 6 = .ok (.iload_n 0, 1) := by decide +kernel
theorem dX4_isDigit_7 : decode cX4_isDigit 7 = .ok (.bipush 57, 2) := by decide +kernel
theorem dX4_isDigit_9 : decode cX4_isDigit 9 = .ok (.if_icmp .gt 7, 3) := by decide +kernel
theorem dX4_isDigit_12 : decode cX4_isDigit 12 = .ok (.iconst 1, 1) := by decide +kernel
theorem dX4_isDigit_13 : decode cX4_isDigit 13 = .ok (.goto 4, 3) := by decide +kernel
theorem dX4_isDigit_16 : decode cX4_isDigit 16 = .ok (.iconst 0, 1) := by decide +kernel
theorem dX4_isDigit_17 : decode cX4_isDigit 17 = .ok (.ireturn, 1) := by decide +kernel
theorem dX4_next_0 : decode cX4_next 0 = .ok (.aload_n 0, 1) := by decide +kernel
theorem dX4_next_1 : decode cX4_next 1 = .ok (.getfield 25, 3) := by decide +kernel
theorem dX4_next_4 : decode cX4_next 4 = .ok (.ifCond .lt 36, 3) := by decide +kernel
theorem dX4_next_7 : decode cX4_next 7 = .ok (.aload_n 0, 1) := by decide +kernel
theorem dX4_next_8 : decode cX4_next 8 = .ok (.getfield 25, 3) := by decide +kernel
theorem dX4_next_11 : decode cX4_next 11 = .ok (.aload_n 0, 1) := by decide +kernel
theorem dX4_next_12 : decode cX4_next 12 = .ok (.getfield 22, 3) := by decide +kernel
theorem dX4_next_15 : decode cX4_next 15 = .ok (.if_icmp .ge 25, 3) := by decide +kernel
theorem dX4_next_18 : decode cX4_next 18 = .ok (.aload_n 0, 1) := by decide +kernel
theorem dX4_next_19 : decode cX4_next 19 = .ok (.getfield 25, 3) := by decide +kernel
theorem dX4_next_22 : decode cX4_next 22 = .ok (.sipush 160, 3) := by decide +kernel
theorem dX4_next_25 : decode cX4_next 25 = .ok (.if_icmp .ge 15, 3) := by decide +kernel
theorem dX4_next_28 : decode cX4_next 28 = .ok (.aload_n 0, 1) := by decide +kernel
theorem dX4_next_29 : decode cX4_next 29 = .ok (.getfield 19, 3) := by decide +kernel
theorem dX4_next_32 : decode cX4_next 32 = .ok (.aload_n 0, 1) := by decide +kernel
theorem dX4_next_33 : decode cX4_next 33 = .ok (.getfield 25, 3) := by decide +kernel
theorem dX4_next_36 : decode cX4_next 36 = .ok (.iaload, 1) := by decide +kernel
theorem dX4_next_37 : decode cX4_next 37 = .ok (.goto 4, 3) := by decide +kernel
theorem dX4_next_40 : decode cX4_next 40 = .ok (.iconst (-1), 1) := by decide +kernel
theorem dX4_next_41 : decode cX4_next 41 = .ok (.ireturn, 1) := by decide +kernel
theorem dX4_write_0 : decode cX4_write 0 = .ok (.aload_n 0, 1) := by decide +kernel
theorem dX4_write_1 : decode cX4_write 1 = .ok (.getfield 15, 3) := by decide +kernel
theorem dX4_write_4 : decode cX4_write 4 = .ok (.sipush 161, 3) := by decide +kernel
theorem dX4_write_7 : decode cX4_write 7 = .ok (.if_icmp .ge 23, 3) := by decide +kernel
theorem dX4_write_10 : decode cX4_write 10 = .ok (.aload_n 0, 1) := by decide +kernel
theorem dX4_write_11 : decode cX4_write 11 = .ok (.getfield 11, 3) := by decide +kernel
theorem dX4_write_14 : decode cX4_write 14 = .ok (.aload_n 0, 1) := by decide +kernel
theorem dX4_write_15 : decode cX4_write 15 = .ok (.getfield 15, 3) := by decide +kernel
theorem dX4_write_18 : decode cX4_write 18 = .ok (.iload_n 1, 1) := by decide +kernel
theorem dX4_write_19 : decode cX4_write 19 = .ok (.iastore, 1) := by decide +kernel
theorem dX4_write_20 : decode cX4_write 20 = .ok (.aload_n 0, 1) := by decide +kernel
theorem dX4_write_21 : decode cX4_write 21 = .ok (.dup, 1) := by decide +kernel
theorem dX4_write_22 : decode cX4_write 22 = .ok (.getfield 15, 3) := by decide +kernel
theorem dX4_write_25 : decode cX4_write 25 = .ok (.iconst 1, 1) := by decide +kernel
theorem dX4_write_26 : decode cX4_write 26 = .ok (.iadd, 1) := by decide +kernel
theorem dX4_write_27 : decode cX4_write 27 = .ok (.putfield 15, 3) := by decide +kernel
theorem dX4_write_30 : decode cX4_write 30 = .ok (.return_, 1) := by decide +kernel
theorem dX5_init_0 : decode cX5_init 0 = .ok (.aload_n 0, 1) := by decide +kernel
theorem dX5_init_1 : decode cX5_init 1 = .ok (.invokespecial 3, 3) := by decide +kernel
theorem dX5_init_4 : decode cX5_init 4 = .ok (.aload_n 0, 1) := by decide +kernel
theorem dX5_init_5 : decode cX5_init 5 = .ok (.bipush 50, 2) := by decide +kernel
theorem dX5_init_7 : decode cX5_init 7 = .ok (.newarray .int, 2) := by decide +kernel
theorem dX5_init_9 : decode cX5_init 9 = .ok (.putfield 11, 3) := by decide +kernel
theorem dX5_init_12 : decode cX5_init 12 = .ok (.aload_n 0, 1) := by decide +kernel
theorem dX5_init_13 : decode cX5_init 13 = .ok (.iconst 0, 1) := by decide +kernel
theorem dX5_init_14 : decode cX5_init 14 = .ok (.putfield 15, 3) := by decide +kernel
theorem dX5_init_17 : decode cX5_init 17 = .ok (.aload_n 0, 1) := by decide +kernel
theorem dX5_init_18 : decode cX5_init 18 = .ok (.bipush 24, 2) := by decide +kernel
theorem dX5_init_20 : decode cX5_init 20 = .ok (.newarray .int, 2) := by decide +kernel
theorem dX5_init_22 : decode cX5_init 22 = .ok (.putfield 19, 3) := by decide +kernel
theorem dX5_init_25 : decode cX5_init 25 = .ok (.aload_n 0, 1) := by decide +kernel
theorem dX5_init_26 : decode cX5_init 26 = .ok (.iconst 0, 1) := by decide +kernel
theorem dX5_init_27 : decode cX5_init 27 = .ok (.putfield 22, 3) := by decide +kernel
theorem dX5_init_30 : decode cX5_init 30 = .ok (.return_, 1) := by decide +kernel
theorem dX5_bodies_0 : decode cX5_bodies 0 = .ok (.aload_n 0, 1) := by decide +kernel
theorem dX5_bodies_1 : decode cX5_bodies 1 = .ok (.getfield 15, 3) := by decide +kernel
theorem dX5_bodies_4 : decode cX5_bodies 4 = .ok (.ireturn, 1) := by decide +kernel
theorem dX5_ran_0 : decode cX5_ran 0 = .ok (.aload_n 0, 1) := by decide +kernel
theorem dX5_ran_1 : decode cX5_ran 1 = .ok (.getfield 22, 3) := by decide +kernel
theorem dX5_ran_4 : decode cX5_ran 4 = .ok (.ireturn, 1) := by decide +kernel
theorem dX6_init_0 : decode cX6_init 0 = .ok (.aload_n 0, 1) := by decide +kernel
theorem dX6_init_1 : decode cX6_init 1 = .ok (.invokespecial 3, 3) := by decide +kernel
theorem dX6_init_4 : decode cX6_init 4 = .ok (.aload_n 0, 1) := by decide +kernel
theorem dX6_init_5 : decode cX6_init 5 = .ok (.bipush 72, 2) := by decide +kernel
theorem dX6_init_7 : decode cX6_init 7 = .ok (.newarray .int, 2) := by decide +kernel
theorem dX6_init_9 : decode cX6_init 9 = .ok (.putfield 11, 3) := by decide +kernel
theorem dX6_init_12 : decode cX6_init 12 = .ok (.aload_n 0, 1) := by decide +kernel
theorem dX6_init_13 : decode cX6_init 13 = .ok (.sipush 2304, 3) := by decide +kernel
theorem dX6_init_16 : decode cX6_init 16 = .ok (.newarray .int, 2) := by decide +kernel
theorem dX6_init_18 : decode cX6_init 18 = .ok (.putfield 15, 3) := by decide +kernel
theorem dX6_init_21 : decode cX6_init 21 = .ok (.aload_n 0, 1) := by decide +kernel
theorem dX6_init_22 : decode cX6_init 22 = .ok (.bipush 8, 2) := by decide +kernel
theorem dX6_init_24 : decode cX6_init 24 = .ok (.newarray .int, 2) := by decide +kernel
theorem dX6_init_26 : decode cX6_init 26 = .ok (.putfield 18, 3) := by decide +kernel
theorem dX6_init_29 : decode cX6_init 29 = .ok (.aload_n 0, 1) := by decide +kernel
theorem dX6_init_30 : decode cX6_init 30 = .ok (.aload_n 1, 1) := by decide +kernel
theorem dX6_init_31 : decode cX6_init 31 = .ok (.putfield 21, 3) := by decide +kernel
theorem dX6_init_34 : decode cX6_init 34 = .ok (.return_, 1) := by decide +kernel
theorem dX7_init_0 : decode cX7_init 0 = .ok (.aload_n 0, 1) := by decide +kernel
theorem dX7_init_1 : decode cX7_init 1 = .ok (.invokespecial 3, 3) := by decide +kernel
theorem dX7_init_4 : decode cX7_init 4 = .ok (.aload_n 0, 1) := by decide +kernel
theorem dX7_init_5 : decode cX7_init 5 = .ok (.iconst 0, 1) := by decide +kernel
theorem dX7_init_6 : decode cX7_init 6 = .ok (.putfield 9, 3) := by decide +kernel
theorem dX7_init_9 : decode cX7_init 9 = .ok (.aload_n 0, 1) := by decide +kernel
theorem dX7_init_10 : decode cX7_init 10 = .ok (.bipush 8, 2) := by decide +kernel
theorem dX7_init_12 : decode cX7_init 12 = .ok (.newarray .int, 2) := by decide +kernel
theorem dX7_init_14 : decode cX7_init 14 = .ok (.putfield 15, 3) := by decide +kernel
theorem dX7_init_17 : decode cX7_init 17 = .ok (.aload_n 0, 1) := by decide +kernel
theorem dX7_init_18 : decode cX7_init 18 = .ok (.bipush 8, 2) := by decide +kernel
theorem dX7_init_20 : decode cX7_init 20 = .ok (.newarray .int, 2) := by decide +kernel
theorem dX7_init_22 : decode cX7_init 22 = .ok (.putfield 19, 3) := by decide +kernel
theorem dX7_init_25 : decode cX7_init 25 = .ok (.aload_n 0, 1) := by decide +kernel
theorem dX7_init_26 : decode cX7_init 26 = .ok (.bipush 8, 2) := by decide +kernel
theorem dX7_init_28 : decode cX7_init 28 = .ok (.newarray .int, 2) := by decide +kernel
theorem dX7_init_30 : decode cX7_init 30 = .ok (.putfield 22, 3) := by decide +kernel
theorem dX7_init_33 : decode cX7_init 33 = .ok (.aload_n 0, 1) := by decide +kernel
theorem dX7_init_34 : decode cX7_init 34 = .ok (.bipush 8, 2) := by decide +kernel
theorem dX7_init_36 : decode cX7_init 36 = .ok (.newarray .int, 2) := by decide +kernel
theorem dX7_init_38 : decode cX7_init 38 = .ok (.putfield 25, 3) := by decide +kernel
theorem dX7_init_41 : decode cX7_init 41 = .ok (.aload_n 0, 1) := by decide +kernel
theorem dX7_init_42 : decode cX7_init 42 = .ok (.iconst 0, 1) := by decide +kernel
theorem dX7_init_43 : decode cX7_init 43 = .ok (.putfield 28, 3) := by decide +kernel
theorem dX7_init_46 : decode cX7_init 46 = .ok (.aload_n 0, 1) := by decide +kernel
theorem dX7_init_47 : decode cX7_init 47 = .ok (.iconst 0, 1) := by decide +kernel
theorem dX7_init_48 : decode cX7_init 48 = .ok (.putfield 31, 3) := by decide +kernel
theorem dX7_init_51 : decode cX7_init 51 = .ok (.return_, 1) := by decide +kernel
theorem dX7_goBy_0 : decode cX7_goBy 0 = .ok (.aload_n 0, 1) := by decide +kernel
theorem dX7_goBy_1 : decode cX7_goBy 1 = .ok (.iconst 0, 1) := by decide +kernel
theorem dX7_goBy_2 : decode cX7_goBy 2 = .ok (.putfield 9, 3) := by decide +kernel
theorem dX7_goBy_5 : decode cX7_goBy 5 = .ok (.aload_n 0, 1) := by decide +kernel
theorem dX7_goBy_6 : decode cX7_goBy 6 = .ok (.iconst 0, 1) := by decide +kernel
theorem dX7_goBy_7 : decode cX7_goBy 7 = .ok (.putfield 28, 3) := by decide +kernel
theorem dX7_goBy_10 : decode cX7_goBy 10 = .ok (.aload_n 0, 1) := by decide +kernel
theorem dX7_goBy_11 : decode cX7_goBy 11 = .ok (.iconst 0, 1) := by decide +kernel
theorem dX7_goBy_12 : decode cX7_goBy 12 = .ok (.putfield 31, 3) := by decide +kernel
theorem dX7_goBy_15 : decode cX7_goBy 15 = .ok (.iconst 0, 1) := by decide +kernel
theorem dX7_goBy_16 : decode cX7_goBy 16 = .ok (.istore_n 3, 1) := by decide +kernel
theorem dX7_goBy_17 : decode cX7_goBy 17 = .ok (.iconst 0, 1) := by decide +kernel
theorem dX7_goBy_18 : decode cX7_goBy 18 = .ok (.istore 4, 2) := by decide +kernel
theorem dX7_goBy_20 : decode cX7_goBy 20 = .ok (.iload 4, 2) := by decide +kernel
theorem dX7_goBy_22 : decode cX7_goBy 22 = .ok (.aload_n 1, 1) := by decide +kernel
theorem dX7_goBy_23 : decode cX7_goBy 23 = .ok (.getfield 34, 3) := by decide +kernel
theorem dX7_goBy_26 : decode cX7_goBy 26 = .ok (.if_icmp .ge 31, 3) := by decide +kernel
theorem dX7_goBy_29 : decode cX7_goBy 29 = .ok (.aload_n 1, 1) := by decide +kernel
theorem dX7_goBy_30 : decode cX7_goBy 30 = .ok (.iload_n 3, 1) := by decide +kernel
theorem dX7_goBy_31 : decode cX7_goBy 31 = .ok (.invokestatic 39, 3) := by decide +kernel
theorem dX7_goBy_34 : decode cX7_goBy 34 = .ok (.istore 5, 2) := by decide +kernel
theorem dX7_goBy_36 : decode cX7_goBy 36 = .ok (.iload_n 3, 1) := by decide +kernel
theorem dX7_goBy_37 : decode cX7_goBy 37 = .ok (.iconst 1, 1) := by decide +kernel
theorem dX7_goBy_38 : decode cX7_goBy 38 = .ok (.iload 5, 2) := by decide +kernel
theorem dX7_goBy_40 : decode cX7_goBy 40 = .ok (.ishl, 1) := by decide +kernel
theorem dX7_goBy_41 : decode cX7_goBy 41 = .ok (.ior, 1) := by decide +kernel
theorem dX7_goBy_42 : decode cX7_goBy 42 = .ok (.istore_n 3, 1) := by decide +kernel
theorem dX7_goBy_43 : decode cX7_goBy 43 = .ok (.aload_n 0, 1) := by decide +kernel
theorem dX7_goBy_44 : decode cX7_goBy 44 = .ok (.aload_n 1, 1) := by decide +kernel
theorem dX7_goBy_45 : decode cX7_goBy 45 = .ok (.aload_n 2, 1) := by decide +kernel
theorem dX7_goBy_46 : decode cX7_goBy 46 = .ok (.iload 5, 2) := by decide +kernel
theorem dX7_goBy_48 : decode cX7_goBy 48 = .ok (.invokevirtual 43, 3) := by decide +kernel
theorem dX7_goBy_51 : decode cX7_goBy 51 = .ok (.iinc 4 1, 3) := by decide +kernel
theorem dX7_goBy_54 : decode cX7_goBy 54 = .ok (.goto (-34), 3) := by decide +kernel
theorem dX7_goBy_57 : decode cX7_goBy 57 = .ok (.aload_n 1, 1) := by decide +kernel
theorem dX7_goBy_58 : decode cX7_goBy 58 = .ok (.aload_n 0, 1) := by decide +kernel
theorem dX7_goBy_59 : decode cX7_goBy 59 = .ok (.getfield 28, 3) := by decide +kernel
theorem dX7_goBy_62 : decode cX7_goBy 62 = .ok (.invokevirtual 47, 3) := by decide +kernel
theorem dX7_goBy_65 : decode cX7_goBy 65 = .ok (.aload_n 0, 1) := by decide +kernel
theorem dX7_goBy_66 : decode cX7_goBy 66 = .ok (.getfield 9, 3) := by decide +kernel
theorem dX7_goBy_69 : decode cX7_goBy 69 = .ok (.ireturn, 1) := by decide +kernel
theorem dX7_hungriest_0 : decode cX7_hungriest 0 = .ok (.bipush 8, 2) := by decide +kernel
theorem dX7_hungriest_2 : decode cX7_hungriest 2 = .ok (.istore_n 2, 1) := by decide +kernel
theorem dX7_hungriest_3 : decode cX7_hungriest 3 = .ok (.iconst (-1), 1) := by decide +kernel
theorem dX7_hungriest_4 : decode cX7_hungriest 4 = .ok (.istore_n 3, 1) := by decide +kernel
theorem dX7_hungriest_5 : decode cX7_hungriest 5 = .ok (.iconst 0, 1) := by decide +kernel
theorem dX7_hungriest_6 : decode cX7_hungriest 6 = .ok (.istore 4, 2) := by decide +kernel
theorem dX7_hungriest_8 : decode cX7_hungriest 8 = .ok (.iload 4, 2) := by decide +kernel
theorem dX7_hungriest_10 : decode cX7_hungriest 10 = .ok (.aload_n 0, 1) := by decide +kernel
theorem dX7_hungriest_11 : decode cX7_hungriest 11 = .ok (.getfield 34, 3) := by decide +kernel
theorem dX7_hungriest_14 : decode cX7_hungriest 14 = .ok (.if_icmp .ge 38, 3) := by decide +kernel
theorem dX7_hungriest_17 : decode cX7_hungriest 17 = .ok (.aload_n 0, 1) := by decide +kernel
theorem dX7_hungriest_18 : decode cX7_hungriest 18 = .ok (.iload 4, 2) := by decide +kernel
theorem dX7_hungriest_20 : decode cX7_hungriest 20 = .ok (.invokevirtual 51, 3) := by decide +kernel
theorem dX7_hungriest_23 : decode cX7_hungriest 23 = .ok (.istore 5, 2) := by decide +kernel
theorem dX7_hungriest_25 : decode cX7_hungriest 25 = .ok (.iload_n 1, 1) := by decide +kernel
theorem dX7_hungriest_26 : decode cX7_hungriest 26 = .ok (.iload 4, 2) := by decide +kernel
theorem dX7_hungriest_28 : decode cX7_hungriest 28 = .ok (.ishr, 1) := by decide +kernel
theorem dX7_hungriest_29 : decode cX7_hungriest 29 = .ok (.iconst 1, 1) := by decide +kernel
theorem dX7_hungriest_30 : decode cX7_hungriest 30 = .ok (.iand, 1) := by decide +kernel
theorem dX7_hungriest_31 : decode cX7_hungriest 31 = .ok (.ifCond .ne 15, 3) := by decide +kernel
theorem dX7_hungriest_34 : decode cX7_hungriest 34 = .ok (.iload 5, 2) := by decide +kernel
theorem dX7_hungriest_36 : decode cX7_hungriest 36 = .ok (.iload_n 3, 1) := by decide +kernel
theorem dX7_hungriest_37 : decode cX7_hungriest 37 = .ok (.if_icmp .le 9, 3) := by decide +kernel
theorem dX7_hungriest_40 : decode cX7_hungriest 40 = .ok (.iload 4, 2) := by decide +kernel
theorem dX7_hungriest_42 : decode cX7_hungriest 42 = .ok (.istore_n 2, 1) := by decide +kernel
theorem dX7_hungriest_43 : decode cX7_hungriest 43 = .ok (.iload 5, 2) := by decide +kernel
theorem dX7_hungriest_45 : decode cX7_hungriest 45 = .ok (.istore_n 3, 1) := by decide +kernel
theorem dX7_hungriest_46 : decode cX7_hungriest 46 = .ok (.iinc 4 1, 3) := by decide +kernel
theorem dX7_hungriest_49 : decode cX7_hungriest 49 = .ok (.goto (-41), 3) := by decide +kernel
theorem dX7_hungriest_52 : decode cX7_hungriest 52 = .ok (.iload_n 2, 1) := by decide +kernel
theorem dX7_hungriest_53 : decode cX7_hungriest 53 = .ok (.ireturn, 1) := by decide +kernel
theorem dX7_serve_0 : decode cX7_serve 0 = .ok (.aload_n 1, 1) := by decide +kernel
theorem dX7_serve_1 : decode cX7_serve 1 = .ok (.iload_n 3, 1) := by decide +kernel
theorem dX7_serve_2 : decode cX7_serve 2 = .ok (.bipush 8, 2) := by decide +kernel
theorem dX7_serve_4 : decode cX7_serve 4 = .ok (.invokevirtual 55, 3) := by decide +kernel
theorem dX7_serve_7 : decode cX7_serve 7 = .ok (.istore 4, 2) := by decide +kernel
theorem dX7_serve_9 : decode cX7_serve 9 = .ok (.iload 4, 2) := by decide +kernel
theorem dX7_serve_11 : decode cX7_serve 11 = .ok (.bipush 8, 2) := by decide +kernel
theorem dX7_serve_13 : decode cX7_serve 13 = .ok (.if_icmp .eq 12, 3) := by decide +kernel
theorem dX7_serve_16 : decode cX7_serve 16 = .ok (.aload_n 0, 1) := by decide +kernel
theorem dX7_serve_17 : decode cX7_serve 17 = .ok (.getfield 9, 3) := by decide +kernel
theorem dX7_serve_20 : decode cX7_serve 20 = .ok (.bipush 8, 2) := by decide +kernel
theorem dX7_serve_22 : decode cX7_serve 22 = .ok (.if_icmp .lt 4, 3) := by decide +kernel
theorem dX7_serve_25 : decode cX7_serve 25 = .ok (.return_, 1) := by decide +kernel
theorem dX7_serve_26 : decode cX7_serve 26 = .ok (.aload_n 2, 1) := by decide +kernel
theorem dX7_serve_27 : decode cX7_serve 27 = .ok (.aload_n 1, 1) := by decide +kernel
theorem dX7_serve_28 : decode cX7_serve 28 = .ok (.iload 4, 2) := by decide +kernel
theorem dX7_serve_30 : decode cX7_serve 30 = .ok (.iload_n 3, 1) := by decide +kernel
theorem dX7_serve_31 : decode cX7_serve 31 = .ok (.invokevirtual 59, 3) := by decide +kernel
theorem dX7_serve_34 : decode cX7_serve 34 = .ok (.aload_n 1, 1) := by decide +kernel
theorem dX7_serve_35 : decode cX7_serve 35 = .ok (.iload_n 3, 1) := by decide +kernel
theorem dX7_serve_36 : decode cX7_serve 36 = .ok (.invokevirtual 51, 3) := by decide +kernel
theorem dX7_serve_39 : decode cX7_serve 39 = .ok (.aload_n 1, 1) := by decide +kernel
theorem dX7_serve_40 : decode cX7_serve 40 = .ok (.bipush 8, 2) := by decide +kernel
theorem dX7_serve_42 : decode cX7_serve 42 = .ok (.iload_n 3, 1) := by decide +kernel
theorem dX7_serve_43 : decode cX7_serve 43 = .ok (.iadd, 1) := by decide +kernel
theorem dX7_serve_44 : decode cX7_serve 44 = .ok (.invokevirtual 62, 3) := by decide +kernel
theorem dX7_serve_47 : decode cX7_serve 47 = .ok (.aload_n 1, 1) := by decide +kernel
theorem dX7_serve_48 : decode cX7_serve 48 = .ok (.bipush 19, 2) := by decide +kernel
theorem dX7_serve_50 : decode cX7_serve 50 = .ok (.invokevirtual 62, 3) := by decide +kernel
theorem dX7_serve_53 : decode cX7_serve 53 = .ok (.aload_n 0, 1) := by decide +kernel
theorem dX7_serve_54 : decode cX7_serve 54 = .ok (.getfield 9, 3) := by decide +kernel
theorem dX7_serve_57 : decode cX7_serve 57 = .ok (.invokevirtual 65, 3) := by decide +kernel
theorem dX7_serve_60 : decode cX7_serve 60 = .ok (.bipush 8, 2) := by decide +kernel
theorem dX7_serve_62 : decode cX7_serve 62 = .ok (.istore 5, 2) := by decide +kernel
theorem dX7_serve_64 : decode cX7_serve 64 = .ok (.iconst (-1), 1) := by decide +kernel
theorem dX7_serve_65 : decode cX7_serve 65 = .ok (.istore 6, 2) := by decide +kernel
theorem dX7_serve_67 : decode cX7_serve 67 = .ok (.iconst 0, 1) := by decide +kernel
theorem dX7_serve_68 : decode cX7_serve 68 = .ok (.istore 7, 2) := by decide +kernel
theorem dX7_serve_70 : decode cX7_serve 70 = .ok (.iload 7, 2) := by decide +kernel
theorem dX7_serve_72 : decode cX7_serve 72 = .ok (.aload_n 1, 1) := by decide +kernel
theorem dX7_serve_73 : decode cX7_serve 73 = .ok (.getfield 34, 3) := by decide +kernel
theorem dX7_serve_76 : decode cX7_serve 76 = .ok (.if_icmp .ge 59, 3) := by decide +kernel
theorem dX7_serve_79 : decode cX7_serve 79 = .ok (.aload_n 1, 1) := by decide +kernel
theorem dX7_serve_80 : decode cX7_serve 80 = .ok (.iload 7, 2) := by decide +kernel
theorem dX7_serve_82 : decode cX7_serve 82 = .ok (.iload_n 3, 1) := by decide +kernel
theorem dX7_serve_83 : decode cX7_serve 83 = .ok (.invokevirtual 59, 3) := by decide +kernel
theorem dX7_serve_86 : decode cX7_serve 86 = .ok (.ineg, 1) := by decide +kernel
theorem dX7_serve_87 : decode cX7_serve 87 = .ok (.istore 8, 2) := by decide +kernel
theorem dX7_serve_89 : decode cX7_serve 89 = .ok (.iload 8, 2) := by decide +kernel
theorem dX7_serve_91 : decode cX7_serve 91 = .ok (.ifCond .le 38, 3) := by decide +kernel
theorem dX7_serve_94 : decode cX7_serve 94 = .ok (.aload_n 0, 1) := by decide +kernel
theorem dX7_serve_95 : decode cX7_serve 95 = .ok (.getfield 31, 3) := by decide +kernel
theorem dX7_serve_98 : decode cX7_serve 98 = .ok (.iload 7, 2) := by decide +kernel
theorem dX7_serve_100 : decode cX7_serve 100 = .ok (.ishr, 1) := by decide +kernel
theorem dX7_serve_101 : decode cX7_serve 101 = .ok (.iconst 1, 1) := by decide +kernel
theorem dX7_serve_102 : decode cX7_serve 102 = .ok (.iand, 1) := by decide +kernel
theorem dX7_serve_103 : decode cX7_serve 103 = .ok (.ifCond .ne 26, 3) := by decide +kernel
theorem dX7_serve_106 : decode cX7_serve 106 = .ok (.aload_n 2, 1) := by decide +kernel
theorem dX7_serve_107 : decode cX7_serve 107 = .ok (.iload 8, 2) := by decide +kernel
theorem dX7_serve_109 : decode cX7_serve 109 = .ok (.invokevirtual 71, 3) := by decide +kernel
theorem dX7_serve_112 : decode cX7_serve 112 = .ok (.istore 9, 2) := by decide +kernel
theorem dX7_serve_114 : decode cX7_serve 114 = .ok (.iload 9, 2) := by decide +kernel
theorem dX7_serve_116 : decode cX7_serve 116 = .ok (.iload 6, 2) := by decide +kernel
theorem dX7_serve_118 : decode cX7_serve 118 = .ok (.if_icmp .le 11, 3) := by decide +kernel
theorem dX7_serve_121 : decode cX7_serve 121 = .ok (.iload 7, 2) := by decide +kernel
theorem dX7_serve_123 : decode cX7_serve 123 = .ok (.istore 5, 2) := by decide +kernel
theorem dX7_serve_125 : decode cX7_serve 125 = .ok (.iload 9, 2) := by decide +kernel
theorem dX7_serve_127 : decode cX7_serve 127 = .ok (.istore 6, 2) := by decide +kernel
theorem dX7_serve_129 : decode cX7_serve 129 = .ok (.iinc 7 1, 3) := by decide +kernel
theorem dX7_serve_132 : decode cX7_serve 132 = .ok (.goto (-62), 3) := by decide +kernel
theorem dX7_serve_135 : decode cX7_serve 135 = .ok (.iload 5, 2) := by decide +kernel
theorem dX7_serve_137 : decode cX7_serve 137 = .ok (.bipush 8, 2) := by decide +kernel
theorem dX7_serve_139 : decode cX7_serve 139 = .ok (.if_icmp .ne 4, 3) := by decide +kernel
theorem dX7_serve_142 : decode cX7_serve 142 = .ok (.return_, 1) := by decide +kernel
theorem dX7_serve_143 : decode cX7_serve 143 = .ok (.aload_n 1, 1) := by decide +kernel
theorem dX7_serve_144 : decode cX7_serve 144 = .ok (.iload 5, 2) := by decide +kernel
theorem dX7_serve_146 : decode cX7_serve 146 = .ok (.iload_n 3, 1) := by decide +kernel
theorem dX7_serve_147 : decode cX7_serve 147 = .ok (.invokevirtual 59, 3) := by decide +kernel
theorem dX7_serve_150 : decode cX7_serve 150 = .ok (.aload_n 1, 1) := by decide +kernel
theorem dX7_serve_151 : decode cX7_serve 151 = .ok (.bipush 16, 2) := by decide +kernel
theorem dX7_serve_153 : decode cX7_serve 153 = .ok (.invokevirtual 62, 3) := by decide +kernel
theorem dX7_serve_156 : decode cX7_serve 156 = .ok (.iadd, 1) := by decide +kernel
theorem dX7_serve_157 : decode cX7_serve 157 = .ok (.istore 7, 2) := by decide +kernel
theorem dX7_serve_159 : decode cX7_serve 159 = .ok (.aload_n 1, 1) := by decide +kernel
theorem dX7_serve_160 : decode cX7_serve 160 = .ok (.iload 5, 2) := by decide +kernel
theorem dX7_serve_162 : decode cX7_serve 162 = .ok (.iload_n 3, 1) := by decide +kernel
theorem dX7_serve_163 : decode cX7_serve 163 = .ok (.iload 7, 2) := by decide +kernel
theorem dX7_serve_165 : decode cX7_serve 165 = .ok (.bipush 9, 2) := by decide +kernel
theorem dX7_serve_167 : decode cX7_serve 167 = .ok (.invokestatic 74, 3) := by decide +kernel
theorem dX7_serve_170 : decode cX7_serve 170 = .ok (.invokevirtual 79, 3) := by decide +kernel
theorem dX7_serve_173 : decode cX7_serve 173 = .ok (.aload_n 1, 1) := by decide +kernel
theorem dX7_serve_174 : decode cX7_serve 174 = .ok (.iload_n 3, 1) := by decide +kernel
theorem dX7_serve_175 : decode cX7_serve 175 = .ok (.iload 6, 2) := by decide +kernel
theorem dX7_serve_177 : decode cX7_serve 177 = .ok (.invokevirtual 83, 3) := by decide +kernel
theorem dX7_serve_180 : decode cX7_serve 180 = .ok (.aload_n 0, 1) := by decide +kernel
theorem dX7_serve_181 : decode cX7_serve 181 = .ok (.getfield 15, 3) := by decide +kernel
theorem dX7_serve_184 : decode cX7_serve 184 = .ok (.aload_n 0, 1) := by decide +kernel
theorem dX7_serve_185 : decode cX7_serve 185 = .ok (.getfield 9, 3) := by decide +kernel
theorem dX7_serve_188 : decode cX7_serve 188 = .ok (.iload_n 3, 1) := by decide +kernel
theorem dX7_serve_189 : decode cX7_serve 189 = .ok (.iastore, 1) := by decide +kernel
theorem dX7_serve_190 : decode cX7_serve 190 = .ok (.aload_n 0, 1) := by decide +kernel
theorem dX7_serve_191 : decode cX7_serve 191 = .ok (.getfield 19, 3) := by decide +kernel
theorem dX7_serve_194 : decode cX7_serve 194 = .ok (.aload_n 0, 1) := by decide +kernel
theorem dX7_serve_195 : decode cX7_serve 195 = .ok (.getfield 9, 3) := by decide +kernel
theorem dX7_serve_198 : decode cX7_serve 198 = .ok (.iload 5, 2) := by decide +kernel
theorem dX7_serve_200 : decode cX7_serve 200 = .ok (.iastore, 1) := by decide +kernel
theorem dX7_serve_201 : decode cX7_serve 201 = .ok (.aload_n 0, 1) := by decide +kernel
theorem dX7_serve_202 : decode cX7_serve 202 = .ok (.getfield 22, 3) := by decide +kernel
theorem dX7_serve_205 : decode cX7_serve 205 = .ok (.aload_n 0, 1) := by decide +kernel
theorem dX7_serve_206 : decode cX7_serve 206 = .ok (.getfield 9, 3) := by decide +kernel
theorem dX7_serve_209 : decode cX7_serve 209 = .ok (.iload 4, 2) := by decide +kernel
theorem dX7_serve_211 : decode cX7_serve 211 = .ok (.iastore, 1) := by decide +kernel
theorem dX7_serve_212 : decode cX7_serve 212 = .ok (.aload_n 0, 1) := by decide +kernel
theorem dX7_serve_213 : decode cX7_serve 213 = .ok (.getfield 25, 3) := by decide +kernel
theorem dX7_serve_216 : decode cX7_serve 216 = .ok (.aload_n 0, 1) := by decide +kernel
theorem dX7_serve_217 : decode cX7_serve 217 = .ok (.getfield 9, 3) := by decide +kernel
theorem dX7_serve_220 : decode cX7_serve 220 = .ok (.iload 6, 2) := by decide +kernel
theorem dX7_serve_222 : decode cX7_serve 222 = .ok (.iastore, 1) := by decide +kernel
theorem dX7_serve_223 : decode cX7_serve 223 = .ok (.aload_n 0, 1) := by decide +kernel
theorem dX7_serve_224 : decode cX7_serve 224 = .ok (.dup, 1) := by decide +kernel
theorem dX7_serve_225 : decode cX7_serve 225 = .ok (.getfield 9, 3) := by decide +kernel
theorem dX7_serve_228 : decode cX7_serve 228 = .ok (.iconst 1, 1) := by decide +kernel
theorem dX7_serve_229 : decode cX7_serve 229 = .ok (.iadd, 1) := by decide +kernel
theorem dX7_serve_230 : decode cX7_serve 230 = .ok (.putfield 9, 3) := by decide +kernel
theorem dX7_serve_233 : decode cX7_serve 233 = .ok (.aload_n 0, 1) := by decide +kernel
theorem dX7_serve_234 : decode cX7_serve 234 = .ok (.dup, 1) := by decide +kernel
theorem dX7_serve_235 : decode cX7_serve 235 = .ok (.getfield 28, 3) := by decide +kernel
theorem dX7_serve_238 : decode cX7_serve 238 = .ok (.iconst 1, 1) := by decide +kernel
theorem dX7_serve_239 : decode cX7_serve 239 = .ok (.iload_n 3, 1) := by decide +kernel
theorem dX7_serve_240 : decode cX7_serve 240 = .ok (.ishl, 1) := by decide +kernel
theorem dX7_serve_241 : decode cX7_serve 241 = .ok (.ior, 1) := by decide +kernel
theorem dX7_serve_242 : decode cX7_serve 242 = .ok (.putfield 28, 3) := by decide +kernel
theorem dX7_serve_245 : decode cX7_serve 245 = .ok (.aload_n 0, 1) := by decide +kernel
theorem dX7_serve_246 : decode cX7_serve 246 = .ok (.dup, 1) := by decide +kernel
theorem dX7_serve_247 : decode cX7_serve 247 = .ok (.getfield 31, 3) := by decide +kernel
theorem dX7_serve_250 : decode cX7_serve 250 = .ok (.iconst 1, 1) := by decide +kernel
theorem dX7_serve_251 : decode cX7_serve 251 = .ok (.iload 5, 2) := by decide +kernel
theorem dX7_serve_253 : decode cX7_serve 253 = .ok (.ishl, 1) := by decide +kernel
theorem dX7_serve_254 : decode cX7_serve 254 = .ok (.ior, 1) := by decide +kernel
theorem dX7_serve_255 : decode cX7_serve 255 = .ok (.putfield 31, 3) := by decide +kernel
theorem dX7_serve_258 : decode cX7_serve 258 = .ok (.return_, 1) := by decide +kernel
theorem dX7_weigherOf_0 : decode cX7_weigherOf 0 = .ok (.iconst 0, 1) := by decide +kernel
theorem dX7_weigherOf_1 : decode cX7_weigherOf 1 = .ok (.istore_n 2, 1) := by decide +kernel
theorem dX7_weigherOf_2 : decode cX7_weigherOf 2 = .ok (.iload_n 2, 1) := by decide +kernel
theorem dX7_weigherOf_3 : decode cX7_weigherOf 3 = .ok (.aload_n 0, 1) := by decide +kernel
theorem dX7_weigherOf_4 : decode cX7_weigherOf 4 = .ok (.getfield 9, 3) := by decide +kernel
theorem dX7_weigherOf_7 : decode cX7_weigherOf 7 = .ok (.if_icmp .ge 32, 3) := by decide +kernel
theorem dX7_weigherOf_10 : decode cX7_weigherOf 10 = .ok (.iload_n 2, 1) := by decide +kernel
theorem dX7_weigherOf_11 : decode cX7_weigherOf 11 = .ok (.bipush 8, 2) := by decide +kernel
theorem dX7_weigherOf_13 : decode cX7_weigherOf 13 = .ok (.if_icmp .ge 26, 3) := by decide +kernel
theorem dX7_weigherOf_16 : decode cX7_weigherOf 16 = .ok (.aload_n 0, 1) := by decide +kernel
theorem dX7_weigherOf_17 : decode cX7_weigherOf 17 = .ok (.getfield 15, 3) := by decide +kernel
theorem dX7_weigherOf_20 : decode cX7_weigherOf 20 = .ok (.iload_n 2, 1) := by decide +kernel
theorem dX7_weigherOf_21 : decode cX7_weigherOf 21 = .ok (.iaload, 1) := by decide +kernel
theorem dX7_weigherOf_22 : decode cX7_weigherOf 22 = .ok (.iload_n 1, 1) := by decide +kernel
theorem dX7_weigherOf_23 : decode cX7_weigherOf 23 = .ok (.if_icmp .ne 10, 3) := by decide +kernel
theorem dX7_weigherOf_26 : decode cX7_weigherOf 26 = .ok (.aload_n 0, 1) := by decide +kernel
theorem dX7_weigherOf_27 : decode cX7_weigherOf 27 = .ok (.getfield 19, 3) := by decide +kernel
theorem dX7_weigherOf_30 : decode cX7_weigherOf 30 = .ok (.iload_n 2, 1) := by decide +kernel
theorem dX7_weigherOf_31 : decode cX7_weigherOf 31 = .ok (.iaload, 1) := by decide +kernel
theorem dX7_weigherOf_32 : decode cX7_weigherOf 32 = .ok (.ireturn, 1) := by decide +kernel
theorem dX7_weigherOf_33 : decode cX7_weigherOf 33 = .ok (.iinc 2 1, 3) := by decide +kernel
theorem dX7_weigherOf_36 : decode cX7_weigherOf 36 = .ok (.goto (-34), 3) := by decide +kernel
theorem dX7_weigherOf_39 : decode cX7_weigherOf 39 = .ok (.bipush 8, 2) := by decide +kernel
theorem dX7_weigherOf_41 : decode cX7_weigherOf 41 = .ok (.ireturn, 1) := by decide +kernel
theorem dX8_init_0 : decode cX8_init 0 = .ok (.aload_n 0, 1) := by decide +kernel
theorem dX8_init_1 : decode cX8_init 1 = .ok (.invokespecial 3, 3) := by decide +kernel
theorem dX8_init_4 : decode cX8_init 4 = .ok (.aload_n 0, 1) := by decide +kernel
theorem dX8_init_5 : decode cX8_init 5 = .ok (.bipush 6, 2) := by decide +kernel
theorem dX8_init_7 : decode cX8_init 7 = .ok (.newarray .int, 2) := by decide +kernel
theorem dX8_init_9 : decode cX8_init 9 = .ok (.dup, 1) := by decide +kernel
theorem dX8_init_10 : decode cX8_init 10 = .ok (.iconst 0, 1) := by decide +kernel
theorem dX8_init_11 : decode cX8_init 11 = .ok (.bipush 6, 2) := by decide +kernel
theorem dX8_init_13 : decode cX8_init 13 = .ok (.iastore, 1) := by decide +kernel
theorem dX8_init_14 : decode cX8_init 14 = .ok (.dup, 1) := by decide +kernel
theorem dX8_init_15 : decode cX8_init 15 = .ok (.iconst 1, 1) := by decide +kernel
theorem dX8_init_16 : decode cX8_init 16 = .ok (.bipush 6, 2) := by decide +kernel
theorem dX8_init_18 : decode cX8_init 18 = .ok (.iastore, 1) := by decide +kernel
theorem dX8_init_19 : decode cX8_init 19 = .ok (.dup, 1) := by decide +kernel
theorem dX8_init_20 : decode cX8_init 20 = .ok (.iconst 2, 1) := by decide +kernel
theorem dX8_init_21 : decode cX8_init 21 = .ok (.bipush 6, 2) := by decide +kernel
theorem dX8_init_23 : decode cX8_init 23 = .ok (.iastore, 1) := by decide +kernel
theorem dX8_init_24 : decode cX8_init 24 = .ok (.dup, 1) := by decide +kernel
theorem dX8_init_25 : decode cX8_init 25 = .ok (.iconst 3, 1) := by decide +kernel
theorem dX8_init_26 : decode cX8_init 26 = .ok (.bipush 6, 2) := by decide +kernel
theorem dX8_init_28 : decode cX8_init 28 = .ok (.iastore, 1) := by decide +kernel
theorem dX8_init_29 : decode cX8_init 29 = .ok (.dup, 1) := by decide +kernel
theorem dX8_init_30 : decode cX8_init 30 = .ok (.iconst 4, 1) := by decide +kernel
theorem dX8_init_31 : decode cX8_init 31 = .ok (.bipush 6, 2) := by decide +kernel
theorem dX8_init_33 : decode cX8_init 33 = .ok (.iastore, 1) := by decide +kernel
theorem dX8_init_34 : decode cX8_init 34 = .ok (.dup, 1) := by decide +kernel
theorem dX8_init_35 : decode cX8_init 35 = .ok (.iconst 5, 1) := by decide +kernel
theorem dX8_init_36 : decode cX8_init 36 = .ok (.bipush 6, 2) := by decide +kernel
theorem dX8_init_38 : decode cX8_init 38 = .ok (.iastore, 1) := by decide +kernel
theorem dX8_init_39 : decode cX8_init 39 = .ok (.putfield 11, 3) := by decide +kernel
theorem dX8_init_42 : decode cX8_init 42 = .ok (.aload_n 0, 1) := by decide +kernel
theorem dX8_init_43 : decode cX8_init 43 = .ok (.bipush 6, 2) := by decide +kernel
theorem dX8_init_45 : decode cX8_init 45 = .ok (.newarray .int, 2) := by decide +kernel
theorem dX8_init_47 : decode cX8_init 47 = .ok (.putfield 15, 3) := by decide +kernel
theorem dX8_init_50 : decode cX8_init 50 = .ok (.aload_n 0, 1) := by decide +kernel
theorem dX8_init_51 : decode cX8_init 51 = .ok (.bipush 6, 2) := by decide +kernel
theorem dX8_init_53 : decode cX8_init 53 = .ok (.newarray .int, 2) := by decide +kernel
theorem dX8_init_55 : decode cX8_init 55 = .ok (.putfield 18, 3) := by decide +kernel
theorem dX8_init_58 : decode cX8_init 58 = .ok (.aload_n 0, 1) := by decide +kernel
theorem dX8_init_59 : decode cX8_init 59 = .ok (.sipush 360, 3) := by decide +kernel
theorem dX8_init_62 : decode cX8_init 62 = .ok (.newarray .long, 2) := by decide +kernel
theorem dX8_init_64 : decode cX8_init 64 = .ok (.putfield 21, 3) := by decide +kernel
theorem dX8_init_67 : decode cX8_init 67 = .ok (.return_, 1) := by decide +kernel
theorem dX9_init_0 : decode cX9_init 0 = .ok (.aload_n 0, 1) := by decide +kernel
theorem dX9_init_1 : decode cX9_init 1 = .ok (.invokespecial 3, 3) := by decide +kernel
theorem dX9_init_4 : decode cX9_init 4 = .ok (.aload_n 0, 1) := by decide +kernel
theorem dX9_init_5 : decode cX9_init 5 = .ok (.new 9, 3) := by decide +kernel
theorem dX9_init_8 : decode cX9_init 8 = .ok (.dup, 1) := by decide +kernel
theorem dX9_init_9 : decode cX9_init 9 = .ok (.invokespecial 11, 3) := by decide +kernel
theorem dX9_init_12 : decode cX9_init 12 = .ok (.putfield 12, 3) := by decide +kernel
theorem dX9_init_15 : decode cX9_init 15 = .ok (.aload_n 0, 1) := by decide +kernel
theorem dX9_init_16 : decode cX9_init 16 = .ok (.bipush 8, 2) := by decide +kernel
theorem dX9_init_18 : decode cX9_init 18 = .ok (.putfield 18, 3) := by decide +kernel
theorem dX9_init_21 : decode cX9_init 21 = .ok (.aload_n 0, 1) := by decide +kernel
theorem dX9_init_22 : decode cX9_init 22 = .ok (.iconst 0, 1) := by decide +kernel
theorem dX9_init_23 : decode cX9_init 23 = .ok (.putfield 22, 3) := by decide +kernel
theorem dX9_init_26 : decode cX9_init 26 = .ok (.aload_n 0, 1) := by decide +kernel
theorem dX9_init_27 : decode cX9_init 27 = .ok (.iconst 0, 1) := by decide +kernel
theorem dX9_init_28 : decode cX9_init 28 = .ok (.putfield 25, 3) := by decide +kernel
theorem dX9_init_31 : decode cX9_init 31 = .ok (.aload_n 0, 1) := by decide +kernel
theorem dX9_init_32 : decode cX9_init 32 = .ok (.iconst 0, 1) := by decide +kernel
theorem dX9_init_33 : decode cX9_init 33 = .ok (.putfield 28, 3) := by decide +kernel
theorem dX9_init_36 : decode cX9_init 36 = .ok (.aload_n 0, 1) := by decide +kernel
theorem dX9_init_37 : decode cX9_init 37 = .ok (.iconst 0, 1) := by decide +kernel
theorem dX9_init_38 : decode cX9_init 38 = .ok (.putfield 31, 3) := by decide +kernel
theorem dX9_init_41 : decode cX9_init 41 = .ok (.aload_n 0, 1) := by decide +kernel
theorem dX9_init_42 : decode cX9_init 42 = .ok (.iconst 0, 1) := by decide +kernel
theorem dX9_init_43 : decode cX9_init 43 = .ok (.putfield 34, 3) := by decide +kernel
theorem dX9_init_46 : decode cX9_init 46 = .ok (.aload_n 0, 1) := by decide +kernel
theorem dX9_init_47 : decode cX9_init 47 = .ok (.new 37, 3) := by decide +kernel
theorem dX9_init_50 : decode cX9_init 50 = .ok (.dup, 1) := by decide +kernel
theorem dX9_init_51 : decode cX9_init 51 = .ok (.invokespecial 39, 3) := by decide +kernel
theorem dX9_init_54 : decode cX9_init 54 = .ok (.putfield 40, 3) := by decide +kernel
theorem dX9_init_57 : decode cX9_init 57 = .ok (.aload_n 0, 1) := by decide +kernel
theorem dX9_init_58 : decode cX9_init 58 = .ok (.bipush 19, 2) := by decide +kernel
theorem dX9_init_60 : decode cX9_init 60 = .ok (.newarray .int, 2) := by decide +kernel
theorem dX9_init_62 : decode cX9_init 62 = .ok (.putfield 44, 3) := by decide +kernel
theorem dX9_init_65 : decode cX9_init 65 = .ok (.aload_n 0, 1) := by decide +kernel
theorem dX9_init_66 : decode cX9_init 66 = .ok (.aload_n 1, 1) := by decide +kernel
theorem dX9_init_67 : decode cX9_init 67 = .ok (.putfield 48, 3) := by decide +kernel
theorem dX9_init_70 : decode cX9_init 70 = .ok (.aload_n 0, 1) := by decide +kernel
theorem dX9_init_71 : decode cX9_init 71 = .ok (.aload_n 2, 1) := by decide +kernel
theorem dX9_init_72 : decode cX9_init 72 = .ok (.putfield 51, 3) := by decide +kernel
theorem dX9_init_75 : decode cX9_init 75 = .ok (.aload_n 0, 1) := by decide +kernel
theorem dX9_init_76 : decode cX9_init 76 = .ok (.aload_n 3, 1) := by decide +kernel
theorem dX9_init_77 : decode cX9_init 77 = .ok (.putfield 55, 3) := by decide +kernel
theorem dX9_init_80 : decode cX9_init 80 = .ok (.return_, 1) := by decide +kernel
theorem dX9_begin_0 : decode cX9_begin 0 = .ok (.aload_n 0, 1) := by decide +kernel
theorem dX9_begin_1 : decode cX9_begin 1 = .ok (.getfield 12, 3) := by decide +kernel
theorem dX9_begin_4 : decode cX9_begin 4 = .ok (.aload_n 0, 1) := by decide +kernel
theorem dX9_begin_5 : decode cX9_begin 5 = .ok (.getfield 48, 3) := by decide +kernel
theorem dX9_begin_8 : decode cX9_begin 8 = .ok (.invokevirtual 59, 3) := by decide +kernel
theorem dX9_begin_11 : decode cX9_begin 11 = .ok (.return_, 1) := by decide +kernel
theorem dX9_goOn_0 : decode cX9_goOn 0 = .ok (.iconst 0, 1) := by decide +kernel
theorem dX9_goOn_1 : decode cX9_goOn 1 = .ok (.istore_n 2, 1) := by decide +kernel
theorem dX9_goOn_2 : decode cX9_goOn 2 = .ok (.iconst 0, 1) := by decide +kernel
theorem dX9_goOn_3 : decode cX9_goOn 3 = .ok (.istore_n 3, 1) := by decide +kernel
theorem dX9_goOn_4 : decode cX9_goOn 4 = .ok (.iload_n 3, 1) := by decide +kernel
theorem dX9_goOn_5 : decode cX9_goOn 5 = .ok (.iload_n 1, 1) := by decide +kernel
theorem dX9_goOn_6 : decode cX9_goOn 6 = .ok (.if_icmp .ge 27, 3) := by decide +kernel
theorem dX9_goOn_9 : decode cX9_goOn 9 = .ok (.iload_n 2, 1) := by decide +kernel
theorem dX9_goOn_10 : decode cX9_goOn 10 = .ok (.aload_n 0, 1) := by decide +kernel
theorem dX9_goOn_11 : decode cX9_goOn 11 = .ok (.getfield 40, 3) := by decide +kernel
theorem dX9_goOn_14 : decode cX9_goOn 14 = .ok (.aload_n 0, 1) := by decide +kernel
theorem dX9_goOn_15 : decode cX9_goOn 15 = .ok (.getfield 12, 3) := by decide +kernel
theorem dX9_goOn_18 : decode cX9_goOn 18 = .ok (.aload_n 0, 1) := by decide +kernel
theorem dX9_goOn_19 : decode cX9_goOn 19 = .ok (.getfield 51, 3) := by decide +kernel
theorem dX9_goOn_22 : decode cX9_goOn 22 = .ok (.invokevirtual 63, 3) := by decide +kernel
theorem dX9_goOn_25 : decode cX9_goOn 25 = .ok (.iadd, 1) := by decide +kernel
theorem dX9_goOn_26 : decode cX9_goOn 26 = .ok (.istore_n 2, 1) := by decide +kernel
theorem dX9_goOn_27 : decode cX9_goOn 27 = .ok (.iinc 3 1, 3) := by decide +kernel
theorem dX9_goOn_30 : decode cX9_goOn 30 = .ok (.goto (-26), 3) := by decide +kernel
theorem dX9_goOn_33 : decode cX9_goOn 33 = .ok (.iload_n 2, 1) := by decide +kernel
theorem dX9_goOn_34 : decode cX9_goOn 34 = .ok (.ireturn, 1) := by decide +kernel
theorem dX9_daysFed_0 : decode cX9_daysFed 0 = .ok (.iconst 0, 1) := by decide +kernel
theorem dX9_daysFed_1 : decode cX9_daysFed 1 = .ok (.istore_n 2, 1) := by decide +kernel
theorem dX9_daysFed_2 : decode cX9_daysFed 2 = .ok (.iload_n 2, 1) := by decide +kernel
theorem dX9_daysFed_3 : decode cX9_daysFed 3 = .ok (.bipush 40, 2) := by decide +kernel
theorem dX9_daysFed_5 : decode cX9_daysFed 5 = .ok (.if_icmp .ge 40, 3) := by decide +kernel
theorem dX9_daysFed_8 : decode cX9_daysFed 8 = .ok (.aload_n 0, 1) := by decide +kernel
theorem dX9_daysFed_9 : decode cX9_daysFed 9 = .ok (.getfield 40, 3) := by decide +kernel
theorem dX9_daysFed_12 : decode cX9_daysFed 12 = .ok (.aload_n 0, 1) := by decide +kernel
theorem dX9_daysFed_13 : decode cX9_daysFed 13 = .ok (.getfield 12, 3) := by decide +kernel
theorem dX9_daysFed_16 : decode cX9_daysFed 16 = .ok (.aload_n 0, 1) := by decide +kernel
theorem dX9_daysFed_17 : decode cX9_daysFed 17 = .ok (.getfield 51, 3) := by decide +kernel
theorem dX9_daysFed_20 : decode cX9_daysFed 20 = .ok (.invokevirtual 63, 3) := by decide +kernel
theorem dX9_daysFed_23 : decode cX9_daysFed 23 = .ok (.pop, 1) := by decide +kernel
theorem dX9_daysFed_24 : decode cX9_daysFed 24 = .ok (.aload_n 0, 1) := by decide +kernel
theorem dX9_daysFed_25 : decode cX9_daysFed 25 = .ok (.getfield 40, 3) := by decide +kernel
theorem dX9_daysFed_28 : decode cX9_daysFed 28 = .ok (.iload_n 1, 1) := by decide +kernel
theorem dX9_daysFed_29 : decode cX9_daysFed 29 = .ok (.invokevirtual 67, 3) := by decide +kernel
theorem dX9_daysFed_32 : decode cX9_daysFed 32 = .ok (.bipush 8, 2) := by decide +kernel
theorem dX9_daysFed_34 : decode cX9_daysFed 34 = .ok (.if_icmp .ne 5, 3) := by decide +kernel
theorem dX9_daysFed_37 : decode cX9_daysFed 37 = .ok (.iload_n 2, 1) := by decide +kernel
theorem dX9_daysFed_38 : decode cX9_daysFed 38 = .ok (.ireturn, 1) := by decide +kernel
theorem dX9_daysFed_39 : decode cX9_daysFed 39 = .ok (.iinc 2 1, 3) := by decide +kernel
theorem dX9_daysFed_42 : decode cX9_daysFed 42 = .ok (.goto (-40), 3) := by decide +kernel
theorem dX9_daysFed_45 : decode cX9_daysFed 45 = .ok (.bipush 40, 2) := by decide +kernel
theorem dX9_daysFed_47 : decode cX9_daysFed 47 = .ok (.ireturn, 1) := by decide +kernel
theorem dX10_init_0 : decode cX10_init 0 = .ok (.aload_n 0, 1) := by decide +kernel
theorem dX10_init_1 : decode cX10_init 1 = .ok (.invokespecial 1, 3) := by decide +kernel
theorem dX10_init_4 : decode cX10_init 4 = .ok (.aload_n 0, 1) := by decide +kernel
theorem dX10_init_5 : decode cX10_init 5 = .ok (.new 7, 3) := by decide +kernel
theorem dX10_init_8 : decode cX10_init 8 = .ok (.dup, 1) := by decide +kernel
theorem dX10_init_9 : decode cX10_init 9 = .ok (.invokespecial 9, 3) := by decide +kernel
theorem dX10_init_12 : decode cX10_init 12 = .ok (.putfield 10, 3) := by decide +kernel
theorem dX10_init_15 : decode cX10_init 15 = .ok (.aload_n 0, 1) := by decide +kernel
theorem dX10_init_16 : decode cX10_init 16 = .ok (.new 16, 3) := by decide +kernel
theorem dX10_init_19 : decode cX10_init 19 = .ok (.dup, 1) := by decide +kernel
theorem dX10_init_20 : decode cX10_init 20 = .ok (.invokespecial 18, 3) := by decide +kernel
theorem dX10_init_23 : decode cX10_init 23 = .ok (.putfield 19, 3) := by decide +kernel
theorem dX10_init_26 : decode cX10_init 26 = .ok (.aload_n 0, 1) := by decide +kernel
theorem dX10_init_27 : decode cX10_init 27 = .ok (.new 23, 3) := by decide +kernel
theorem dX10_init_30 : decode cX10_init 30 = .ok (.dup, 1) := by decide +kernel
theorem dX10_init_31 : decode cX10_init 31 = .ok (.invokespecial 25, 3) := by decide +kernel
theorem dX10_init_34 : decode cX10_init 34 = .ok (.putfield 26, 3) := by decide +kernel
theorem dX10_init_37 : decode cX10_init 37 = .ok (.aload_n 0, 1) := by decide +kernel
theorem dX10_init_38 : decode cX10_init 38 = .ok (.new 30, 3) := by decide +kernel
theorem dX10_init_41 : decode cX10_init 41 = .ok (.dup, 1) := by decide +kernel
theorem dX10_init_42 : decode cX10_init 42 = .ok (.invokespecial 32, 3) := by decide +kernel
theorem dX10_init_45 : decode cX10_init 45 = .ok (.putfield 33, 3) := by decide +kernel
theorem dX10_init_48 : decode cX10_init 48 = .ok (.aload_n 0, 1) := by decide +kernel
theorem dX10_init_49 : decode cX10_init 49 = .ok (.new 37, 3) := by decide +kernel
theorem dX10_init_52 : decode cX10_init 52 = .ok (.dup, 1) := by decide +kernel
theorem dX10_init_53 : decode cX10_init 53 = .ok (.aload_n 0, 1) := by decide +kernel
theorem dX10_init_54 : decode cX10_init 54 = .ok (.getfield 10, 3) := by decide +kernel
theorem dX10_init_57 : decode cX10_init 57 = .ok (.aload_n 0, 1) := by decide +kernel
theorem dX10_init_58 : decode cX10_init 58 = .ok (.getfield 26, 3) := by decide +kernel
theorem dX10_init_61 : decode cX10_init 61 = .ok (.aload_n 0, 1) := by decide +kernel
theorem dX10_init_62 : decode cX10_init 62 = .ok (.getfield 33, 3) := by decide +kernel
theorem dX10_init_65 : decode cX10_init 65 = .ok (.invokespecial 39, 3) := by decide +kernel
theorem dX10_init_68 : decode cX10_init 68 = .ok (.putfield 42, 3) := by decide +kernel
theorem dX10_init_71 : decode cX10_init 71 = .ok (.aload_n 0, 1) := by decide +kernel
theorem dX10_init_72 : decode cX10_init 72 = .ok (.new 46, 3) := by decide +kernel
theorem dX10_init_75 : decode cX10_init 75 = .ok (.dup, 1) := by decide +kernel
theorem dX10_init_76 : decode cX10_init 76 = .ok (.aload_n 0, 1) := by decide +kernel
theorem dX10_init_77 : decode cX10_init 77 = .ok (.getfield 10, 3) := by decide +kernel
theorem dX10_init_80 : decode cX10_init 80 = .ok (.invokespecial 48, 3) := by decide +kernel
theorem dX10_init_83 : decode cX10_init 83 = .ok (.putfield 51, 3) := by decide +kernel
theorem dX10_init_86 : decode cX10_init 86 = .ok (.aload_n 0, 1) := by decide +kernel
theorem dX10_init_87 : decode cX10_init 87 = .ok (.new 55, 3) := by decide +kernel
theorem dX10_init_90 : decode cX10_init 90 = .ok (.dup, 1) := by decide +kernel
theorem dX10_init_91 : decode cX10_init 91 = .ok (.invokespecial 57, 3) := by decide +kernel
theorem dX10_init_94 : decode cX10_init 94 = .ok (.putfield 58, 3) := by decide +kernel
theorem dX10_init_97 : decode cX10_init 97 = .ok (.aload_n 0, 1) := by decide +kernel
theorem dX10_init_98 : decode cX10_init 98 = .ok (.new 62, 3) := by decide +kernel
theorem dX10_init_101 : decode cX10_init 101 = .ok (.dup, 1) := by decide +kernel
theorem dX10_init_102 : decode cX10_init 102 = .ok (.invokespecial 64, 3) := by decide +kernel
theorem dX10_init_105 : decode cX10_init 105 = .ok (.putfield 65, 3) := by decide +kernel
theorem dX10_init_108 : decode cX10_init 108 = .ok (.aload_n 0, 1) := by decide +kernel
theorem dX10_init_109 : decode cX10_init 109 = .ok (.new 69, 3) := by decide +kernel
theorem dX10_init_112 : decode cX10_init 112 = .ok (.dup, 1) := by decide +kernel
theorem dX10_init_113 : decode cX10_init 113 = .ok (.invokespecial 71, 3) := by decide +kernel
theorem dX10_init_116 : decode cX10_init 116 = .ok (.putfield 72, 3) := by decide +kernel
theorem dX10_init_119 : decode cX10_init 119 = .ok (.aload_n 0, 1) := by decide +kernel
theorem dX10_init_120 : decode cX10_init 120 = .ok (.new 76, 3) := by decide +kernel
theorem dX10_init_123 : decode cX10_init 123 = .ok (.dup, 1) := by decide +kernel
theorem dX10_init_124 : decode cX10_init 124 = .ok (.invokespecial 78, 3) := by decide +kernel
theorem dX10_init_127 : decode cX10_init 127 = .ok (.putfield 79, 3) := by decide +kernel
theorem dX10_init_130 : decode cX10_init 130 = .ok (.return_, 1) := by decide +kernel
theorem dX10_person_0 : decode cX10_person 0 = .ok (.iload_n 1, 1) := by decide +kernel
theorem dX10_person_1 : decode cX10_person 1 = .ok (.iload_n 2, 1) := by decide +kernel
theorem dX10_person_2 : decode cX10_person 2 = .ok (.invokestatic 83, 3) := by decide +kernel
theorem dX10_person_5 : decode cX10_person 5 = .ok (.ifCond .eq 15, 3) := by decide +kernel
theorem dX10_person_8 : decode cX10_person 8 = .ok (.aload_n 0, 1) := by decide +kernel
theorem dX10_person_9 : decode cX10_person 9 = .ok (.getfield 10, 3) := by decide +kernel
theorem dX10_person_12 : decode cX10_person 12 = .ok (.iload_n 1, 1) := by decide +kernel
theorem dX10_person_13 : decode cX10_person 13 = .ok (.iload_n 2, 1) := by decide +kernel
theorem dX10_person_14 : decode cX10_person 14 = .ok (.invokevirtual 87, 3) := by decide +kernel
theorem dX10_person_17 : decode cX10_person 17 = .ok (.goto 4, 3) := by decide +kernel
theorem dX10_person_20 : decode cX10_person 20 = .ok (.iconst (-1), 1) := by decide +kernel
theorem dX10_person_21 : decode cX10_person 21 = .ok (.ireturn, 1) := by decide +kernel
theorem dX10_mend_0 : decode cX10_mend 0 = .ok (.aload_n 0, 1) := by decide +kernel
theorem dX10_mend_1 : decode cX10_mend 1 = .ok (.getfield 10, 3) := by decide +kernel
theorem dX10_mend_4 : decode cX10_mend 4 = .ok (.iload_n 1, 1) := by decide +kernel
theorem dX10_mend_5 : decode cX10_mend 5 = .ok (.iload_n 2, 1) := by decide +kernel
theorem dX10_mend_6 : decode cX10_mend 6 = .ok (.invokevirtual 109, 3) := by decide +kernel
theorem dX10_mend_9 : decode cX10_mend 9 = .ok (.istore 4, 2) := by decide +kernel
theorem dX10_mend_11 : decode cX10_mend 11 = .ok (.iload 4, 2) := by decide +kernel
theorem dX10_mend_13 : decode cX10_mend 13 = .ok (.ifCond .lt 15, 3) := by decide +kernel
theorem dX10_mend_16 : decode cX10_mend 16 = .ok (.iload_n 3, 1) := by decide +kernel
theorem dX10_mend_17 : decode cX10_mend 17 = .ok (.ifCond .lt 11, 3) := by decide +kernel
theorem dX10_mend_20 : decode cX10_mend 20 = .ok (.iload_n 3, 1) := by decide +kernel
theorem dX10_mend_21 : decode cX10_mend 21 = .ok (.iload_n 2, 1) := by decide +kernel
theorem dX10_mend_22 : decode cX10_mend 22 = .ok (.invokestatic 112, 3) := by decide +kernel
theorem dX10_mend_25 : decode cX10_mend 25 = .ok (.if_icmp .le 5, 3) := by decide +kernel
theorem dX10_mend_28 : decode cX10_mend 28 = .ok (.iconst (-1), 1) := by decide +kernel
theorem dX10_mend_29 : decode cX10_mend 29 = .ok (.ireturn, 1) := by decide +kernel
theorem dX10_mend_30 : decode cX10_mend 30 = .ok (.aload_n 0, 1) := by decide +kernel
theorem dX10_mend_31 : decode cX10_mend 31 = .ok (.iload 4, 2) := by decide +kernel
theorem dX10_mend_33 : decode cX10_mend 33 = .ok (.iload_n 3, 1) := by decide +kernel
theorem dX10_mend_34 : decode cX10_mend 34 = .ok (.invokevirtual 115, 3) := by decide +kernel
theorem dX10_mend_37 : decode cX10_mend 37 = .ok (.ireturn, 1) := by decide +kernel
theorem dX10_of_0 : decode cX10_of 0 = .ok (.aload_n 0, 1) := by decide +kernel
theorem dX10_of_1 : decode cX10_of 1 = .ok (.getfield 10, 3) := by decide +kernel
theorem dX10_of_4 : decode cX10_of 4 = .ok (.iload_n 1, 1) := by decide +kernel
theorem dX10_of_5 : decode cX10_of 5 = .ok (.iload_n 2, 1) := by decide +kernel
theorem dX10_of_6 : decode cX10_of 6 = .ok (.invokevirtual 109, 3) := by decide +kernel
theorem dX10_of_9 : decode cX10_of 9 = .ok (.istore_n 3, 1) := by decide +kernel
theorem dX10_of_10 : decode cX10_of 10 = .ok (.iload_n 3, 1) := by decide +kernel
theorem dX10_of_11 : decode cX10_of 11 = .ok (.ifCond .ge 7, 3) := by decide +kernel
theorem dX10_of_14 : decode cX10_of 14 = .ok (.iconst (-1), 1) := by decide +kernel
theorem dX10_of_15 : decode cX10_of 15 = .ok (.goto 11, 3) := by decide +kernel
theorem dX10_of_18 : decode cX10_of 18 = .ok (.aload_n 0, 1) := by decide +kernel
theorem dX10_of_19 : decode cX10_of 19 = .ok (.getfield 10, 3) := by decide +kernel
theorem dX10_of_22 : decode cX10_of 22 = .ok (.iload_n 3, 1) := by decide +kernel
theorem dX10_of_23 : decode cX10_of 23 = .ok (.invokevirtual 118, 3) := by decide +kernel
theorem dX10_of_26 : decode cX10_of 26 = .ok (.ireturn, 1) := by decide +kernel
theorem dX10_feel_0 : decode cX10_feel 0 = .ok (.aload_n 0, 1) := by decide +kernel
theorem dX10_feel_1 : decode cX10_feel 1 = .ok (.getfield 10, 3) := by decide +kernel
theorem dX10_feel_4 : decode cX10_feel 4 = .ok (.iload_n 1, 1) := by decide +kernel
theorem dX10_feel_5 : decode cX10_feel 5 = .ok (.invokevirtual 121, 3) := by decide +kernel
theorem dX10_feel_8 : decode cX10_feel 8 = .ok (.ifCond .eq 10, 3) := by decide +kernel
theorem dX10_feel_11 : decode cX10_feel 11 = .ok (.iload_n 2, 1) := by decide +kernel
theorem dX10_feel_12 : decode cX10_feel 12 = .ok (.invokestatic 124, 3) := by decide +kernel
theorem dX10_feel_15 : decode cX10_feel 15 = .ok (.ifCond .ne 5, 3) := by decide +kernel
theorem dX10_feel_18 : decode cX10_feel 18 = .ok (.iconst (-1), 1) := by decide +kernel
theorem dX10_feel_19 : decode cX10_feel 19 = .ok (.ireturn, 1) := by decide +kernel
theorem dX10_feel_20 : decode cX10_feel 20 = .ok (.aload_n 0, 1) := by decide +kernel
theorem dX10_feel_21 : decode cX10_feel 21 = .ok (.iload_n 1, 1) := by decide +kernel
theorem dX10_feel_22 : decode cX10_feel 22 = .ok (.bipush 10, 2) := by decide +kernel
theorem dX10_feel_24 : decode cX10_feel 24 = .ok (.idiv, 1) := by decide +kernel
theorem dX10_feel_25 : decode cX10_feel 25 = .ok (.iload_n 1, 1) := by decide +kernel
theorem dX10_feel_26 : decode cX10_feel 26 = .ok (.bipush 10, 2) := by decide +kernel
theorem dX10_feel_28 : decode cX10_feel 28 = .ok (.irem, 1) := by decide +kernel
theorem dX10_feel_29 : decode cX10_feel 29 = .ok (.invokestatic 127, 3) := by decide +kernel
theorem dX10_feel_32 : decode cX10_feel 32 = .ok (.iload_n 2, 1) := by decide +kernel
theorem dX10_feel_33 : decode cX10_feel 33 = .ok (.invokevirtual 115, 3) := by decide +kernel
theorem dX10_feel_36 : decode cX10_feel 36 = .ok (.bipush 100, 2) := by decide +kernel
theorem dX10_feel_38 : decode cX10_feel 38 = .ok (.iadd, 1) := by decide +kernel
theorem dX10_feel_39 : decode cX10_feel 39 = .ok (.ireturn, 1) := by decide +kernel
theorem dX10_feeling_0 : decode cX10_feeling 0 = .ok (.aload_n 0, 1) := by decide +kernel
theorem dX10_feeling_1 : decode cX10_feeling 1 = .ok (.getfield 10, 3) := by decide +kernel
theorem dX10_feeling_4 : decode cX10_feeling 4 = .ok (.iload_n 1, 1) := by decide +kernel
theorem dX10_feeling_5 : decode cX10_feeling 5 = .ok (.invokevirtual 121, 3) := by decide +kernel
theorem dX10_feeling_8 : decode cX10_feeling 8 = .ok (.ifCond .eq 24, 3) := by decide +kernel
theorem dX10_feeling_11 : decode cX10_feeling 11 = .ok (.aload_n 0, 1) := by decide +kernel
theorem dX10_feeling_12 : decode cX10_feeling 12 = .ok (.getfield 10, 3) := by decide +kernel
theorem dX10_feeling_15 : decode cX10_feeling 15 = .ok (.iload_n 1, 1) := by decide +kernel
theorem dX10_feeling_16 : decode cX10_feeling 16 = .ok (.bipush 10, 2) := by decide +kernel
theorem dX10_feeling_18 : decode cX10_feeling 18 = .ok (.idiv, 1) := by decide +kernel
theorem dX10_feeling_19 : decode cX10_feeling 19 = .ok (.iload_n 1, 1) := by decide +kernel
theorem dX10_feeling_20 : decode cX10_feeling 20 = .ok (.bipush 10, 2) := by decide +kernel
theorem dX10_feeling_22 : decode cX10_feeling 22 = .ok (.irem, 1) := by decide +kernel
theorem dX10_feeling_23 : decode cX10_feeling 23 = .ok (.invokevirtual 130, 3) := by decide +kernel
theorem dX10_feeling_26 : decode cX10_feeling 26 = .ok (.bipush 100, 2) := by decide +kernel
theorem dX10_feeling_28 : decode cX10_feeling 28 = .ok (.iadd, 1) := by decide +kernel
theorem dX10_feeling_29 : decode cX10_feeling 29 = .ok (.goto 4, 3) := by decide +kernel
theorem dX10_feeling_32 : decode cX10_feeling 32 = .ok (.iconst (-1), 1) := by decide +kernel
theorem dX10_feeling_33 : decode cX10_feeling 33 = .ok (.ireturn, 1) := by decide +kernel
theorem dX10_feed_0 : decode cX10_feed 0 = .ok (.iload_n 1, 1) := by decide +kernel
theorem dX10_feed_1 : decode cX10_feed 1 = .ok (.ifCond .lt 10, 3) := by decide +kernel
theorem dX10_feed_4 : decode cX10_feed 4 = .ok (.iload_n 1, 1) := by decide +kernel
theorem dX10_feed_5 : decode cX10_feed 5 = .ok (.sipush 255, 3) := by decide +kernel
theorem dX10_feed_8 : decode cX10_feed 8 = .ok (.if_icmp .le 7, 3) := by decide +kernel
theorem dX10_feed_11 : decode cX10_feed 11 = .ok (.iconst (-1), 1) := by decide +kernel
theorem dX10_feed_12 : decode cX10_feed 12 = .ok (.goto 11, 3) := by decide +kernel
theorem dX10_feed_15 : decode cX10_feed 15 = .ok (.aload_n 0, 1) := by decide +kernel
theorem dX10_feed_16 : decode cX10_feed 16 = .ok (.getfield 19, 3) := by decide +kernel
theorem dX10_feed_19 : decode cX10_feed 19 = .ok (.iload_n 1, 1) := by decide +kernel
theorem dX10_feed_20 : decode cX10_feed 20 = .ok (.invokevirtual 133, 3) := by decide +kernel
theorem dX10_feed_23 : decode cX10_feed 23 = .ok (.ireturn, 1) := by decide +kernel
theorem dX10_law_0 : decode cX10_law 0 = .ok (.aload_n 0, 1) := by decide +kernel
theorem dX10_law_1 : decode cX10_law 1 = .ok (.getfield 19, 3) := by decide +kernel
theorem dX10_law_4 : decode cX10_law 4 = .ok (.invokevirtual 136, 3) := by decide +kernel
theorem dX10_law_7 : decode cX10_law 7 = .ok (.istore_n 1, 1) := by decide +kernel
theorem dX10_law_8 : decode cX10_law 8 = .ok (.iload_n 1, 1) := by decide +kernel
theorem dX10_law_9 : decode cX10_law 9 = .ok (.iconst (-1), 1) := by decide +kernel
theorem dX10_law_10 : decode cX10_law 10 = .ok (.if_icmp .ne 14, 3) := by decide +kernel
theorem dX10_law_13 : decode cX10_law 13 = .ok (.aload_n 0, 1) := by decide +kernel
theorem dX10_law_14 : decode cX10_law 14 = .ok (.getfield 26, 3) := by decide +kernel
theorem dX10_law_17 : decode cX10_law 17 = .ok (.aload_n 0, 1) := by decide +kernel
theorem dX10_law_18 : decode cX10_law 18 = .ok (.getfield 19, 3) := by decide +kernel
theorem dX10_law_21 : decode cX10_law 21 = .ok (.invokevirtual 140, 3) := by decide +kernel
theorem dX10_law_24 : decode cX10_law 24 = .ok (.aload_n 0, 1) := by decide +kernel
theorem dX10_law_25 : decode cX10_law 25 = .ok (.getfield 19, 3) := by decide +kernel
theorem dX10_law_28 : decode cX10_law 28 = .ok (.invokevirtual 144, 3) := by decide +kernel
theorem dX10_law_31 : decode cX10_law 31 = .ok (.iload_n 1, 1) := by decide +kernel
theorem dX10_law_32 : decode cX10_law 32 = .ok (.iconst (-1), 1) := by decide +kernel
theorem dX10_law_33 : decode cX10_law 33 = .ok (.if_icmp .ne 7, 3) := by decide +kernel
theorem dX10_law_36 : decode cX10_law 36 = .ok (.iconst 1, 1) := by decide +kernel
theorem dX10_law_37 : decode cX10_law 37 = .ok (.goto 7, 3) := by decide +kernel
theorem dX10_law_40 : decode cX10_law 40 = .ok (.bipush (-100), 2) := by decide +kernel
theorem dX10_law_42 : decode cX10_law 42 = .ok (.iload_n 1, 1) := by decide +kernel
theorem dX10_law_43 : decode cX10_law 43 = .ok (.isub, 1) := by decide +kernel
theorem dX10_law_44 : decode cX10_law 44 = .ok (.ireturn, 1) := by decide +kernel
theorem dX10_changeTo_0 : decode cX10_changeTo 0 = .ok (.aload_n 0, 1) := by decide +kernel
theorem dX10_changeTo_1 : decode cX10_changeTo 1 = .ok (.getfield 10, 3) := by decide +kernel
theorem dX10_changeTo_4 : decode cX10_changeTo 4 = .ok (.iload_n 1, 1) := by decide +kernel
theorem dX10_changeTo_5 : decode cX10_changeTo 5 = .ok (.invokevirtual 118, 3) := by decide +kernel
theorem dX10_changeTo_8 : decode cX10_changeTo 8 = .ok (.istore_n 3, 1) := by decide +kernel
theorem dX10_changeTo_9 : decode cX10_changeTo 9 = .ok (.iload_n 3, 1) := by decide +kernel
theorem dX10_changeTo_10 : decode cX10_changeTo 10 = .ok (.iload_n 2, 1) := by decide +kernel
theorem dX10_changeTo_11 : decode cX10_changeTo 11 = .ok (.if_icmp .eq 22, 3) := by decide +kernel
theorem dX10_changeTo_14 : decode cX10_changeTo 14 = .ok (.aload_n 0, 1) := by decide +kernel
theorem dX10_changeTo_15 : decode cX10_changeTo 15 = .ok (.getfield 72, 3) := by decide +kernel
theorem dX10_changeTo_18 : decode cX10_changeTo 18 = .ok (.iload_n 1, 1) := by decide +kernel
theorem dX10_changeTo_19 : decode cX10_changeTo 19 = .ok (.iload_n 3, 1) := by decide +kernel
theorem dX10_changeTo_20 : decode cX10_changeTo 20 = .ok (.iload_n 2, 1) := by decide +kernel
theorem dX10_changeTo_21 : decode cX10_changeTo 21 = .ok (.invokevirtual 147, 3) := by decide +kernel
theorem dX10_changeTo_24 : decode cX10_changeTo 24 = .ok (.aload_n 0, 1) := by decide +kernel
theorem dX10_changeTo_25 : decode cX10_changeTo 25 = .ok (.getfield 10, 3) := by decide +kernel
theorem dX10_changeTo_28 : decode cX10_changeTo 28 = .ok (.iload_n 1, 1) := by decide +kernel
theorem dX10_changeTo_29 : decode cX10_changeTo 29 = .ok (.iload_n 2, 1) := by decide +kernel
theorem dX10_changeTo_30 : decode cX10_changeTo 30 = .ok (.invokevirtual 151, 3) := by decide +kernel
theorem dX10_changeTo_33 : decode cX10_changeTo 33 = .ok (.iload_n 3, 1) := by decide +kernel
theorem dX10_changeTo_34 : decode cX10_changeTo 34 = .ok (.ireturn, 1) := by decide +kernel
theorem dX10_later_0 : decode cX10_later 0 = .ok (.iload_n 1, 1) := by decide +kernel
theorem dX10_later_1 : decode cX10_later 1 = .ok (.ifCond .lt 17, 3) := by decide +kernel
theorem dX10_later_4 : decode cX10_later 4 = .ok (.iload_n 1, 1) := by decide +kernel
theorem dX10_later_5 : decode cX10_later 5 = .ok (.bipush 40, 2) := by decide +kernel
theorem dX10_later_7 : decode cX10_later 7 = .ok (.if_icmp .gt 11, 3) := by decide +kernel
theorem dX10_later_10 : decode cX10_later 10 = .ok (.aload_n 0, 1) := by decide +kernel
theorem dX10_later_11 : decode cX10_later 11 = .ok (.iload_n 2, 1) := by decide +kernel
theorem dX10_later_12 : decode cX10_later 12 = .ok (.invokevirtual 155, 3) := by decide +kernel
theorem dX10_later_15 : decode cX10_later 15 = .ok (.ifCond .ne 5, 3) := by decide +kernel
theorem dX10_later_18 : decode cX10_later 18 = .ok (.iconst (-1), 1) := by decide +kernel
theorem dX10_later_19 : decode cX10_later 19 = .ok (.ireturn, 1) := by decide +kernel
theorem dX10_later_20 : decode cX10_later 20 = .ok (.aload_n 0, 1) := by decide +kernel
theorem dX10_later_21 : decode cX10_later 21 = .ok (.getfield 42, 3) := by decide +kernel
theorem dX10_later_24 : decode cX10_later 24 = .ok (.invokevirtual 188, 3) := by decide +kernel
theorem dX10_later_27 : decode cX10_later 27 = .ok (.aload_n 0, 1) := by decide +kernel
theorem dX10_later_28 : decode cX10_later 28 = .ok (.getfield 42, 3) := by decide +kernel
theorem dX10_later_31 : decode cX10_later 31 = .ok (.iload_n 1, 1) := by decide +kernel
theorem dX10_later_32 : decode cX10_later 32 = .ok (.invokevirtual 191, 3) := by decide +kernel
theorem dX10_later_35 : decode cX10_later 35 = .ok (.istore_n 3, 1) := by decide +kernel
theorem dX10_later_36 : decode cX10_later 36 = .ok (.iload_n 2, 1) := by decide +kernel
theorem dX10_later_37 : decode cX10_later 37 = .ok (.iconst (-1), 1) := by decide +kernel
theorem dX10_later_38 : decode cX10_later 38 = .ok (.if_icmp .ne 7, 3) := by decide +kernel
theorem dX10_later_41 : decode cX10_later 41 = .ok (.iload_n 3, 1) := by decide +kernel
theorem dX10_later_42 : decode cX10_later 42 = .ok (.goto 14, 3) := by decide +kernel
theorem dX10_later_45 : decode cX10_later 45 = .ok (.aload_n 0, 1) := by decide +kernel
theorem dX10_later_46 : decode cX10_later 46 = .ok (.getfield 42, 3) := by decide +kernel
theorem dX10_later_49 : decode cX10_later 49 = .ok (.getfield 194, 3) := by decide +kernel
theorem dX10_later_52 : decode cX10_later 52 = .ok (.iload_n 2, 1) := by decide +kernel
theorem dX10_later_53 : decode cX10_later 53 = .ok (.invokevirtual 197, 3) := by decide +kernel
theorem dX10_later_56 : decode cX10_later 56 = .ok (.ireturn, 1) := by decide +kernel
theorem dX10_feltLater_0 : decode cX10_feltLater 0 = .ok (.iload_n 1, 1) := by decide +kernel
theorem dX10_feltLater_1 : decode cX10_feltLater 1 = .ok (.ifCond .lt 20, 3) := by decide +kernel
theorem dX10_feltLater_4 : decode cX10_feltLater 4 = .ok (.iload_n 1, 1) := by decide +kernel
theorem dX10_feltLater_5 : decode cX10_feltLater 5 = .ok (.bipush 40, 2) := by decide +kernel
theorem dX10_feltLater_7 : decode cX10_feltLater 7 = .ok (.if_icmp .gt 14, 3) := by decide +kernel
theorem dX10_feltLater_10 : decode cX10_feltLater 10 = .ok (.aload_n 0, 1) := by decide +kernel
theorem dX10_feltLater_11 : decode cX10_feltLater 11 = .ok (.getfield 10, 3) := by decide +kernel
theorem dX10_feltLater_14 : decode cX10_feltLater 14 = .ok (.iload_n 2, 1) := by decide +kernel
theorem dX10_feltLater_15 : decode cX10_feltLater 15 = .ok (.invokevirtual 121, 3) := by decide +kernel
theorem dX10_feltLater_18 : decode cX10_feltLater 18 = .ok (.ifCond .ne 5, 3) := by decide +kernel
theorem dX10_feltLater_21 : decode cX10_feltLater 21 = .ok (.iconst (-1), 1) := by decide +kernel
theorem dX10_feltLater_22 : decode cX10_feltLater 22 = .ok (.ireturn, 1) := by decide +kernel
theorem dX10_feltLater_23 : decode cX10_feltLater 23 = .ok (.aload_n 0, 1) := by decide +kernel
theorem dX10_feltLater_24 : decode cX10_feltLater 24 = .ok (.getfield 42, 3) := by decide +kernel
theorem dX10_feltLater_27 : decode cX10_feltLater 27 = .ok (.invokevirtual 188, 3) := by decide +kernel
theorem dX10_feltLater_30 : decode cX10_feltLater 30 = .ok (.aload_n 0, 1) := by decide +kernel
theorem dX10_feltLater_31 : decode cX10_feltLater 31 = .ok (.getfield 42, 3) := by decide +kernel
theorem dX10_feltLater_34 : decode cX10_feltLater 34 = .ok (.iload_n 1, 1) := by decide +kernel
theorem dX10_feltLater_35 : decode cX10_feltLater 35 = .ok (.invokevirtual 191, 3) := by decide +kernel
theorem dX10_feltLater_38 : decode cX10_feltLater 38 = .ok (.pop, 1) := by decide +kernel
theorem dX10_feltLater_39 : decode cX10_feltLater 39 = .ok (.aload_n 0, 1) := by decide +kernel
theorem dX10_feltLater_40 : decode cX10_feltLater 40 = .ok (.getfield 42, 3) := by decide +kernel
theorem dX10_feltLater_43 : decode cX10_feltLater 43 = .ok (.getfield 194, 3) := by decide +kernel
theorem dX10_feltLater_46 : decode cX10_feltLater 46 = .ok (.iload_n 2, 1) := by decide +kernel
theorem dX10_feltLater_47 : decode cX10_feltLater 47 = .ok (.bipush 10, 2) := by decide +kernel
theorem dX10_feltLater_49 : decode cX10_feltLater 49 = .ok (.idiv, 1) := by decide +kernel
theorem dX10_feltLater_50 : decode cX10_feltLater 50 = .ok (.iload_n 2, 1) := by decide +kernel
theorem dX10_feltLater_51 : decode cX10_feltLater 51 = .ok (.bipush 10, 2) := by decide +kernel
theorem dX10_feltLater_53 : decode cX10_feltLater 53 = .ok (.irem, 1) := by decide +kernel
theorem dX10_feltLater_54 : decode cX10_feltLater 54 = .ok (.invokevirtual 130, 3) := by decide +kernel
theorem dX10_feltLater_57 : decode cX10_feltLater 57 = .ok (.bipush 100, 2) := by decide +kernel
theorem dX10_feltLater_59 : decode cX10_feltLater 59 = .ok (.iadd, 1) := by decide +kernel
theorem dX10_feltLater_60 : decode cX10_feltLater 60 = .ok (.ireturn, 1) := by decide +kernel
theorem dX10_lasts_0 : decode cX10_lasts 0 = .ok (.aload_n 0, 1) := by decide +kernel
theorem dX10_lasts_1 : decode cX10_lasts 1 = .ok (.getfield 10, 3) := by decide +kernel
theorem dX10_lasts_4 : decode cX10_lasts 4 = .ok (.iload_n 1, 1) := by decide +kernel
theorem dX10_lasts_5 : decode cX10_lasts 5 = .ok (.invokevirtual 181, 3) := by decide +kernel
theorem dX10_lasts_8 : decode cX10_lasts 8 = .ok (.ifCond .ne 5, 3) := by decide +kernel
theorem dX10_lasts_11 : decode cX10_lasts 11 = .ok (.iconst (-1), 1) := by decide +kernel
theorem dX10_lasts_12 : decode cX10_lasts 12 = .ok (.ireturn, 1) := by decide +kernel
theorem dX10_lasts_13 : decode cX10_lasts 13 = .ok (.aload_n 0, 1) := by decide +kernel
theorem dX10_lasts_14 : decode cX10_lasts 14 = .ok (.getfield 42, 3) := by decide +kernel
theorem dX10_lasts_17 : decode cX10_lasts 17 = .ok (.invokevirtual 188, 3) := by decide +kernel
theorem dX10_lasts_20 : decode cX10_lasts 20 = .ok (.aload_n 0, 1) := by decide +kernel
theorem dX10_lasts_21 : decode cX10_lasts 21 = .ok (.getfield 42, 3) := by decide +kernel
theorem dX10_lasts_24 : decode cX10_lasts 24 = .ok (.iload_n 1, 1) := by decide +kernel
theorem dX10_lasts_25 : decode cX10_lasts 25 = .ok (.invokevirtual 200, 3) := by decide +kernel
theorem dX10_lasts_28 : decode cX10_lasts 28 = .ok (.ireturn, 1) := by decide +kernel
theorem dX10_isOneOrAll_0 : decode cX10_isOneOrAll 0 = .ok (.iload_n 1, 1) := by decide +kernel
theorem dX10_isOneOrAll_1 : decode cX10_isOneOrAll 1 = .ok (.iconst (-1), 1) := by decide +kernel
theorem dX10_isOneOrAll_2 : decode cX10_isOneOrAll 2 = .ok (.if_icmp .eq 14, 3) := by decide +kernel
theorem dX10_isOneOrAll_5 : decode cX10_isOneOrAll 5 = .ok (.aload_n 0, 1) := by decide +kernel
theorem dX10_isOneOrAll_6 : decode cX10_isOneOrAll 6 = .ok (.getfield 10, 3) := by decide +kernel
theorem dX10_isOneOrAll_9 : decode cX10_isOneOrAll 9 = .ok (.iload_n 1, 1) := by decide +kernel
theorem dX10_isOneOrAll_10 : decode cX10_isOneOrAll 10 = .ok (.invokevirtual 181, 3) := by decide +kernel
theorem dX10_isOneOrAll_13 : decode cX10_isOneOrAll 13 = .ok (.ifCond .eq 7, 3) := by decide +kernel
theorem dX10_isOneOrAll_16 : decode cX10_isOneOrAll 16 = .ok (.iconst 1, 1) := by decide +kernel
theorem dX10_isOneOrAll_17 : decode cX10_isOneOrAll 17 = .ok (.goto 4, 3) := by decide +kernel
theorem dX10_isOneOrAll_20 : decode cX10_isOneOrAll 20 = .ok (.iconst 0, 1) := by decide +kernel
theorem dX10_isOneOrAll_21 : decode cX10_isOneOrAll 21 = .ok (.ireturn, 1) := by decide +kernel
theorem dX10_day_0 : decode cX10_day 0 = .ok (.aload_n 0, 1) := by decide +kernel
theorem dX10_day_1 : decode cX10_day 1 = .ok (.getfield 58, 3) := by decide +kernel
theorem dX10_day_4 : decode cX10_day 4 = .ok (.aload_n 0, 1) := by decide +kernel
theorem dX10_day_5 : decode cX10_day 5 = .ok (.getfield 10, 3) := by decide +kernel
theorem dX10_day_8 : decode cX10_day 8 = .ok (.aload_n 0, 1) := by decide +kernel
theorem dX10_day_9 : decode cX10_day 9 = .ok (.getfield 26, 3) := by decide +kernel
theorem dX10_day_12 : decode cX10_day 12 = .ok (.invokevirtual 247, 3) := by decide +kernel
theorem dX10_day_15 : decode cX10_day 15 = .ok (.istore_n 1, 1) := by decide +kernel
theorem dX10_day_16 : decode cX10_day 16 = .ok (.aload_n 0, 1) := by decide +kernel
theorem dX10_day_17 : decode cX10_day 17 = .ok (.getfield 65, 3) := by decide +kernel
theorem dX10_day_20 : decode cX10_day 20 = .ok (.aload_n 0, 1) := by decide +kernel
theorem dX10_day_21 : decode cX10_day 21 = .ok (.getfield 58, 3) := by decide +kernel
theorem dX10_day_24 : decode cX10_day 24 = .ok (.aload_n 0, 1) := by decide +kernel
theorem dX10_day_25 : decode cX10_day 25 = .ok (.getfield 10, 3) := by decide +kernel
theorem dX10_day_28 : decode cX10_day 28 = .ok (.getfield 161, 3) := by decide +kernel
theorem dX10_day_31 : decode cX10_day 31 = .ok (.invokevirtual 251, 3) := by decide +kernel
theorem dX10_day_34 : decode cX10_day 34 = .ok (.iload_n 1, 1) := by decide +kernel
theorem dX10_day_35 : decode cX10_day 35 = .ok (.ireturn, 1) := by decide +kernel
theorem dX10_wrong_0 : decode cX10_wrong 0 = .ok (.aload_n 0, 1) := by decide +kernel
theorem dX10_wrong_1 : decode cX10_wrong 1 = .ok (.getfield 10, 3) := by decide +kernel
theorem dX10_wrong_4 : decode cX10_wrong 4 = .ok (.iload_n 1, 1) := by decide +kernel
theorem dX10_wrong_5 : decode cX10_wrong 5 = .ok (.invokevirtual 121, 3) := by decide +kernel
theorem dX10_wrong_8 : decode cX10_wrong 8 = .ok (.ifCond .eq 14, 3) := by decide +kernel
theorem dX10_wrong_11 : decode cX10_wrong 11 = .ok (.iload_n 2, 1) := by decide +kernel
theorem dX10_wrong_12 : decode cX10_wrong 12 = .ok (.iconst 1, 1) := by decide +kernel
theorem dX10_wrong_13 : decode cX10_wrong 13 = .ok (.if_icmp .lt 9, 3) := by decide +kernel
theorem dX10_wrong_16 : decode cX10_wrong 16 = .ok (.iload_n 2, 1) := by decide +kernel
theorem dX10_wrong_17 : decode cX10_wrong 17 = .ok (.bipush 9, 2) := by decide +kernel
theorem dX10_wrong_19 : decode cX10_wrong 19 = .ok (.if_icmp .le 5, 3) := by decide +kernel
theorem dX10_wrong_22 : decode cX10_wrong 22 = .ok (.iconst (-1), 1) := by decide +kernel
theorem dX10_wrong_23 : decode cX10_wrong 23 = .ok (.ireturn, 1) := by decide +kernel
theorem dX10_wrong_24 : decode cX10_wrong 24 = .ok (.aload_n 0, 1) := by decide +kernel
theorem dX10_wrong_25 : decode cX10_wrong 25 = .ok (.getfield 10, 3) := by decide +kernel
theorem dX10_wrong_28 : decode cX10_wrong 28 = .ok (.iload_n 1, 1) := by decide +kernel
theorem dX10_wrong_29 : decode cX10_wrong 29 = .ok (.bipush 10, 2) := by decide +kernel
theorem dX10_wrong_31 : decode cX10_wrong 31 = .ok (.irem, 1) := by decide +kernel
theorem dX10_wrong_32 : decode cX10_wrong 32 = .ok (.iload_n 1, 1) := by decide +kernel
theorem dX10_wrong_33 : decode cX10_wrong 33 = .ok (.bipush 10, 2) := by decide +kernel
theorem dX10_wrong_35 : decode cX10_wrong 35 = .ok (.idiv, 1) := by decide +kernel
theorem dX10_wrong_36 : decode cX10_wrong 36 = .ok (.invokevirtual 130, 3) := by decide +kernel
theorem dX10_wrong_39 : decode cX10_wrong 39 = .ok (.iload_n 2, 1) := by decide +kernel
theorem dX10_wrong_40 : decode cX10_wrong 40 = .ok (.isub, 1) := by decide +kernel
theorem dX10_wrong_41 : decode cX10_wrong 41 = .ok (.bipush (-9), 2) := by decide +kernel
theorem dX10_wrong_43 : decode cX10_wrong 43 = .ok (.invokestatic 255, 3) := by decide +kernel
theorem dX10_wrong_46 : decode cX10_wrong 46 = .ok (.istore_n 3, 1) := by decide +kernel
theorem dX10_wrong_47 : decode cX10_wrong 47 = .ok (.aload_n 0, 1) := by decide +kernel
theorem dX10_wrong_48 : decode cX10_wrong 48 = .ok (.getfield 10, 3) := by decide +kernel
theorem dX10_wrong_51 : decode cX10_wrong 51 = .ok (.iload_n 1, 1) := by decide +kernel
theorem dX10_wrong_52 : decode cX10_wrong 52 = .ok (.bipush 10, 2) := by decide +kernel
theorem dX10_wrong_54 : decode cX10_wrong 54 = .ok (.irem, 1) := by decide +kernel
theorem dX10_wrong_55 : decode cX10_wrong 55 = .ok (.iload_n 1, 1) := by decide +kernel
theorem dX10_wrong_56 : decode cX10_wrong 56 = .ok (.bipush 10, 2) := by decide +kernel
theorem dX10_wrong_58 : decode cX10_wrong 58 = .ok (.idiv, 1) := by decide +kernel
theorem dX10_wrong_59 : decode cX10_wrong 59 = .ok (.iload_n 3, 1) := by decide +kernel
theorem dX10_wrong_60 : decode cX10_wrong 60 = .ok (.invokevirtual 203, 3) := by decide +kernel
theorem dX10_wrong_63 : decode cX10_wrong 63 = .ok (.aload_n 0, 1) := by decide +kernel
theorem dX10_wrong_64 : decode cX10_wrong 64 = .ok (.getfield 65, 3) := by decide +kernel
theorem dX10_wrong_67 : decode cX10_wrong 67 = .ok (.iconst 3, 1) := by decide +kernel
theorem dX10_wrong_68 : decode cX10_wrong 68 = .ok (.iconst 1, 1) := by decide +kernel
theorem dX10_wrong_69 : decode cX10_wrong 69 = .ok (.invokevirtual 260, 3) := by decide +kernel
theorem dX10_wrong_72 : decode cX10_wrong 72 = .ok (.iload_n 3, 1) := by decide +kernel
theorem dX10_wrong_73 : decode cX10_wrong 73 = .ok (.bipush 100, 2) := by decide +kernel
theorem dX10_wrong_75 : decode cX10_wrong 75 = .ok (.iadd, 1) := by decide +kernel
theorem dX10_wrong_76 : decode cX10_wrong 76 = .ok (.ireturn, 1) := by decide +kernel
theorem dX10_lease_0 : decode cX10_lease 0 = .ok (.iload_n 1, 1) := by decide +kernel
theorem dX10_lease_1 : decode cX10_lease 1 = .ok (.bipush 10, 2) := by decide +kernel
theorem dX10_lease_3 : decode cX10_lease 3 = .ok (.idiv, 1) := by decide +kernel
theorem dX10_lease_4 : decode cX10_lease 4 = .ok (.istore_n 3, 1) := by decide +kernel
theorem dX10_lease_5 : decode cX10_lease 5 = .ok (.iload_n 1, 1) := by decide +kernel
theorem dX10_lease_6 : decode cX10_lease 6 = .ok (.bipush 10, 2) := by decide +kernel
theorem dX10_lease_8 : decode cX10_lease 8 = .ok (.irem, 1) := by decide +kernel
theorem dX10_lease_9 : decode cX10_lease 9 = .ok (.istore 4, 2) := by decide +kernel
theorem dX10_lease_11 : decode cX10_lease 11 = .ok (.aload_n 0, 1) := by decide +kernel
theorem dX10_lease_12 : decode cX10_lease 12 = .ok (.getfield 10, 3) := by decide +kernel
theorem dX10_lease_15 : decode cX10_lease 15 = .ok (.iload_n 1, 1) := by decide +kernel
theorem dX10_lease_16 : decode cX10_lease 16 = .ok (.invokevirtual 121, 3) := by decide +kernel
theorem dX10_lease_19 : decode cX10_lease 19 = .ok (.ifCond .eq 25, 3) := by decide +kernel
theorem dX10_lease_22 : decode cX10_lease 22 = .ok (.aload_n 0, 1) := by decide +kernel
theorem dX10_lease_23 : decode cX10_lease 23 = .ok (.getfield 10, 3) := by decide +kernel
theorem dX10_lease_26 : decode cX10_lease 26 = .ok (.iload_n 2, 1) := by decide +kernel
theorem dX10_lease_27 : decode cX10_lease 27 = .ok (.invokevirtual 181, 3) := by decide +kernel
theorem dX10_lease_30 : decode cX10_lease 30 = .ok (.ifCond .eq 14, 3) := by decide +kernel
theorem dX10_lease_33 : decode cX10_lease 33 = .ok (.iload_n 2, 1) := by decide +kernel
theorem dX10_lease_34 : decode cX10_lease 34 = .ok (.iload_n 3, 1) := by decide +kernel
theorem dX10_lease_35 : decode cX10_lease 35 = .ok (.if_icmp .eq 9, 3) := by decide +kernel
theorem dX10_lease_38 : decode cX10_lease 38 = .ok (.iload_n 2, 1) := by decide +kernel
theorem dX10_lease_39 : decode cX10_lease 39 = .ok (.iload 4, 2) := by decide +kernel
theorem dX10_lease_41 : decode cX10_lease 41 = .ok (.if_icmp .ne 5, 3) := by decide +kernel
theorem dX10_lease_44 : decode cX10_lease 44 = .ok (.iconst (-1), 1) := by decide +kernel
theorem dX10_lease_45 : decode cX10_lease 45 = .ok (.ireturn, 1) := by decide +kernel
theorem dX10_lease_46 : decode cX10_lease 46 = .ok (.aload_n 0, 1) := by decide +kernel
theorem dX10_lease_47 : decode cX10_lease 47 = .ok (.getfield 10, 3) := by decide +kernel
theorem dX10_lease_50 : decode cX10_lease 50 = .ok (.iload 4, 2) := by decide +kernel
theorem dX10_lease_52 : decode cX10_lease 52 = .ok (.iload_n 2, 1) := by decide +kernel
theorem dX10_lease_53 : decode cX10_lease 53 = .ok (.invokevirtual 130, 3) := by decide +kernel
theorem dX10_lease_56 : decode cX10_lease 56 = .ok (.istore 5, 2) := by decide +kernel
theorem dX10_lease_58 : decode cX10_lease 58 = .ok (.iload 5, 2) := by decide +kernel
theorem dX10_lease_60 : decode cX10_lease 60 = .ok (.ifCond .lt 6, 3) := by decide +kernel
theorem dX10_lease_63 : decode cX10_lease 63 = .ok (.bipush (-5), 2) := by decide +kernel
theorem dX10_lease_65 : decode cX10_lease 65 = .ok (.ireturn, 1) := by decide +kernel
theorem dX10_lease_66 : decode cX10_lease 66 = .ok (.aload_n 0, 1) := by decide +kernel
theorem dX10_lease_67 : decode cX10_lease 67 = .ok (.getfield 10, 3) := by decide +kernel
theorem dX10_lease_70 : decode cX10_lease 70 = .ok (.iload_n 3, 1) := by decide +kernel
theorem dX10_lease_71 : decode cX10_lease 71 = .ok (.iload_n 2, 1) := by decide +kernel
theorem dX10_lease_72 : decode cX10_lease 72 = .ok (.iload 5, 2) := by decide +kernel
theorem dX10_lease_74 : decode cX10_lease 74 = .ok (.invokevirtual 203, 3) := by decide +kernel
theorem dX10_lease_77 : decode cX10_lease 77 = .ok (.aload_n 0, 1) := by decide +kernel
theorem dX10_lease_78 : decode cX10_lease 78 = .ok (.getfield 10, 3) := by decide +kernel
theorem dX10_lease_81 : decode cX10_lease 81 = .ok (.iload 4, 2) := by decide +kernel
theorem dX10_lease_83 : decode cX10_lease 83 = .ok (.iload_n 2, 1) := by decide +kernel
theorem dX10_lease_84 : decode cX10_lease 84 = .ok (.iconst 0, 1) := by decide +kernel
theorem dX10_lease_85 : decode cX10_lease 85 = .ok (.invokevirtual 203, 3) := by decide +kernel
theorem dX10_lease_88 : decode cX10_lease 88 = .ok (.aload_n 0, 1) := by decide +kernel
theorem dX10_lease_89 : decode cX10_lease 89 = .ok (.getfield 65, 3) := by decide +kernel
theorem dX10_lease_92 : decode cX10_lease 92 = .ok (.iconst 4, 1) := by decide +kernel
theorem dX10_lease_93 : decode cX10_lease 93 = .ok (.iconst 1, 1) := by decide +kernel
theorem dX10_lease_94 : decode cX10_lease 94 = .ok (.invokevirtual 260, 3) := by decide +kernel
theorem dX10_lease_97 : decode cX10_lease 97 = .ok (.iload 5, 2) := by decide +kernel
theorem dX10_lease_99 : decode cX10_lease 99 = .ok (.bipush 100, 2) := by decide +kernel
theorem dX10_lease_101 : decode cX10_lease 101 = .ok (.iadd, 1) := by decide +kernel
theorem dX10_lease_102 : decode cX10_lease 102 = .ok (.ireturn, 1) := by decide +kernel
theorem dX10_gift_0 : decode cX10_gift 0 = .ok (.aload_n 0, 1) := by decide +kernel
theorem dX10_gift_1 : decode cX10_gift 1 = .ok (.getfield 10, 3) := by decide +kernel
theorem dX10_gift_4 : decode cX10_gift 4 = .ok (.iload_n 1, 1) := by decide +kernel
theorem dX10_gift_5 : decode cX10_gift 5 = .ok (.invokevirtual 121, 3) := by decide +kernel
theorem dX10_gift_8 : decode cX10_gift 8 = .ok (.ifCond .eq 14, 3) := by decide +kernel
theorem dX10_gift_11 : decode cX10_gift 11 = .ok (.iload_n 2, 1) := by decide +kernel
theorem dX10_gift_12 : decode cX10_gift 12 = .ok (.iconst 1, 1) := by decide +kernel
theorem dX10_gift_13 : decode cX10_gift 13 = .ok (.if_icmp .lt 9, 3) := by decide +kernel
theorem dX10_gift_16 : decode cX10_gift 16 = .ok (.iload_n 2, 1) := by decide +kernel
theorem dX10_gift_17 : decode cX10_gift 17 = .ok (.bipush 99, 2) := by decide +kernel
theorem dX10_gift_19 : decode cX10_gift 19 = .ok (.if_icmp .le 5, 3) := by decide +kernel
theorem dX10_gift_22 : decode cX10_gift 22 = .ok (.iconst (-1), 1) := by decide +kernel
theorem dX10_gift_23 : decode cX10_gift 23 = .ok (.ireturn, 1) := by decide +kernel
theorem dX10_gift_24 : decode cX10_gift 24 = .ok (.aload_n 0, 1) := by decide +kernel
theorem dX10_gift_25 : decode cX10_gift 25 = .ok (.getfield 10, 3) := by decide +kernel
theorem dX10_gift_28 : decode cX10_gift 28 = .ok (.iload_n 1, 1) := by decide +kernel
theorem dX10_gift_29 : decode cX10_gift 29 = .ok (.bipush 10, 2) := by decide +kernel
theorem dX10_gift_31 : decode cX10_gift 31 = .ok (.idiv, 1) := by decide +kernel
theorem dX10_gift_32 : decode cX10_gift 32 = .ok (.iload_n 2, 1) := by decide +kernel
theorem dX10_gift_33 : decode cX10_gift 33 = .ok (.invokevirtual 262, 3) := by decide +kernel
theorem dX10_gift_36 : decode cX10_gift 36 = .ok (.aload_n 0, 1) := by decide +kernel
theorem dX10_gift_37 : decode cX10_gift 37 = .ok (.getfield 10, 3) := by decide +kernel
theorem dX10_gift_40 : decode cX10_gift 40 = .ok (.iload_n 1, 1) := by decide +kernel
theorem dX10_gift_41 : decode cX10_gift 41 = .ok (.bipush 10, 2) := by decide +kernel
theorem dX10_gift_43 : decode cX10_gift 43 = .ok (.irem, 1) := by decide +kernel
theorem dX10_gift_44 : decode cX10_gift 44 = .ok (.iload_n 2, 1) := by decide +kernel
theorem dX10_gift_45 : decode cX10_gift 45 = .ok (.invokevirtual 265, 3) := by decide +kernel
theorem dX10_gift_48 : decode cX10_gift 48 = .ok (.aload_n 0, 1) := by decide +kernel
theorem dX10_gift_49 : decode cX10_gift 49 = .ok (.getfield 65, 3) := by decide +kernel
theorem dX10_gift_52 : decode cX10_gift 52 = .ok (.iconst 5, 1) := by decide +kernel
theorem dX10_gift_53 : decode cX10_gift 53 = .ok (.iconst 1, 1) := by decide +kernel
theorem dX10_gift_54 : decode cX10_gift 54 = .ok (.invokevirtual 260, 3) := by decide +kernel
theorem dX10_gift_57 : decode cX10_gift 57 = .ok (.aload_n 0, 1) := by decide +kernel
theorem dX10_gift_58 : decode cX10_gift 58 = .ok (.getfield 10, 3) := by decide +kernel
theorem dX10_gift_61 : decode cX10_gift 61 = .ok (.iload_n 1, 1) := by decide +kernel
theorem dX10_gift_62 : decode cX10_gift 62 = .ok (.bipush 10, 2) := by decide +kernel
theorem dX10_gift_64 : decode cX10_gift 64 = .ok (.idiv, 1) := by decide +kernel
theorem dX10_gift_65 : decode cX10_gift 65 = .ok (.invokevirtual 197, 3) := by decide +kernel
theorem dX10_gift_68 : decode cX10_gift 68 = .ok (.ireturn, 1) := by decide +kernel
theorem dX10_tale_0 : decode cX10_tale 0 = .ok (.iload_n 1, 1) := by decide +kernel
theorem dX10_tale_1 : decode cX10_tale 1 = .ok (.iconst (-1), 1) := by decide +kernel
theorem dX10_tale_2 : decode cX10_tale 2 = .ok (.if_icmp .ge 5, 3) := by decide +kernel
theorem dX10_tale_5 : decode cX10_tale 5 = .ok (.iconst (-1), 1) := by decide +kernel
theorem dX10_tale_6 : decode cX10_tale 6 = .ok (.ireturn, 1) := by decide +kernel
theorem dX10_tale_7 : decode cX10_tale 7 = .ok (.iload_n 1, 1) := by decide +kernel
theorem dX10_tale_8 : decode cX10_tale 8 = .ok (.iconst (-1), 1) := by decide +kernel
theorem dX10_tale_9 : decode cX10_tale 9 = .ok (.if_icmp .ne 13, 3) := by decide +kernel
theorem dX10_tale_12 : decode cX10_tale 12 = .ok (.aload_n 0, 1) := by decide +kernel
theorem dX10_tale_13 : decode cX10_tale 13 = .ok (.getfield 65, 3) := by decide +kernel
theorem dX10_tale_16 : decode cX10_tale 16 = .ok (.invokevirtual 268, 3) := by decide +kernel
theorem dX10_tale_19 : decode cX10_tale 19 = .ok (.goto 11, 3) := by decide +kernel
theorem dX10_tale_22 : decode cX10_tale 22 = .ok (.aload_n 0, 1) := by decide +kernel
theorem dX10_tale_23 : decode cX10_tale 23 = .ok (.getfield 65, 3) := by decide +kernel
theorem dX10_tale_26 : decode cX10_tale 26 = .ok (.iload_n 1, 1) := by decide +kernel
theorem dX10_tale_27 : decode cX10_tale 27 = .ok (.invokevirtual 271, 3) := by decide +kernel
theorem dX10_tale_30 : decode cX10_tale 30 = .ok (.ireturn, 1) := by decide +kernel
theorem dX10_led_0 : decode cX10_led 0 = .ok (.iload_n 1, 1) := by decide +kernel
theorem dX10_led_1 : decode cX10_led 1 = .ok (.ifCond .lt 9, 3) := by decide +kernel
theorem dX10_led_4 : decode cX10_led 4 = .ok (.iload_n 1, 1) := by decide +kernel
theorem dX10_led_5 : decode cX10_led 5 = .ok (.bipush 6, 2) := by decide +kernel
theorem dX10_led_7 : decode cX10_led 7 = .ok (.if_icmp .lt 7, 3) := by decide +kernel
theorem dX10_led_10 : decode cX10_led 10 = .ok (.iconst (-1), 1) := by decide +kernel
theorem dX10_led_11 : decode cX10_led 11 = .ok (.goto 11, 3) := by decide +kernel
theorem dX10_led_14 : decode cX10_led 14 = .ok (.aload_n 0, 1) := by decide +kernel
theorem dX10_led_15 : decode cX10_led 15 = .ok (.getfield 65, 3) := by decide +kernel
theorem dX10_led_18 : decode cX10_led 18 = .ok (.iload_n 1, 1) := by decide +kernel
theorem dX10_led_19 : decode cX10_led 19 = .ok (.invokevirtual 274, 3) := by decide +kernel
theorem dX10_led_22 : decode cX10_led 22 = .ok (.ireturn, 1) := by decide +kernel
theorem dX10_count_0 : decode cX10_count 0 = .ok (.iload_n 1, 1) := by decide +kernel
theorem dX10_count_1 : decode cX10_count 1 = .ok (.tableswitch 87 0 5 #[39, 47, 55, 63, 71, 79], 39) := by decide +kernel
theorem dX10_count_40 : decode cX10_count 40 = .ok (.aload_n 0, 1) := by decide +kernel
theorem dX10_count_41 : decode cX10_count 41 = .ok (.getfield 10, 3) := by decide +kernel
theorem dX10_count_44 : decode cX10_count 44 = .ok (.getfield 161, 3) := by decide +kernel
theorem dX10_count_47 : decode cX10_count 47 = .ok (.ireturn, 1) := by decide +kernel
theorem dX10_count_48 : decode cX10_count 48 = .ok (.aload_n 0, 1) := by decide +kernel
theorem dX10_count_49 : decode cX10_count 49 = .ok (.getfield 19, 3) := by decide +kernel
theorem dX10_count_52 : decode cX10_count 52 = .ok (.invokevirtual 360, 3) := by decide +kernel
theorem dX10_count_55 : decode cX10_count 55 = .ok (.ireturn, 1) := by decide +kernel
theorem dX10_count_56 : decode cX10_count 56 = .ok (.aload_n 0, 1) := by decide +kernel
theorem dX10_count_57 : decode cX10_count 57 = .ok (.getfield 72, 3) := by decide +kernel
theorem dX10_count_60 : decode cX10_count 60 = .ok (.invokevirtual 286, 3) := by decide +kernel
theorem dX10_count_63 : decode cX10_count 63 = .ok (.ireturn, 1) := by decide +kernel
theorem dX10_count_64 : decode cX10_count 64 = .ok (.aload_n 0, 1) := by decide +kernel
theorem dX10_count_65 : decode cX10_count 65 = .ok (.getfield 79, 3) := by decide +kernel
theorem dX10_count_68 : decode cX10_count 68 = .ok (.invokevirtual 363, 3) := by decide +kernel
theorem dX10_count_71 : decode cX10_count 71 = .ok (.ireturn, 1) := by decide +kernel
theorem dX10_count_72 : decode cX10_count 72 = .ok (.aload_n 0, 1) := by decide +kernel
theorem dX10_count_73 : decode cX10_count 73 = .ok (.getfield 79, 3) := by decide +kernel
theorem dX10_count_76 : decode cX10_count 76 = .ok (.invokevirtual 366, 3) := by decide +kernel
theorem dX10_count_79 : decode cX10_count 79 = .ok (.ireturn, 1) := by decide +kernel
theorem dX10_count_80 : decode cX10_count 80 = .ok (.aload_n 0, 1) := by decide +kernel
theorem dX10_count_81 : decode cX10_count 81 = .ok (.getfield 10, 3) := by decide +kernel
theorem dX10_count_84 : decode cX10_count 84 = .ok (.invokevirtual 369, 3) := by decide +kernel
theorem dX10_count_87 : decode cX10_count 87 = .ok (.ireturn, 1) := by decide +kernel
theorem dX10_count_88 : decode cX10_count 88 = .ok (.iconst (-1), 1) := by decide +kernel
theorem dX10_count_89 : decode cX10_count 89 = .ok (.ireturn, 1) := by decide +kernel
theorem dJ9_max_7cf53_0 : decode cJ9_max_7cf53 0 = .ok (.iload_n 0, 1) := by decide +kernel
theorem dJ9_max_7cf53_1 : decode cJ9_max_7cf53 1 = .ok (.iload_n 1, 1) := by decide +kernel
theorem dJ9_max_7cf53_2 : decode cJ9_max_7cf53 2 = .ok (.if_icmp .lt 7, 3) := by decide +kernel
theorem dJ9_max_7cf53_5 : decode cJ9_max_7cf53 5 = .ok (.iload_n 0, 1) := by decide +kernel
theorem dJ9_max_7cf53_6 : decode cJ9_max_7cf53 6 = .ok (.goto 4, 3) := by decide +kernel
theorem dJ9_max_7cf53_9 : decode cJ9_max_7cf53 9 = .ok (.iload_n 1, 1) := by decide +kernel
theorem dJ9_max_7cf53_10 : decode cJ9_max_7cf53 10 = .ok (.ireturn, 1) := by decide +kernel
theorem dJ9_min_7cf53_0 : decode cJ9_min_7cf53 0 = .ok (.iload_n 0, 1) := by decide +kernel
theorem dJ9_min_7cf53_1 : decode cJ9_min_7cf53 1 = .ok (.iload_n 1, 1) := by decide +kernel
theorem dJ9_min_7cf53_2 : decode cJ9_min_7cf53 2 = .ok (.if_icmp .gt 7, 3) := by decide +kernel
theorem dJ9_min_7cf53_5 : decode cJ9_min_7cf53 5 = .ok (.iload_n 0, 1) := by decide +kernel
theorem dJ9_min_7cf53_6 : decode cJ9_min_7cf53 6 = .ok (.goto 4, 3) := by decide +kernel
theorem dJ9_min_7cf53_9 : decode cJ9_min_7cf53 9 = .ok (.iload_n 1, 1) := by decide +kernel
theorem dJ9_min_7cf53_10 : decode cJ9_min_7cf53 10 = .ok (.ireturn, 1) := by decide +kernel
theorem dJ0_length_8abf5_0 : decode cJ0_length_8abf5 0 = .ok (.aload_n 0, 1) := by decide +kernel
theorem dJ0_length_8abf5_1 : decode cJ0_length_8abf5 1 = .ok (.getfield 9, 3) := by decide +kernel
theorem dJ0_length_8abf5_4 : decode cJ0_length_8abf5 4 = .ok (.arraylength, 1) := by decide +kernel
theorem dJ0_length_8abf5_5 : decode cJ0_length_8abf5 5 = .ok (.aload_n 0, 1) := by decide +kernel
theorem dJ0_length_8abf5_6 : decode cJ0_length_8abf5 6 = .ok (.invokevirtual 335, 3) := by decide +kernel
theorem dJ0_length_8abf5_9 : decode cJ0_length_8abf5 9 = .ok (.ishr, 1) := by decide +kernel
theorem dJ0_length_8abf5_10 : decode cJ0_length_8abf5 10 = .ok (.ireturn, 1) := by decide +kernel
theorem dJ0_charAt_5068e_0 : decode cJ0_charAt_5068e 0 = .ok (.aload_n 0, 1) := by decide +kernel
theorem dJ0_charAt_5068e_1 : decode cJ0_charAt_5068e 1 = .ok (.invokevirtual 492, 3) := by decide +kernel
theorem dJ0_charAt_5068e_4 : decode cJ0_charAt_5068e 4 = .ok (.ifCond .eq 12, 3) := by decide +kernel
theorem dJ0_charAt_5068e_7 : decode cJ0_charAt_5068e 7 = .ok (.aload_n 0, 1) := by decide +kernel
theorem dJ0_charAt_5068e_8 : decode cJ0_charAt_5068e 8 = .ok (.getfield 9, 3) := by decide +kernel
theorem dJ0_charAt_5068e_11 : decode cJ0_charAt_5068e 11 = .ok (.iload_n 1, 1) := by decide +kernel
theorem dJ0_charAt_5068e_12 : decode cJ0_charAt_5068e 12 = .ok (.invokestatic 495, 3) := by decide +kernel
theorem dJ0_charAt_5068e_15 : decode cJ0_charAt_5068e 15 = .ok (.ireturn, 1) := by decide +kernel
theorem dJ0_charAt_5068e_16 : decode cJ0_charAt_5068e 16 = .ok (.aload_n 0, 1) := by decide +kernel
theorem dJ0_charAt_5068e_17 : decode cJ0_charAt_5068e 17 = .ok (.getfield 9, 3) := by decide +kernel
theorem dJ0_charAt_5068e_20 : decode cJ0_charAt_5068e 20 = .ok (.iload_n 1, 1) := by decide +kernel
theorem dJ0_charAt_5068e_21 : decode cJ0_charAt_5068e 21 = .ok (.invokestatic 498, 3) := by decide +kernel
theorem dJ0_charAt_5068e_24 : decode cJ0_charAt_5068e 24 = .ok (.ireturn, 1) := by decide +kernel
theorem dJ0_coder_7d493_0 : decode cJ0_coder_7d493 0 = .ok (.getstatic 38, 3) := by decide +kernel
theorem dJ0_coder_7d493_3 : decode cJ0_coder_7d493 3 = .ok (.ifCond .eq 10, 3) := by decide +kernel
theorem dJ0_coder_7d493_6 : decode cJ0_coder_7d493 6 = .ok (.aload_n 0, 1) := by decide +kernel
theorem dJ0_coder_7d493_7 : decode cJ0_coder_7d493 7 = .ok (.getfield 15, 3) := by decide +kernel
theorem dJ0_coder_7d493_10 : decode cJ0_coder_7d493 10 = .ok (.goto 4, 3) := by decide +kernel
theorem dJ0_coder_7d493_13 : decode cJ0_coder_7d493 13 = .ok (.iconst 1, 1) := by decide +kernel
theorem dJ0_coder_7d493_14 : decode cJ0_coder_7d493 14 = .ok (.ireturn, 1) := by decide +kernel
theorem dJ0_isLatin1_aae02_0 : decode cJ0_isLatin1_aae02 0 = .ok (.getstatic 38, 3) := by decide +kernel
theorem dJ0_isLatin1_aae02_3 : decode cJ0_isLatin1_aae02 3 = .ok (.ifCond .eq 14, 3) := by decide +kernel
theorem dJ0_isLatin1_aae02_6 : decode cJ0_isLatin1_aae02 6 = .ok (.aload_n 0, 1) := by decide +kernel
theorem dJ0_isLatin1_aae02_7 : decode cJ0_isLatin1_aae02 7 = .ok (.getfield 15, 3) := by decide +kernel
theorem dJ0_isLatin1_aae02_10 : decode cJ0_isLatin1_aae02 10 = .ok (.ifCond .ne 7, 3) := by decide +kernel
theorem dJ0_isLatin1_aae02_13 : decode cJ0_isLatin1_aae02 13 = .ok (.iconst 1, 1) := by decide +kernel
theorem dJ0_isLatin1_aae02_14 : decode cJ0_isLatin1_aae02 14 = .ok (.goto 4, 3) := by decide +kernel
theorem dJ0_isLatin1_aae02_17 : decode cJ0_isLatin1_aae02 17 = .ok (.iconst 0, 1) := by decide +kernel
theorem dJ0_isLatin1_aae02_18 : decode cJ0_isLatin1_aae02 18 = .ok (.ireturn, 1) := by decide +kernel
theorem dJ0_checkIndex_df160_0 : decode cJ0_checkIndex_df160 0 = .ok (.iload_n 0, 1) := by decide +kernel
theorem dJ0_checkIndex_df160_1 : decode cJ0_checkIndex_df160 1 = .ok (.iload_n 1, 1) := by decide +kernel
theorem dJ0_checkIndex_df160_2 : decode cJ0_checkIndex_df160 2 = .ok (.getstatic 1053, 3) := by decide +kernel
theorem dJ0_checkIndex_df160_5 : decode cJ0_checkIndex_df160 5 = .ok (.invokestatic 1059, 3) := by decide +kernel
theorem dJ0_checkIndex_df160_8 : decode cJ0_checkIndex_df160 8 = .ok (.pop, 1) := by decide +kernel
theorem dJ0_checkIndex_df160_9 : decode cJ0_checkIndex_df160 9 = .ok (.return_, 1) := by decide +kernel
theorem dJ1_charAt_3b067_0 : decode cJ1_charAt_3b067 0 = .ok (.iload_n 1, 1) := by decide +kernel
theorem dJ1_charAt_3b067_1 : decode cJ1_charAt_3b067 1 = .ok (.aload_n 0, 1) := by decide +kernel
theorem dJ1_charAt_3b067_2 : decode cJ1_charAt_3b067 2 = .ok (.arraylength, 1) := by decide +kernel
theorem dJ1_charAt_3b067_3 : decode cJ1_charAt_3b067 3 = .ok (.invokestatic 9, 3) := by decide +kernel
theorem dJ1_charAt_3b067_6 : decode cJ1_charAt_3b067 6 = .ok (.aload_n 0, 1) := by decide +kernel
theorem dJ1_charAt_3b067_7 : decode cJ1_charAt_3b067 7 = .ok (.iload_n 1, 1) := by decide +kernel
theorem dJ1_charAt_3b067_8 : decode cJ1_charAt_3b067 8 = .ok (.baload, 1) := by decide +kernel
theorem dJ1_charAt_3b067_9 : decode cJ1_charAt_3b067 9 = .ok (.sipush 255, 3) := by decide +kernel
theorem dJ1_charAt_3b067_12 : decode cJ1_charAt_3b067 12 = .ok (.iand, 1) := by decide +kernel
theorem dJ1_charAt_3b067_13 : decode cJ1_charAt_3b067 13 = .ok (.i2c, 1) := by decide +kernel
theorem dJ1_charAt_3b067_14 : decode cJ1_charAt_3b067 14 = .ok (.ireturn, 1) := by decide +kernel
theorem dJ2_getChar_3b067_0 : decode cJ2_getChar_3b067 0 = .ok (.getstatic 44, 3) := by decide +kernel
theorem dJ2_getChar_3b067_3 : decode cJ2_getChar_3b067 3 = .ok (.ifCond .ne 25, 3) := by decide +kernel
theorem dJ2_getChar_3b067_6 : decode cJ2_getChar_3b067 6 = .ok (.iload_n 1, 1) := by decide +kernel
theorem dJ2_getChar_3b067_7 : decode cJ2_getChar_3b067 7 = .ok (.ifCond .lt 11, 3) := by decide +kernel
theorem dJ2_getChar_3b067_10 : decode cJ2_getChar_3b067 10 = .ok (.iload_n 1, 1) := by decide +kernel
theorem dJ2_getChar_3b067_11 : decode cJ2_getChar_3b067 11 = .ok (.aload_n 0, 1) := by decide +kernel
theorem dJ2_getChar_3b067_12 : decode cJ2_getChar_3b067 12 = .ok (.invokestatic 48, 3) := by decide +kernel
theorem dJ2_getChar_3b067_15 : decode cJ2_getChar_3b067 15 = .ok (.if_icmp .lt 13, 3) := by decide +kernel
theorem dJ2_getChar_3b067_18 : decode cJ2_getChar_3b067 18 = .ok (.new 52, 3) := by decide +kernel
theorem dJ2_getChar_3b067_21 : decode cJ2_getChar_3b067 21 = .ok (.dup, 1) := by decide +kernel
theorem dJ2_getChar_3b067_22 : decode cJ2_getChar_3b067 22 = .ok (.ldc 54, 2) := by decide +kernel
theorem dJ2_getChar_3b067_24 : decode cJ2_getChar_3b067 24 = .ok (.invokespecial 56, 3) := by decide +kernel
theorem dJ2_getChar_3b067_27 : decode cJ2_getChar_3b067 27 = .ok (.athrow, 1) := by decide +kernel
theorem dJ2_getChar_3b067_28 : decode cJ2_getChar_3b067 28 = .ok (.iload_n 1, 1) := by decide +kernel
theorem dJ2_getChar_3b067_29 : decode cJ2_getChar_3b067 29 = .ok (.iconst 1, 1) := by decide +kernel
theorem dJ2_getChar_3b067_30 : decode cJ2_getChar_3b067 30 = .ok (.ishl, 1) := by decide +kernel
theorem dJ2_getChar_3b067_31 : decode cJ2_getChar_3b067 31 = .ok (.istore_n 1, 1) := by decide +kernel
theorem dJ2_getChar_3b067_32 : decode cJ2_getChar_3b067 32 = .ok (.aload_n 0, 1) := by decide +kernel
theorem dJ2_getChar_3b067_33 : decode cJ2_getChar_3b067 33 = .ok (.iload_n 1, 1) := by decide +kernel
theorem dJ2_getChar_3b067_34 : decode cJ2_getChar_3b067 34 = .ok (.iinc 1 1, 3) := by decide +kernel
theorem dJ2_getChar_3b067_37 : decode cJ2_getChar_3b067 37 = .ok (.baload, 1) := by decide +kernel
theorem dJ2_getChar_3b067_38 : decode cJ2_getChar_3b067 38 = .ok (.sipush 255, 3) := by decide +kernel
theorem dJ2_getChar_3b067_41 : decode cJ2_getChar_3b067 41 = .ok (.iand, 1) := by decide +kernel
theorem dJ2_getChar_3b067_42 : decode cJ2_getChar_3b067 42 = .ok (.getstatic 59, 3) := by decide +kernel
theorem dJ2_getChar_3b067_45 : decode cJ2_getChar_3b067 45 = .ok (.ishl, 1) := by decide +kernel
theorem dJ2_getChar_3b067_46 : decode cJ2_getChar_3b067 46 = .ok (.aload_n 0, 1) := by decide +kernel
theorem dJ2_getChar_3b067_47 : decode cJ2_getChar_3b067 47 = .ok (.iload_n 1, 1) := by decide +kernel
theorem dJ2_getChar_3b067_48 : decode cJ2_getChar_3b067 48 = .ok (.baload, 1) := by decide +kernel
theorem dJ2_getChar_3b067_49 : decode cJ2_getChar_3b067 49 = .ok (.sipush 255, 3) := by decide +kernel
theorem dJ2_getChar_3b067_52 : decode cJ2_getChar_3b067 52 = .ok (.iand, 1) := by decide +kernel
theorem dJ2_getChar_3b067_53 : decode cJ2_getChar_3b067 53 = .ok (.getstatic 63, 3) := by decide +kernel
theorem dJ2_getChar_3b067_56 : decode cJ2_getChar_3b067 56 = .ok (.ishl, 1) := by decide +kernel
theorem dJ2_getChar_3b067_57 : decode cJ2_getChar_3b067 57 = .ok (.ior, 1) := by decide +kernel
theorem dJ2_getChar_3b067_58 : decode cJ2_getChar_3b067 58 = .ok (.i2c, 1) := by decide +kernel
theorem dJ2_getChar_3b067_59 : decode cJ2_getChar_3b067 59 = .ok (.ireturn, 1) := by decide +kernel
theorem dJ2_length_9d52b_0 : decode cJ2_length_9d52b 0 = .ok (.aload_n 0, 1) := by decide +kernel
theorem dJ2_length_9d52b_1 : decode cJ2_length_9d52b 1 = .ok (.arraylength, 1) := by decide +kernel
theorem dJ2_length_9d52b_2 : decode cJ2_length_9d52b 2 = .ok (.iconst 1, 1) := by decide +kernel
theorem dJ2_length_9d52b_3 : decode cJ2_length_9d52b 3 = .ok (.ishr, 1) := by decide +kernel
theorem dJ2_length_9d52b_4 : decode cJ2_length_9d52b 4 = .ok (.ireturn, 1) := by decide +kernel
theorem dJ2_charAt_3b067_0 : decode cJ2_charAt_3b067 0 = .ok (.iload_n 1, 1) := by decide +kernel
theorem dJ2_charAt_3b067_1 : decode cJ2_charAt_3b067 1 = .ok (.aload_n 0, 1) := by decide +kernel
theorem dJ2_charAt_3b067_2 : decode cJ2_charAt_3b067 2 = .ok (.invokestatic 67, 3) := by decide +kernel
theorem dJ2_charAt_3b067_5 : decode cJ2_charAt_3b067 5 = .ok (.aload_n 0, 1) := by decide +kernel
theorem dJ2_charAt_3b067_6 : decode cJ2_charAt_3b067 6 = .ok (.iload_n 1, 1) := by decide +kernel
theorem dJ2_charAt_3b067_7 : decode cJ2_charAt_3b067 7 = .ok (.invokestatic 71, 3) := by decide +kernel
theorem dJ2_charAt_3b067_10 : decode cJ2_charAt_3b067 10 = .ok (.ireturn, 1) := by decide +kernel
theorem dJ2_checkIndex_2214a_0 : decode cJ2_checkIndex_2214a 0 = .ok (.iload_n 0, 1) := by decide +kernel
theorem dJ2_checkIndex_2214a_1 : decode cJ2_checkIndex_2214a 1 = .ok (.aload_n 1, 1) := by decide +kernel
theorem dJ2_checkIndex_2214a_2 : decode cJ2_checkIndex_2214a 2 = .ok (.invokestatic 48, 3) := by decide +kernel
theorem dJ2_checkIndex_2214a_5 : decode cJ2_checkIndex_2214a 5 = .ok (.invokestatic 414, 3) := by decide +kernel
theorem dJ2_checkIndex_2214a_8 : decode cJ2_checkIndex_2214a 8 = .ok (.return_, 1) := by decide +kernel
theorem dJ3_checkIndex_8e157_0 : decode cJ3_checkIndex_8e157 0 = .ok (.iload_n 0, 1) := by decide +kernel
theorem dJ3_checkIndex_8e157_1 : decode cJ3_checkIndex_8e157 1 = .ok (.ifCond .lt 8, 3) := by decide +kernel
theorem dJ3_checkIndex_8e157_4 : decode cJ3_checkIndex_8e157 4 = .ok (.iload_n 0, 1) := by decide +kernel
theorem dJ3_checkIndex_8e157_5 : decode cJ3_checkIndex_8e157 5 = .ok (.iload_n 1, 1) := by decide +kernel
theorem dJ3_checkIndex_8e157_6 : decode cJ3_checkIndex_8e157 6 = .ok (.if_icmp .lt 10, 3) := by decide +kernel
theorem dJ3_checkIndex_8e157_9 : decode cJ3_checkIndex_8e157 9 = .ok (.aload_n 2, 1) := by decide +kernel
theorem dJ3_checkIndex_8e157_10 : decode cJ3_checkIndex_8e157 10 = .ok (.iload_n 0, 1) := by decide +kernel
theorem dJ3_checkIndex_8e157_11 : decode cJ3_checkIndex_8e157 11 = .ok (.iload_n 1, 1) := by decide +kernel
theorem dJ3_checkIndex_8e157_12 : decode cJ3_checkIndex_8e157 12 = .ok (.invokestatic 95, 3) := by decide +kernel
theorem dJ3_checkIndex_8e157_15 : decode cJ3_checkIndex_8e157 15 = .ok (.athrow, 1) := by decide +kernel
theorem dJ3_checkIndex_8e157_16 : decode cJ3_checkIndex_8e157 16 = .ok (.iload_n 0, 1) := by decide +kernel
theorem dJ3_checkIndex_8e157_17 : decode cJ3_checkIndex_8e157 17 = .ok (.ireturn, 1) := by decide +kernel
theorem dL_cell_0 : decode cL_cell 0 = .ok (.iload_n 1, 1) := by decide +kernel
theorem dL_cell_1 : decode cL_cell 1 = .ok (.aload_n 0, 1) := by decide +kernel
theorem dL_cell_2 : decode cL_cell 2 = .ok (.arraylength, 1) := by decide +kernel
theorem dL_cell_3 : decode cL_cell 3 = .ok (.if_icmp .ge 9, 3) := by decide +kernel
theorem dL_cell_6 : decode cL_cell 6 = .ok (.aload_n 0, 1) := by decide +kernel
theorem dL_cell_7 : decode cL_cell 7 = .ok (.iload_n 1, 1) := by decide +kernel
theorem dL_cell_8 : decode cL_cell 8 = .ok (.iaload, 1) := by decide +kernel
theorem dL_cell_9 : decode cL_cell 9 = .ok (.goto 7, 3) := by decide +kernel
theorem dL_cell_12 : decode cL_cell 12 = .ok (.ldc 7, 2) := by decide +kernel
theorem dL_cell_14 : decode cL_cell 14 = .ok (.iload_n 1, 1) := by decide +kernel
theorem dL_cell_15 : decode cL_cell 15 = .ok (.imul, 1) := by decide +kernel
theorem dL_cell_16 : decode cL_cell 16 = .ok (.ireturn, 1) := by decide +kernel
theorem dL_law_0 : decode cL_law 0 = .ok (.new 8, 3) := by decide +kernel
theorem dL_law_3 : decode cL_law 3 = .ok (.dup, 1) := by decide +kernel
theorem dL_law_4 : decode cL_law 4 = .ok (.invokespecial 10, 3) := by decide +kernel
theorem dL_law_7 : decode cL_law 7 = .ok (.astore_n 1, 1) := by decide +kernel
theorem dL_law_8 : decode cL_law 8 = .ok (.iconst 5, 1) := by decide +kernel
theorem dL_law_9 : decode cL_law 9 = .ok (.newarray .int, 2) := by decide +kernel
theorem dL_law_11 : decode cL_law 11 = .ok (.astore_n 2, 1) := by decide +kernel
theorem dL_law_12 : decode cL_law 12 = .ok (.bipush 16, 2) := by decide +kernel
theorem dL_law_14 : decode cL_law 14 = .ok (.newarray .int, 2) := by decide +kernel
theorem dL_law_16 : decode cL_law 16 = .ok (.astore_n 3, 1) := by decide +kernel
theorem dL_law_17 : decode cL_law 17 = .ok (.bipush 64, 2) := by decide +kernel
theorem dL_law_19 : decode cL_law 19 = .ok (.newarray .int, 2) := by decide +kernel
theorem dL_law_21 : decode cL_law 21 = .ok (.astore 4, 2) := by decide +kernel
theorem dL_law_23 : decode cL_law 23 = .ok (.iconst 3, 1) := by decide +kernel
theorem dL_law_24 : decode cL_law 24 = .ok (.newarray .int, 2) := by decide +kernel
theorem dL_law_26 : decode cL_law 26 = .ok (.astore 5, 2) := by decide +kernel
theorem dL_law_28 : decode cL_law 28 = .ok (.aload_n 1, 1) := by decide +kernel
theorem dL_law_29 : decode cL_law 29 = .ok (.aload_n 0, 1) := by decide +kernel
theorem dL_law_30 : decode cL_law 30 = .ok (.aload_n 2, 1) := by decide +kernel
theorem dL_law_31 : decode cL_law 31 = .ok (.aload_n 3, 1) := by decide +kernel
theorem dL_law_32 : decode cL_law 32 = .ok (.aload 4, 2) := by decide +kernel
theorem dL_law_34 : decode cL_law 34 = .ok (.aload 5, 2) := by decide +kernel
theorem dL_law_36 : decode cL_law 36 = .ok (.iconst 0, 1) := by decide +kernel
theorem dL_law_37 : decode cL_law 37 = .ok (.bipush 8, 2) := by decide +kernel
theorem dL_law_39 : decode cL_law 39 = .ok (.invokestatic 11, 3) := by decide +kernel
theorem dL_law_42 : decode cL_law 42 = .ok (.ifCond .ne 5, 3) := by decide +kernel
theorem dL_law_45 : decode cL_law 45 = .ok (.iconst 0, 1) := by decide +kernel
theorem dL_law_46 : decode cL_law 46 = .ok (.ireturn, 1) := by decide +kernel
theorem dL_law_47 : decode cL_law 47 = .ok (.bipush 6, 2) := by decide +kernel
theorem dL_law_49 : decode cL_law 49 = .ok (.newarray .int, 2) := by decide +kernel
theorem dL_law_51 : decode cL_law 51 = .ok (.astore 6, 2) := by decide +kernel
theorem dL_law_53 : decode cL_law 53 = .ok (.bipush 8, 2) := by decide +kernel
theorem dL_law_55 : decode cL_law 55 = .ok (.newarray .int, 2) := by decide +kernel
theorem dL_law_57 : decode cL_law 57 = .ok (.astore 7, 2) := by decide +kernel
theorem dL_law_59 : decode cL_law 59 = .ok (.iconst 0, 1) := by decide +kernel
theorem dL_law_60 : decode cL_law 60 = .ok (.istore 8, 2) := by decide +kernel
theorem dL_law_62 : decode cL_law 62 = .ok (.iload 8, 2) := by decide +kernel
theorem dL_law_64 : decode cL_law 64 = .ok (.iconst 3, 1) := by decide +kernel
theorem dL_law_65 : decode cL_law 65 = .ok (.if_icmp .ge 1095, 3) := by decide +kernel
theorem dL_law_68 : decode cL_law 68 = .ok (.aload_n 0, 1) := by decide +kernel
theorem dL_law_69 : decode cL_law 69 = .ok (.bipush 58, 2) := by decide +kernel
theorem dL_law_71 : decode cL_law 71 = .ok (.iload 8, 2) := by decide +kernel
theorem dL_law_73 : decode cL_law 73 = .ok (.iadd, 1) := by decide +kernel
theorem dL_law_74 : decode cL_law 74 = .ok (.invokestatic 17, 3) := by decide +kernel
theorem dL_law_77 : decode cL_law 77 = .ok (.iconst 1, 1) := by decide +kernel
theorem dL_law_78 : decode cL_law 78 = .ok (.iushr, 1) := by decide +kernel
theorem dL_law_79 : decode cL_law 79 = .ok (.bipush 12, 2) := by decide +kernel
theorem dL_law_81 : decode cL_law 81 = .ok (.irem, 1) := by decide +kernel
theorem dL_law_82 : decode cL_law 82 = .ok (.istore 9, 2) := by decide +kernel
theorem dL_law_84 : decode cL_law 84 = .ok (.aload_n 2, 1) := by decide +kernel
theorem dL_law_85 : decode cL_law 85 = .ok (.invokestatic 21, 3) := by decide +kernel
theorem dL_law_88 : decode cL_law 88 = .ok (.astore 10, 2) := by decide +kernel
theorem dL_law_90 : decode cL_law 90 = .ok (.aload_n 3, 1) := by decide +kernel
theorem dL_law_91 : decode cL_law 91 = .ok (.invokestatic 21, 3) := by decide +kernel
theorem dL_law_94 : decode cL_law 94 = .ok (.astore 11, 2) := by decide +kernel
theorem dL_law_96 : decode cL_law 96 = .ok (.aload 4, 2) := by decide +kernel
theorem dL_law_98 : decode cL_law 98 = .ok (.invokestatic 21, 3) := by decide +kernel
theorem dL_law_101 : decode cL_law 101 = .ok (.astore 12, 2) := by decide +kernel
theorem dL_law_103 : decode cL_law 103 = .ok (.bipush 8, 2) := by decide +kernel
theorem dL_law_105 : decode cL_law 105 = .ok (.newarray .int, 2) := by decide +kernel
theorem dL_law_107 : decode cL_law 107 = .ok (.astore 13, 2) := by decide +kernel
theorem dL_law_109 : decode cL_law 109 = .ok (.sipush 255, 3) := by decide +kernel
theorem dL_law_112 : decode cL_law 112 = .ok (.istore 14, 2) := by decide +kernel
theorem dL_law_114 : decode cL_law 114 = .ok (.iconst 0, 1) := by decide +kernel
theorem dL_law_115 : decode cL_law 115 = .ok (.istore 15, 2) := by decide +kernel
theorem dL_law_117 : decode cL_law 117 = .ok (.iconst 0, 1) := by decide +kernel
theorem dL_law_118 : decode cL_law 118 = .ok (.istore 16, 2) := by decide +kernel
theorem dL_law_120 : decode cL_law 120 = .ok (.iload 16, 2) := by decide +kernel
theorem dL_law_122 : decode cL_law 122 = .ok (.bipush 40, 2) := by decide +kernel
