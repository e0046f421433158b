theorem dX0_init_0 : decode cX0_init 0 = .ok (.aload_n 0, 1) := by decide +kernel
theorem dX0_init_1 : decode cX0_init 1 = .ok (.invokespecial 5, 3) := by decide +kernel
theorem dX0_init_4 : decode cX0_init 4 = .ok (.aload_n 0, 1) := by decide +kernel
theorem dX0_init_5 : decode cX0_init 5 = .ok (.iconst 0, 1) := by decide +kernel
theorem dX0_init_6 : decode cX0_init 6 = .ok (.putfield 11, 3) := by decide +kernel
theorem dX0_init_9 : decode cX0_init 9 = .ok (.aload_n 0, 1) := by decide +kernel
theorem dX0_init_10 : decode cX0_init 10 = .ok (.bipush 84, 2) := by decide +kernel
theorem dX0_init_12 : decode cX0_init 12 = .ok (.newarray .int, 2) := by decide +kernel
theorem dX0_init_14 : decode cX0_init 14 = .ok (.putfield 15, 3) := by decide +kernel
theorem dX0_init_17 : decode cX0_init 17 = .ok (.aload_n 0, 1) := by decide +kernel
theorem dX0_init_18 : decode cX0_init 18 = .ok (.getfield 15, 3) := by decide +kernel
theorem dX0_init_21 : decode cX0_init 21 = .ok (.bipush 16, 2) := by decide +kernel
theorem dX0_init_23 : decode cX0_init 23 = .ok (.iconst 1, 1) := by decide +kernel
theorem dX0_init_24 : decode cX0_init 24 = .ok (.iastore, 1) := by decide +kernel
theorem dX0_init_25 : decode cX0_init 25 = .ok (.aload_n 0, 1) := by decide +kernel
theorem dX0_init_26 : decode cX0_init 26 = .ok (.getfield 15, 3) := by decide +kernel
theorem dX0_init_29 : decode cX0_init 29 = .ok (.bipush 18, 2) := by decide +kernel
theorem dX0_init_31 : decode cX0_init 31 = .ok (.bipush 6, 2) := by decide +kernel
theorem dX0_init_33 : decode cX0_init 33 = .ok (.iastore, 1) := by decide +kernel
theorem dX0_init_34 : decode cX0_init 34 = .ok (.return_, 1) := by decide +kernel
theorem dX0_mayCome_0 : decode cX0_mayCome 0 = .ok (.iload_n 0, 1) := by decide +kernel
theorem dX0_mayCome_1 : decode cX0_mayCome 1 = .ok (.ifCond .lt 23, 3) := by decide +kernel
theorem dX0_mayCome_4 : decode cX0_mayCome 4 = .ok (.iload_n 0, 1) := by decide +kernel
theorem dX0_mayCome_5 : decode cX0_mayCome 5 = .ok (.bipush 99, 2) := by decide +kernel
theorem dX0_mayCome_7 : decode cX0_mayCome 7 = .ok (.if_icmp .gt 17, 3) := by decide +kernel
theorem dX0_mayCome_10 : decode cX0_mayCome 10 = .ok (.iload_n 1, 1) := by decide +kernel
theorem dX0_mayCome_11 : decode cX0_mayCome 11 = .ok (.ifCond .lt 13, 3) := by decide +kernel
theorem dX0_mayCome_14 : decode cX0_mayCome 14 = .ok (.iload_n 1, 1) := by decide +kernel
theorem dX0_mayCome_15 : decode cX0_mayCome 15 = .ok (.bipush 9, 2) := by decide +kernel
theorem dX0_mayCome_17 : decode cX0_mayCome 17 = .ok (.if_icmp .gt 7, 3) := by decide +kernel
theorem dX0_mayCome_20 : decode cX0_mayCome 20 = .ok (.iconst 1, 1) := by decide +kernel
theorem dX0_mayCome_21 : decode cX0_mayCome 21 = .ok (.goto 4, 3) := by decide +kernel
theorem dX0_mayCome_24 : decode cX0_mayCome 24 = .ok (.iconst 0, 1) := by decide +kernel
theorem dX0_mayCome_25 : decode cX0_mayCome 25 = .ok (.ireturn, 1) := by decide +kernel
theorem dX0_isFeeling_0 : decode cX0_isFeeling 0 = .ok (.iload_n 0, 1) := by decide +kernel
theorem dX0_isFeeling_1 : decode cX0_isFeeling 1 = .ok (.bipush (-9), 2) := by decide +kernel
theorem dX0_isFeeling_3 : decode cX0_isFeeling 3 = .ok (.if_icmp .lt 13, 3) := by decide +kernel
theorem dX0_isFeeling_6 : decode cX0_isFeeling 6 = .ok (.iload_n 0, 1) := by decide +kernel
theorem dX0_isFeeling_7 : decode cX0_isFeeling 7 = .ok (.bipush 9, 2) := by decide +kernel
theorem dX0_isFeeling_9 : decode cX0_isFeeling 9 = .ok (.if_icmp .gt 7, 3) := by decide +kernel
theorem dX0_isFeeling_12 : decode cX0_isFeeling 12 = .ok (.iconst 1, 1) := by decide +kernel
theorem dX0_isFeeling_13 : decode cX0_isFeeling 13 = .ok (.goto 4, 3) := by decide +kernel
theorem dX0_isFeeling_16 : decode cX0_isFeeling 16 = .ok (.iconst 0, 1) := by decide +kernel
theorem dX0_isFeeling_17 : decode cX0_isFeeling 17 = .ok (.ireturn, 1) := by decide +kernel
theorem dX0_mostOf_0 : decode cX0_mostOf 0 = .ok (.iload_n 0, 1) := by decide +kernel
theorem dX0_mostOf_1 : decode cX0_mostOf 1 = .ok (.ifCond .lt 19, 3) := by decide +kernel
theorem dX0_mostOf_4 : decode cX0_mostOf 4 = .ok (.iload_n 0, 1) := by decide +kernel
theorem dX0_mostOf_5 : decode cX0_mostOf 5 = .ok (.getstatic 19, 3) := by decide +kernel
theorem dX0_mostOf_8 : decode cX0_mostOf 8 = .ok (.arraylength, 1) := by decide +kernel
theorem dX0_mostOf_9 : decode cX0_mostOf 9 = .ok (.if_icmp .ge 11, 3) := by decide +kernel
theorem dX0_mostOf_12 : decode cX0_mostOf 12 = .ok (.getstatic 19, 3) := by decide +kernel
theorem dX0_mostOf_15 : decode cX0_mostOf 15 = .ok (.iload_n 0, 1) := by decide +kernel
theorem dX0_mostOf_16 : decode cX0_mostOf 16 = .ok (.iaload, 1) := by decide +kernel
theorem dX0_mostOf_17 : decode cX0_mostOf 17 = .ok (.goto 4, 3) := by decide +kernel
theorem dX0_mostOf_20 : decode cX0_mostOf 20 = .ok (.iconst (-1), 1) := by decide +kernel
theorem dX0_mostOf_21 : decode cX0_mostOf 21 = .ok (.ireturn, 1) := by decide +kernel
theorem dX0_placeOfFeeling_0 : decode cX0_placeOfFeeling 0 = .ok (.bipush 20, 2) := by decide +kernel
theorem dX0_placeOfFeeling_2 : decode cX0_placeOfFeeling 2 = .ok (.iload_n 0, 1) := by decide +kernel
theorem dX0_placeOfFeeling_3 : decode cX0_placeOfFeeling 3 = .ok (.bipush 8, 2) := by decide +kernel
theorem dX0_placeOfFeeling_5 : decode cX0_placeOfFeeling 5 = .ok (.imul, 1) := by decide +kernel
theorem dX0_placeOfFeeling_6 : decode cX0_placeOfFeeling 6 = .ok (.iadd, 1) := by decide +kernel
theorem dX0_placeOfFeeling_7 : decode cX0_placeOfFeeling 7 = .ok (.iload_n 1, 1) := by decide +kernel
theorem dX0_placeOfFeeling_8 : decode cX0_placeOfFeeling 8 = .ok (.iadd, 1) := by decide +kernel
theorem dX0_placeOfFeeling_9 : decode cX0_placeOfFeeling 9 = .ok (.ireturn, 1) := by decide +kernel
theorem dX0_admit_0 : decode cX0_admit 0 = .ok (.aload_n 0, 1) := by decide +kernel
theorem dX0_admit_1 : decode cX0_admit 1 = .ok (.getfield 11, 3) := by decide +kernel
theorem dX0_admit_4 : decode cX0_admit 4 = .ok (.bipush 8, 2) := by decide +kernel
theorem dX0_admit_6 : decode cX0_admit 6 = .ok (.if_icmp .lt 6, 3) := by decide +kernel
theorem dX0_admit_9 : decode cX0_admit 9 = .ok (.bipush (-3), 2) := by decide +kernel
theorem dX0_admit_11 : decode cX0_admit 11 = .ok (.ireturn, 1) := by decide +kernel
theorem dX0_admit_12 : decode cX0_admit 12 = .ok (.aload_n 0, 1) := by decide +kernel
theorem dX0_admit_13 : decode cX0_admit 13 = .ok (.getfield 15, 3) := by decide +kernel
theorem dX0_admit_16 : decode cX0_admit 16 = .ok (.iconst 0, 1) := by decide +kernel
theorem dX0_admit_17 : decode cX0_admit 17 = .ok (.aload_n 0, 1) := by decide +kernel
theorem dX0_admit_18 : decode cX0_admit 18 = .ok (.getfield 11, 3) := by decide +kernel
theorem dX0_admit_21 : decode cX0_admit 21 = .ok (.iadd, 1) := by decide +kernel
theorem dX0_admit_22 : decode cX0_admit 22 = .ok (.iload_n 1, 1) := by decide +kernel
theorem dX0_admit_23 : decode cX0_admit 23 = .ok (.iastore, 1) := by decide +kernel
theorem dX0_admit_24 : decode cX0_admit 24 = .ok (.aload_n 0, 1) := by decide +kernel
theorem dX0_admit_25 : decode cX0_admit 25 = .ok (.getfield 15, 3) := by decide +kernel
theorem dX0_admit_28 : decode cX0_admit 28 = .ok (.bipush 8, 2) := by decide +kernel
theorem dX0_admit_30 : decode cX0_admit 30 = .ok (.aload_n 0, 1) := by decide +kernel
theorem dX0_admit_31 : decode cX0_admit 31 = .ok (.getfield 11, 3) := by decide +kernel
theorem dX0_admit_34 : decode cX0_admit 34 = .ok (.iadd, 1) := by decide +kernel
theorem dX0_admit_35 : decode cX0_admit 35 = .ok (.iload_n 2, 1) := by decide +kernel
theorem dX0_admit_36 : decode cX0_admit 36 = .ok (.iastore, 1) := by decide +kernel
theorem dX0_admit_37 : decode cX0_admit 37 = .ok (.aload_n 0, 1) := by decide +kernel
theorem dX0_admit_38 : decode cX0_admit 38 = .ok (.dup, 1) := by decide +kernel
theorem dX0_admit_39 : decode cX0_admit 39 = .ok (.getfield 11, 3) := by decide +kernel
theorem dX0_admit_42 : decode cX0_admit 42 = .ok (.iconst 1, 1) := by decide +kernel
theorem dX0_admit_43 : decode cX0_admit 43 = .ok (.iadd, 1) := by decide +kernel
theorem dX0_admit_44 : decode cX0_admit 44 = .ok (.putfield 11, 3) := by decide +kernel
theorem dX0_admit_47 : decode cX0_admit 47 = .ok (.aload_n 0, 1) := by decide +kernel
theorem dX0_admit_48 : decode cX0_admit 48 = .ok (.getfield 11, 3) := by decide +kernel
theorem dX0_admit_51 : decode cX0_admit 51 = .ok (.iconst 1, 1) := by decide +kernel
theorem dX0_admit_52 : decode cX0_admit 52 = .ok (.isub, 1) := by decide +kernel
theorem dX0_admit_53 : decode cX0_admit 53 = .ok (.ireturn, 1) := by decide +kernel
theorem dX0_has_0 : decode cX0_has 0 = .ok (.iload_n 1, 1) := by decide +kernel
theorem dX0_has_1 : decode cX0_has 1 = .ok (.ifCond .lt 15, 3) := by decide +kernel
theorem dX0_has_4 : decode cX0_has 4 = .ok (.iload_n 1, 1) := by decide +kernel
theorem dX0_has_5 : decode cX0_has 5 = .ok (.aload_n 0, 1) := by decide +kernel
theorem dX0_has_6 : decode cX0_has 6 = .ok (.getfield 11, 3) := by decide +kernel
theorem dX0_has_9 : decode cX0_has 9 = .ok (.if_icmp .ge 7, 3) := by decide +kernel
theorem dX0_has_12 : decode cX0_has 12 = .ok (.iconst 1, 1) := by decide +kernel
theorem dX0_has_13 : decode cX0_has 13 = .ok (.goto 4, 3) := by decide +kernel
theorem dX0_has_16 : decode cX0_has 16 = .ok (.iconst 0, 1) := by decide +kernel
theorem dX0_has_17 : decode cX0_has 17 = .ok (.ireturn, 1) := by decide +kernel
theorem dX0_hasPair_0 : decode cX0_hasPair 0 = .ok (.iload_n 1, 1) := by decide +kernel
theorem dX0_hasPair_1 : decode cX0_hasPair 1 = .ok (.ifCond .lt 40, 3) := by decide +kernel
theorem dX0_hasPair_4 : decode cX0_hasPair 4 = .ok (.aload_n 0, 1) := by decide +kernel
theorem dX0_hasPair_5 : decode cX0_hasPair 5 = .ok (.iload_n 1, 1) := by decide +kernel
theorem dX0_hasPair_6 : decode cX0_hasPair 6 = .ok (.bipush 10, 2) := by decide +kernel
theorem dX0_hasPair_8 : decode cX0_hasPair 8 = .ok (.idiv, 1) := by decide +kernel
theorem dX0_hasPair_9 : decode cX0_hasPair 9 = .ok (.invokevirtual 22, 3) := by decide +kernel
theorem dX0_hasPair_12 : decode cX0_hasPair 12 = .ok (.ifCond .eq 29, 3) := by decide +kernel
theorem dX0_hasPair_15 : decode cX0_hasPair 15 = .ok (.aload_n 0, 1) := by decide +kernel
theorem dX0_hasPair_16 : decode cX0_hasPair 16 = .ok (.iload_n 1, 1) := by decide +kernel
theorem dX0_hasPair_17 : decode cX0_hasPair 17 = .ok (.bipush 10, 2) := by decide +kernel
theorem dX0_hasPair_19 : decode cX0_hasPair 19 = .ok (.irem, 1) := by decide +kernel
theorem dX0_hasPair_20 : decode cX0_hasPair 20 = .ok (.invokevirtual 22, 3) := by decide +kernel
theorem dX0_hasPair_23 : decode cX0_hasPair 23 = .ok (.ifCond .eq 18, 3) := by decide +kernel
theorem dX0_hasPair_26 : decode cX0_hasPair 26 = .ok (.iload_n 1, 1) := by decide +kernel
theorem dX0_hasPair_27 : decode cX0_hasPair 27 = .ok (.bipush 10, 2) := by decide +kernel
theorem dX0_hasPair_29 : decode cX0_hasPair 29 = .ok (.idiv, 1) := by decide +kernel
theorem dX0_hasPair_30 : decode cX0_hasPair 30 = .ok (.iload_n 1, 1) := by decide +kernel
theorem dX0_hasPair_31 : decode cX0_hasPair 31 = .ok (.bipush 10, 2) := by decide +kernel
theorem dX0_hasPair_33 : decode cX0_hasPair 33 = .ok (.irem, 1) := by decide +kernel
theorem dX0_hasPair_34 : decode cX0_hasPair 34 = .ok (.if_icmp .eq 7, 3) := by decide +kernel
theorem dX0_hasPair_37 : decode cX0_hasPair 37 = .ok (.iconst 1, 1) := by decide +kernel
theorem dX0_hasPair_38 : decode cX0_hasPair 38 = .ok (.goto 4, 3) := by decide +kernel
theorem dX0_hasPair_41 : decode cX0_hasPair 41 = .ok (.iconst 0, 1) := by decide +kernel
theorem dX0_hasPair_42 : decode cX0_hasPair 42 = .ok (.ireturn, 1) := by decide +kernel
theorem dX0_placeOf_0 : decode cX0_placeOf 0 = .ok (.iload_n 2, 1) := by decide +kernel
theorem dX0_placeOf_1 : decode cX0_placeOf 1 = .ok (.ifCond .eq 8, 3) := by decide +kernel
theorem dX0_placeOf_4 : decode cX0_placeOf 4 = .ok (.iload_n 2, 1) := by decide +kernel
theorem dX0_placeOf_5 : decode cX0_placeOf 5 = .ok (.iconst 1, 1) := by decide +kernel
theorem dX0_placeOf_6 : decode cX0_placeOf 6 = .ok (.if_icmp .ne 28, 3) := by decide +kernel
theorem dX0_placeOf_9 : decode cX0_placeOf 9 = .ok (.aload_n 0, 1) := by decide +kernel
theorem dX0_placeOf_10 : decode cX0_placeOf 10 = .ok (.iload_n 1, 1) := by decide +kernel
theorem dX0_placeOf_11 : decode cX0_placeOf 11 = .ok (.invokevirtual 22, 3) := by decide +kernel
theorem dX0_placeOf_14 : decode cX0_placeOf 14 = .ok (.ifCond .eq 18, 3) := by decide +kernel
theorem dX0_placeOf_17 : decode cX0_placeOf 17 = .ok (.iload_n 2, 1) := by decide +kernel
theorem dX0_placeOf_18 : decode cX0_placeOf 18 = .ok (.ifCond .ne 7, 3) := by decide +kernel
theorem dX0_placeOf_21 : decode cX0_placeOf 21 = .ok (.iconst 0, 1) := by decide +kernel
theorem dX0_placeOf_22 : decode cX0_placeOf 22 = .ok (.goto 5, 3) := by decide +kernel
theorem dX0_placeOf_25 : decode cX0_placeOf 25 = .ok (.bipush 8, 2) := by decide +kernel
theorem dX0_placeOf_27 : decode cX0_placeOf 27 = .ok (.iload_n 1, 1) := by decide +kernel
theorem dX0_placeOf_28 : decode cX0_placeOf 28 = .ok (.iadd, 1) := by decide +kernel
theorem dX0_placeOf_29 : decode cX0_placeOf 29 = .ok (.goto 4, 3) := by decide +kernel
theorem dX0_placeOf_32 : decode cX0_placeOf 32 = .ok (.iconst (-1), 1) := by decide +kernel
theorem dX0_placeOf_33 : decode cX0_placeOf 33 = .ok (.ireturn, 1) := by decide +kernel
theorem dX0_placeOf_34 : decode cX0_placeOf 34 = .ok (.iload_n 2, 1) := by decide +kernel
theorem dX0_placeOf_35 : decode cX0_placeOf 35 = .ok (.iconst 2, 1) := by decide +kernel
theorem dX0_placeOf_36 : decode cX0_placeOf 36 = .ok (.if_icmp .lt 21, 3) := by decide +kernel
theorem dX0_placeOf_39 : decode cX0_placeOf 39 = .ok (.iload_n 2, 1) := by decide +kernel
theorem dX0_placeOf_40 : decode cX0_placeOf 40 = .ok (.iconst 5, 1) := by decide +kernel
theorem dX0_placeOf_41 : decode cX0_placeOf 41 = .ok (.if_icmp .gt 16, 3) := by decide +kernel
theorem dX0_placeOf_44 : decode cX0_placeOf 44 = .ok (.iload_n 1, 1) := by decide +kernel
theorem dX0_placeOf_45 : decode cX0_placeOf 45 = .ok (.ifCond .ne 12, 3) := by decide +kernel
theorem dX0_placeOf_48 : decode cX0_placeOf 48 = .ok (.bipush 16, 2) := by decide +kernel
theorem dX0_placeOf_50 : decode cX0_placeOf 50 = .ok (.iload_n 2, 1) := by decide +kernel
theorem dX0_placeOf_51 : decode cX0_placeOf 51 = .ok (.iadd, 1) := by decide +kernel
theorem dX0_placeOf_52 : decode cX0_placeOf 52 = .ok (.iconst 2, 1) := by decide +kernel
theorem dX0_placeOf_53 : decode cX0_placeOf 53 = .ok (.isub, 1) := by decide +kernel
theorem dX0_placeOf_54 : decode cX0_placeOf 54 = .ok (.goto 4, 3) := by decide +kernel
theorem dX0_placeOf_57 : decode cX0_placeOf 57 = .ok (.iconst (-1), 1) := by decide +kernel
theorem dX0_placeOf_58 : decode cX0_placeOf 58 = .ok (.ireturn, 1) := by decide +kernel
theorem dX0_numberAt_0 : decode cX0_numberAt 0 = .ok (.iload_n 1, 1) := by decide +kernel
theorem dX0_numberAt_1 : decode cX0_numberAt 1 = .ok (.ifCond .lt 18, 3) := by decide +kernel
theorem dX0_numberAt_4 : decode cX0_numberAt 4 = .ok (.iload_n 1, 1) := by decide +kernel
theorem dX0_numberAt_5 : decode cX0_numberAt 5 = .ok (.bipush 84, 2) := by decide +kernel
theorem dX0_numberAt_7 : decode cX0_numberAt 7 = .ok (.if_icmp .ge 12, 3) := by decide +kernel
theorem dX0_numberAt_10 : decode cX0_numberAt 10 = .ok (.aload_n 0, 1) := by decide +kernel
theorem dX0_numberAt_11 : decode cX0_numberAt 11 = .ok (.getfield 15, 3) := by decide +kernel
theorem dX0_numberAt_14 : decode cX0_numberAt 14 = .ok (.iload_n 1, 1) := by decide +kernel
theorem dX0_numberAt_15 : decode cX0_numberAt 15 = .ok (.iaload, 1) := by decide +kernel
theorem dX0_numberAt_16 : decode cX0_numberAt 16 = .ok (.goto 4, 3) := by decide +kernel
theorem dX0_numberAt_19 : decode cX0_numberAt 19 = .ok (.iconst 0, 1) := by decide +kernel
theorem dX0_numberAt_20 : decode cX0_numberAt 20 = .ok (.ireturn, 1) := by decide +kernel
theorem dX0_setNumber_0 : decode cX0_setNumber 0 = .ok (.iload_n 1, 1) := by decide +kernel
theorem dX0_setNumber_1 : decode cX0_setNumber 1 = .ok (.ifCond .lt 16, 3) := by decide +kernel
theorem dX0_setNumber_4 : decode cX0_setNumber 4 = .ok (.iload_n 1, 1) := by decide +kernel
theorem dX0_setNumber_5 : decode cX0_setNumber 5 = .ok (.bipush 84, 2) := by decide +kernel
theorem dX0_setNumber_7 : decode cX0_setNumber 7 = .ok (.if_icmp .ge 10, 3) := by decide +kernel
theorem dX0_setNumber_10 : decode cX0_setNumber 10 = .ok (.aload_n 0, 1) := by decide +kernel
theorem dX0_setNumber_11 : decode cX0_setNumber 11 = .ok (.getfield 15, 3) := by decide +kernel
theorem dX0_setNumber_14 : decode cX0_setNumber 14 = .ok (.iload_n 1, 1) := by decide +kernel
theorem dX0_setNumber_15 : decode cX0_setNumber 15 = .ok (.iload_n 2, 1) := by decide +kernel
theorem dX0_setNumber_16 : decode cX0_setNumber 16 = .ok (.iastore, 1) := by decide +kernel
theorem dX0_setNumber_17 : decode cX0_setNumber 17 = .ok (.return_, 1) := by decide +kernel
theorem dX0_hungerOf_0 : decode cX0_hungerOf 0 = .ok (.iload_n 1, 1) := by decide +kernel
theorem dX0_hungerOf_1 : decode cX0_hungerOf 1 = .ok (.ifCond .lt 20, 3) := by decide +kernel
theorem dX0_hungerOf_4 : decode cX0_hungerOf 4 = .ok (.iload_n 1, 1) := by decide +kernel
theorem dX0_hungerOf_5 : decode cX0_hungerOf 5 = .ok (.bipush 8, 2) := by decide +kernel
theorem dX0_hungerOf_7 : decode cX0_hungerOf 7 = .ok (.if_icmp .ge 14, 3) := by decide +kernel
theorem dX0_hungerOf_10 : decode cX0_hungerOf 10 = .ok (.aload_n 0, 1) := by decide +kernel
theorem dX0_hungerOf_11 : decode cX0_hungerOf 11 = .ok (.getfield 15, 3) := by decide +kernel
theorem dX0_hungerOf_14 : decode cX0_hungerOf 14 = .ok (.iconst 0, 1) := by decide +kernel
theorem dX0_hungerOf_15 : decode cX0_hungerOf 15 = .ok (.iload_n 1, 1) := by decide +kernel
theorem dX0_hungerOf_16 : decode cX0_hungerOf 16 = .ok (.iadd, 1) := by decide +kernel
theorem dX0_hungerOf_17 : decode cX0_hungerOf 17 = .ok (.iaload, 1) := by decide +kernel
theorem dX0_hungerOf_18 : decode cX0_hungerOf 18 = .ok (.goto 4, 3) := by decide +kernel
theorem dX0_hungerOf_21 : decode cX0_hungerOf 21 = .ok (.iconst 0, 1) := by decide +kernel
theorem dX0_hungerOf_22 : decode cX0_hungerOf 22 = .ok (.ireturn, 1) := by decide +kernel
theorem dX0_hungerMore_0 : decode cX0_hungerMore 0 = .ok (.aload_n 0, 1) := by decide +kernel
theorem dX0_hungerMore_1 : decode cX0_hungerMore 1 = .ok (.iconst 0, 1) := by decide +kernel
theorem dX0_hungerMore_2 : decode cX0_hungerMore 2 = .ok (.iload_n 1, 1) := by decide +kernel
theorem dX0_hungerMore_3 : decode cX0_hungerMore 3 = .ok (.iadd, 1) := by decide +kernel
theorem dX0_hungerMore_4 : decode cX0_hungerMore 4 = .ok (.aload_n 0, 1) := by decide +kernel
theorem dX0_hungerMore_5 : decode cX0_hungerMore 5 = .ok (.iload_n 1, 1) := by decide +kernel
theorem dX0_hungerMore_6 : decode cX0_hungerMore 6 = .ok (.invokevirtual 26, 3) := by decide +kernel
theorem dX0_hungerMore_9 : decode cX0_hungerMore 9 = .ok (.iload_n 2, 1) := by decide +kernel
theorem dX0_hungerMore_10 : decode cX0_hungerMore 10 = .ok (.iadd, 1) := by decide +kernel
theorem dX0_hungerMore_11 : decode cX0_hungerMore 11 = .ok (.bipush 99, 2) := by decide +kernel
theorem dX0_hungerMore_13 : decode cX0_hungerMore 13 = .ok (.invokestatic 30, 3) := by decide +kernel
theorem dX0_hungerMore_16 : decode cX0_hungerMore 16 = .ok (.invokevirtual 36, 3) := by decide +kernel
theorem dX0_hungerMore_19 : decode cX0_hungerMore 19 = .ok (.return_, 1) := by decide +kernel
theorem dX0_hungerLess_0 : decode cX0_hungerLess 0 = .ok (.aload_n 0, 1) := by decide +kernel
theorem dX0_hungerLess_1 : decode cX0_hungerLess 1 = .ok (.iconst 0, 1) := by decide +kernel
theorem dX0_hungerLess_2 : decode cX0_hungerLess 2 = .ok (.iload_n 1, 1) := by decide +kernel
theorem dX0_hungerLess_3 : decode cX0_hungerLess 3 = .ok (.iadd, 1) := by decide +kernel
theorem dX0_hungerLess_4 : decode cX0_hungerLess 4 = .ok (.aload_n 0, 1) := by decide +kernel
theorem dX0_hungerLess_5 : decode cX0_hungerLess 5 = .ok (.iload_n 1, 1) := by decide +kernel
theorem dX0_hungerLess_6 : decode cX0_hungerLess 6 = .ok (.invokevirtual 26, 3) := by decide +kernel
theorem dX0_hungerLess_9 : decode cX0_hungerLess 9 = .ok (.iload_n 2, 1) := by decide +kernel
theorem dX0_hungerLess_10 : decode cX0_hungerLess 10 = .ok (.isub, 1) := by decide +kernel
theorem dX0_hungerLess_11 : decode cX0_hungerLess 11 = .ok (.iconst 0, 1) := by decide +kernel
theorem dX0_hungerLess_12 : decode cX0_hungerLess 12 = .ok (.invokestatic 40, 3) := by decide +kernel
theorem dX0_hungerLess_15 : decode cX0_hungerLess 15 = .ok (.invokevirtual 36, 3) := by decide +kernel
theorem dX0_hungerLess_18 : decode cX0_hungerLess 18 = .ok (.return_, 1) := by decide +kernel
theorem dX0_felt_0 : decode cX0_felt 0 = .ok (.bipush 20, 2) := by decide +kernel
theorem dX0_felt_2 : decode cX0_felt 2 = .ok (.iload_n 1, 1) := by decide +kernel
theorem dX0_felt_3 : decode cX0_felt 3 = .ok (.bipush 8, 2) := by decide +kernel
theorem dX0_felt_5 : decode cX0_felt 5 = .ok (.imul, 1) := by decide +kernel
theorem dX0_felt_6 : decode cX0_felt 6 = .ok (.iadd, 1) := by decide +kernel
theorem dX0_felt_7 : decode cX0_felt 7 = .ok (.iload_n 2, 1) := by decide +kernel
theorem dX0_felt_8 : decode cX0_felt 8 = .ok (.iadd, 1) := by decide +kernel
theorem dX0_felt_9 : decode cX0_felt 9 = .ok (.istore_n 3, 1) := by decide +kernel
theorem dX0_felt_10 : decode cX0_felt 10 = .ok (.iload_n 3, 1) := by decide +kernel
theorem dX0_felt_11 : decode cX0_felt 11 = .ok (.bipush 20, 2) := by decide +kernel
theorem dX0_felt_13 : decode cX0_felt 13 = .ok (.if_icmp .lt 18, 3) := by decide +kernel
theorem dX0_felt_16 : decode cX0_felt 16 = .ok (.iload_n 3, 1) := by decide +kernel
theorem dX0_felt_17 : decode cX0_felt 17 = .ok (.bipush 84, 2) := by decide +kernel
theorem dX0_felt_19 : decode cX0_felt 19 = .ok (.if_icmp .ge 12, 3) := by decide +kernel
theorem dX0_felt_22 : decode cX0_felt 22 = .ok (.aload_n 0, 1) := by decide +kernel
theorem dX0_felt_23 : decode cX0_felt 23 = .ok (.getfield 15, 3) := by decide +kernel
theorem dX0_felt_26 : decode cX0_felt 26 = .ok (.iload_n 3, 1) := by decide +kernel
theorem dX0_felt_27 : decode cX0_felt 27 = .ok (.iaload, 1) := by decide +kernel
theorem dX0_felt_28 : decode cX0_felt 28 = .ok (.goto 4, 3) := by decide +kernel
theorem dX0_felt_31 : decode cX0_felt 31 = .ok (.iconst 0, 1) := by decide +kernel
theorem dX0_felt_32 : decode cX0_felt 32 = .ok (.ireturn, 1) := by decide +kernel
theorem dX0_setFelt_0 : decode cX0_setFelt 0 = .ok (.aload_n 0, 1) := by decide +kernel
theorem dX0_setFelt_1 : decode cX0_setFelt 1 = .ok (.iload_n 1, 1) := by decide +kernel
theorem dX0_setFelt_2 : decode cX0_setFelt 2 = .ok (.iload_n 2, 1) := by decide +kernel
theorem dX0_setFelt_3 : decode cX0_setFelt 3 = .ok (.invokestatic 43, 3) := by decide +kernel
theorem dX0_setFelt_6 : decode cX0_setFelt 6 = .ok (.iload_n 3, 1) := by decide +kernel
theorem dX0_setFelt_7 : decode cX0_setFelt 7 = .ok (.invokevirtual 36, 3) := by decide +kernel
theorem dX0_setFelt_10 : decode cX0_setFelt 10 = .ok (.return_, 1) := by decide +kernel
theorem dX0_friendOf_0 : decode cX0_friendOf 0 = .ok (.bipush 8, 2) := by decide +kernel
theorem dX0_friendOf_2 : decode cX0_friendOf 2 = .ok (.istore_n 3, 1) := by decide +kernel
theorem dX0_friendOf_3 : decode cX0_friendOf 3 = .ok (.iconst 0, 1) := by decide +kernel
theorem dX0_friendOf_4 : decode cX0_friendOf 4 = .ok (.istore 4, 2) := by decide +kernel
theorem dX0_friendOf_6 : decode cX0_friendOf 6 = .ok (.iconst 0, 1) := by decide +kernel
theorem dX0_friendOf_7 : decode cX0_friendOf 7 = .ok (.istore 5, 2) := by decide +kernel
theorem dX0_friendOf_9 : decode cX0_friendOf 9 = .ok (.iload 5, 2) := by decide +kernel
theorem dX0_friendOf_11 : decode cX0_friendOf 11 = .ok (.aload_n 0, 1) := by decide +kernel
theorem dX0_friendOf_12 : decode cX0_friendOf 12 = .ok (.getfield 11, 3) := by decide +kernel
theorem dX0_friendOf_15 : decode cX0_friendOf 15 = .ok (.if_icmp .ge 38, 3) := by decide +kernel
theorem dX0_friendOf_18 : decode cX0_friendOf 18 = .ok (.aload_n 0, 1) := by decide +kernel
theorem dX0_friendOf_19 : decode cX0_friendOf 19 = .ok (.iload 5, 2) := by decide +kernel
theorem dX0_friendOf_21 : decode cX0_friendOf 21 = .ok (.iload_n 1, 1) := by decide +kernel
theorem dX0_friendOf_22 : decode cX0_friendOf 22 = .ok (.invokevirtual 46, 3) := by decide +kernel
theorem dX0_friendOf_25 : decode cX0_friendOf 25 = .ok (.istore 6, 2) := by decide +kernel
theorem dX0_friendOf_27 : decode cX0_friendOf 27 = .ok (.iload 5, 2) := by decide +kernel
theorem dX0_friendOf_29 : decode cX0_friendOf 29 = .ok (.iload_n 2, 1) := by decide +kernel
theorem dX0_friendOf_30 : decode cX0_friendOf 30 = .ok (.if_icmp .eq 17, 3) := by decide +kernel
theorem dX0_friendOf_33 : decode cX0_friendOf 33 = .ok (.iload 6, 2) := by decide +kernel
theorem dX0_friendOf_35 : decode cX0_friendOf 35 = .ok (.iload 4, 2) := by decide +kernel
theorem dX0_friendOf_37 : decode cX0_friendOf 37 = .ok (.if_icmp .le 10, 3) := by decide +kernel
theorem dX0_friendOf_40 : decode cX0_friendOf 40 = .ok (.iload 5, 2) := by decide +kernel
theorem dX0_friendOf_42 : decode cX0_friendOf 42 = .ok (.istore_n 3, 1) := by decide +kernel
theorem dX0_friendOf_43 : decode cX0_friendOf 43 = .ok (.iload 6, 2) := by decide +kernel
theorem dX0_friendOf_45 : decode cX0_friendOf 45 = .ok (.istore 4, 2) := by decide +kernel
theorem dX0_friendOf_47 : decode cX0_friendOf 47 = .ok (.iinc 5 1, 3) := by decide +kernel
theorem dX0_friendOf_50 : decode cX0_friendOf 50 = .ok (.goto (-41), 3) := by decide +kernel
theorem dX0_friendOf_53 : decode cX0_friendOf 53 = .ok (.iload_n 3, 1) := by decide +kernel
theorem dX0_friendOf_54 : decode cX0_friendOf 54 = .ok (.ireturn, 1) := by decide +kernel
theorem dX0_loversOf_0 : decode cX0_loversOf 0 = .ok (.iconst 0, 1) := by decide +kernel
theorem dX0_loversOf_1 : decode cX0_loversOf 1 = .ok (.istore_n 2, 1) := by decide +kernel
theorem dX0_loversOf_2 : decode cX0_loversOf 2 = .ok (.iconst 0, 1) := by decide +kernel
theorem dX0_loversOf_3 : decode cX0_loversOf 3 = .ok (.istore_n 3, 1) := by decide +kernel
theorem dX0_loversOf_4 : decode cX0_loversOf 4 = .ok (.iload_n 3, 1) := by decide +kernel
theorem dX0_loversOf_5 : decode cX0_loversOf 5 = .ok (.aload_n 0, 1) := by decide +kernel
theorem dX0_loversOf_6 : decode cX0_loversOf 6 = .ok (.getfield 11, 3) := by decide +kernel
theorem dX0_loversOf_9 : decode cX0_loversOf 9 = .ok (.if_icmp .ge 26, 3) := by decide +kernel
theorem dX0_loversOf_12 : decode cX0_loversOf 12 = .ok (.iload_n 2, 1) := by decide +kernel
theorem dX0_loversOf_13 : decode cX0_loversOf 13 = .ok (.aload_n 0, 1) := by decide +kernel
theorem dX0_loversOf_14 : decode cX0_loversOf 14 = .ok (.iload_n 3, 1) := by decide +kernel
theorem dX0_loversOf_15 : decode cX0_loversOf 15 = .ok (.iload_n 1, 1) := by decide +kernel
theorem dX0_loversOf_16 : decode cX0_loversOf 16 = .ok (.invokevirtual 46, 3) := by decide +kernel
theorem dX0_loversOf_19 : decode cX0_loversOf 19 = .ok (.ifCond .le 7, 3) := by decide +kernel
theorem dX0_loversOf_22 : decode cX0_loversOf 22 = .ok (.iconst 1, 1) := by decide +kernel
theorem dX0_loversOf_23 : decode cX0_loversOf 23 = .ok (.goto 4, 3) := by decide +kernel
theorem dX0_loversOf_26 : decode cX0_loversOf 26 = .ok (.iconst 0, 1) := by decide +kernel
theorem dX0_loversOf_27 : decode cX0_loversOf 27 = .ok (.iadd, 1) := by decide +kernel
theorem dX0_loversOf_28 : decode cX0_loversOf 28 = .ok (.istore_n 2, 1) := by decide +kernel
theorem dX0_loversOf_29 : decode cX0_loversOf 29 = .ok (.iinc 3 1, 3) := by decide +kernel
theorem dX0_loversOf_32 : decode cX0_loversOf 32 = .ok (.goto (-28), 3) := by decide +kernel
theorem dX0_loversOf_35 : decode cX0_loversOf 35 = .ok (.iload_n 2, 1) := by decide +kernel
theorem dX0_loversOf_36 : decode cX0_loversOf 36 = .ok (.ireturn, 1) := by decide +kernel
theorem dX0_hatersOf_0 : decode cX0_hatersOf 0 = .ok (.iconst 0, 1) := by decide +kernel
theorem dX0_hatersOf_1 : decode cX0_hatersOf 1 = .ok (.istore_n 2, 1) := by decide +kernel
theorem dX0_hatersOf_2 : decode cX0_hatersOf 2 = .ok (.iconst 0, 1) := by decide +kernel
theorem dX0_hatersOf_3 : decode cX0_hatersOf 3 = .ok (.istore_n 3, 1) := by decide +kernel
theorem dX0_hatersOf_4 : decode cX0_hatersOf 4 = .ok (.iload_n 3, 1) := by decide +kernel
theorem dX0_hatersOf_5 : decode cX0_hatersOf 5 = .ok (.aload_n 0, 1) := by decide +kernel
theorem dX0_hatersOf_6 : decode cX0_hatersOf 6 = .ok (.getfield 11, 3) := by decide +kernel
theorem dX0_hatersOf_9 : decode cX0_hatersOf 9 = .ok (.if_icmp .ge 26, 3) := by decide +kernel
theorem dX0_hatersOf_12 : decode cX0_hatersOf 12 = .ok (.iload_n 2, 1) := by decide +kernel
theorem dX0_hatersOf_13 : decode cX0_hatersOf 13 = .ok (.aload_n 0, 1) := by decide +kernel
theorem dX0_hatersOf_14 : decode cX0_hatersOf 14 = .ok (.iload_n 3, 1) := by decide +kernel
theorem dX0_hatersOf_15 : decode cX0_hatersOf 15 = .ok (.iload_n 1, 1) := by decide +kernel
theorem dX0_hatersOf_16 : decode cX0_hatersOf 16 = .ok (.invokevirtual 46, 3) := by decide +kernel
theorem dX0_hatersOf_19 : decode cX0_hatersOf 19 = .ok (.ifCond .ge 7, 3) := by decide +kernel
theorem dX0_hatersOf_22 : decode cX0_hatersOf 22 = .ok (.iconst 1, 1) := by decide +kernel
theorem dX0_hatersOf_23 : decode cX0_hatersOf 23 = .ok (.goto 4, 3) := by decide +kernel
theorem dX0_hatersOf_26 : decode cX0_hatersOf 26 = .ok (.iconst 0, 1) := by decide +kernel
theorem dX0_hatersOf_27 : decode cX0_hatersOf 27 = .ok (.iadd, 1) := by decide +kernel
theorem dX0_hatersOf_28 : decode cX0_hatersOf 28 = .ok (.istore_n 2, 1) := by decide +kernel
theorem dX0_hatersOf_29 : decode cX0_hatersOf 29 = .ok (.iinc 3 1, 3) := by decide +kernel
theorem dX0_hatersOf_32 : decode cX0_hatersOf 32 = .ok (.goto (-28), 3) := by decide +kernel
theorem dX0_hatersOf_35 : decode cX0_hatersOf 35 = .ok (.iload_n 2, 1) := by decide +kernel
theorem dX0_hatersOf_36 : decode cX0_hatersOf 36 = .ok (.ireturn, 1) := by decide +kernel
theorem dX0_loveless_0 : decode cX0_loveless 0 = .ok (.iconst 0, 1) := by decide +kernel
theorem dX0_loveless_1 : decode cX0_loveless 1 = .ok (.istore_n 1, 1) := by decide +kernel
theorem dX0_loveless_2 : decode cX0_loveless 2 = .ok (.iconst 0, 1) := by decide +kernel
theorem dX0_loveless_3 : decode cX0_loveless 3 = .ok (.istore_n 2, 1) := by decide +kernel
theorem dX0_loveless_4 : decode cX0_loveless 4 = .ok (.iload_n 2, 1) := by decide +kernel
theorem dX0_loveless_5 : decode cX0_loveless 5 = .ok (.aload_n 0, 1) := by decide +kernel
theorem dX0_loveless_6 : decode cX0_loveless 6 = .ok (.getfield 11, 3) := by decide +kernel
theorem dX0_loveless_9 : decode cX0_loveless 9 = .ok (.if_icmp .ge 27, 3) := by decide +kernel
theorem dX0_loveless_12 : decode cX0_loveless 12 = .ok (.iload_n 1, 1) := by decide +kernel
theorem dX0_loveless_13 : decode cX0_loveless 13 = .ok (.aload_n 0, 1) := by decide +kernel
theorem dX0_loveless_14 : decode cX0_loveless 14 = .ok (.iload_n 2, 1) := by decide +kernel
theorem dX0_loveless_15 : decode cX0_loveless 15 = .ok (.invokevirtual 49, 3) := by decide +kernel
theorem dX0_loveless_18 : decode cX0_loveless 18 = .ok (.ifCond .ne 9, 3) := by decide +kernel
theorem dX0_loveless_21 : decode cX0_loveless 21 = .ok (.iconst 1, 1) := by decide +kernel
theorem dX0_loveless_22 : decode cX0_loveless 22 = .ok (.iload_n 2, 1) := by decide +kernel
theorem dX0_loveless_23 : decode cX0_loveless 23 = .ok (.ishl, 1) := by decide +kernel
theorem dX0_loveless_24 : decode cX0_loveless 24 = .ok (.goto 4, 3) := by decide +kernel
theorem dX0_loveless_27 : decode cX0_loveless 27 = .ok (.iconst 0, 1) := by decide +kernel
theorem dX0_loveless_28 : decode cX0_loveless 28 = .ok (.ior, 1) := by decide +kernel
theorem dX0_loveless_29 : decode cX0_loveless 29 = .ok (.istore_n 1, 1) := by decide +kernel
theorem dX0_loveless_30 : decode cX0_loveless 30 = .ok (.iinc 2 1, 3) := by decide +kernel
theorem dX0_loveless_33 : decode cX0_loveless 33 = .ok (.goto (-29), 3) := by decide +kernel
theorem dX0_loveless_36 : decode cX0_loveless 36 = .ok (.iload_n 1, 1) := by decide +kernel
theorem dX0_loveless_37 : decode cX0_loveless 37 = .ok (.ireturn, 1) := by decide +kernel
theorem dX0_feelingsBelowNone_0 : decode cX0_feelingsBelowNone 0 = .ok (.iconst 0, 1) := by decide +kernel
theorem dX0_feelingsBelowNone_1 : decode cX0_feelingsBelowNone 1 = .ok (.istore_n 1, 1) := by decide +kernel
theorem dX0_feelingsBelowNone_2 : decode cX0_feelingsBelowNone 2 = .ok (.iconst 0, 1) := by decide +kernel
theorem dX0_feelingsBelowNone_3 : decode cX0_feelingsBelowNone 3 = .ok (.istore_n 2, 1) := by decide +kernel
theorem dX0_feelingsBelowNone_4 : decode cX0_feelingsBelowNone 4 = .ok (.iload_n 2, 1) := by decide +kernel
theorem dX0_feelingsBelowNone_5 : decode cX0_feelingsBelowNone 5 = .ok (.aload_n 0, 1) := by decide +kernel
theorem dX0_feelingsBelowNone_6 : decode cX0_feelingsBelowNone 6 = .ok (.getfield 11, 3) := by decide +kernel
theorem dX0_feelingsBelowNone_9 : decode cX0_feelingsBelowNone 9 = .ok (.if_icmp .ge 17, 3) := by decide +kernel
theorem dX0_feelingsBelowNone_12 : decode cX0_feelingsBelowNone 12 = .ok (.iload_n 1, 1) := by decide +kernel
theorem dX0_feelingsBelowNone_13 : decode cX0_feelingsBelowNone 13 = .ok (.aload_n 0, 1) := by decide +kernel
theorem dX0_feelingsBelowNone_14 : decode cX0_feelingsBelowNone 14 = .ok (.iload_n 2, 1) := by decide +kernel
theorem dX0_feelingsBelowNone_15 : decode cX0_feelingsBelowNone 15 = .ok (.invokevirtual 52, 3) := by decide +kernel
theorem dX0_feelingsBelowNone_18 : decode cX0_feelingsBelowNone 18 = .ok (.iadd, 1) := by decide +kernel
theorem dX0_feelingsBelowNone_19 : decode cX0_feelingsBelowNone 19 = .ok (.istore_n 1, 1) := by decide +kernel
theorem dX0_feelingsBelowNone_20 : decode cX0_feelingsBelowNone 20 = .ok (.iinc 2 1, 3) := by decide +kernel
theorem dX0_feelingsBelowNone_23 : decode cX0_feelingsBelowNone 23 = .ok (.goto (-19), 3) := by decide +kernel
theorem dX0_feelingsBelowNone_26 : decode cX0_feelingsBelowNone 26 = .ok (.iload_n 1, 1) := by decide +kernel
theorem dX0_feelingsBelowNone_27 : decode cX0_feelingsBelowNone 27 = .ok (.ireturn, 1) := by decide +kernel
theorem dX0_smallestRing_0 : decode cX0_smallestRing 0 = .ok (.bipush (-2), 2) := by decide +kernel
theorem dX0_smallestRing_2 : decode cX0_smallestRing 2 = .ok (.istore_n 1, 1) := by decide +kernel
theorem dX0_smallestRing_3 : decode cX0_smallestRing 3 = .ok (.iconst 0, 1) := by decide +kernel
theorem dX0_smallestRing_4 : decode cX0_smallestRing 4 = .ok (.istore_n 2, 1) := by decide +kernel
theorem dX0_smallestRing_5 : decode cX0_smallestRing 5 = .ok (.iload_n 2, 1) := by decide +kernel
theorem dX0_smallestRing_6 : decode cX0_smallestRing 6 = .ok (.aload_n 0, 1) := by decide +kernel
theorem dX0_smallestRing_7 : decode cX0_smallestRing 7 = .ok (.getfield 11, 3) := by decide +kernel
theorem dX0_smallestRing_10 : decode cX0_smallestRing 10 = .ok (.if_icmp .ge 34, 3) := by decide +kernel
theorem dX0_smallestRing_13 : decode cX0_smallestRing 13 = .ok (.aload_n 0, 1) := by decide +kernel
theorem dX0_smallestRing_14 : decode cX0_smallestRing 14 = .ok (.iload_n 2, 1) := by decide +kernel
theorem dX0_smallestRing_15 : decode cX0_smallestRing 15 = .ok (.invokevirtual 55, 3) := by decide +kernel
theorem dX0_smallestRing_18 : decode cX0_smallestRing 18 = .ok (.istore_n 3, 1) := by decide +kernel
theorem dX0_smallestRing_19 : decode cX0_smallestRing 19 = .ok (.iload_n 3, 1) := by decide +kernel
theorem dX0_smallestRing_20 : decode cX0_smallestRing 20 = .ok (.bipush (-2), 2) := by decide +kernel
theorem dX0_smallestRing_22 : decode cX0_smallestRing 22 = .ok (.if_icmp .eq 16, 3) := by decide +kernel
theorem dX0_smallestRing_25 : decode cX0_smallestRing 25 = .ok (.iload_n 1, 1) := by decide +kernel
theorem dX0_smallestRing_26 : decode cX0_smallestRing 26 = .ok (.bipush (-2), 2) := by decide +kernel
theorem dX0_smallestRing_28 : decode cX0_smallestRing 28 = .ok (.if_icmp .eq 8, 3) := by decide +kernel
theorem dX0_smallestRing_31 : decode cX0_smallestRing 31 = .ok (.iload_n 3, 1) := by decide +kernel
theorem dX0_smallestRing_32 : decode cX0_smallestRing 32 = .ok (.iload_n 1, 1) := by decide +kernel
theorem dX0_smallestRing_33 : decode cX0_smallestRing 33 = .ok (.if_icmp .ge 5, 3) := by decide +kernel
theorem dX0_smallestRing_36 : decode cX0_smallestRing 36 = .ok (.iload_n 3, 1) := by decide +kernel
theorem dX0_smallestRing_37 : decode cX0_smallestRing 37 = .ok (.istore_n 1, 1) := by decide +kernel
theorem dX0_smallestRing_38 : decode cX0_smallestRing 38 = .ok (.iinc 2 1, 3) := by decide +kernel
theorem dX0_smallestRing_41 : decode cX0_smallestRing 41 = .ok (.goto (-36), 3) := by decide +kernel
theorem dX0_smallestRing_44 : decode cX0_smallestRing 44 = .ok (.iload_n 1, 1) := by decide +kernel
theorem dX0_smallestRing_45 : decode cX0_smallestRing 45 = .ok (.ireturn, 1) := by decide +kernel
theorem dX0_ringThrough_0 : decode cX0_ringThrough 0 = .ok (.iconst 1, 1) := by decide +kernel
theorem dX0_ringThrough_1 : decode cX0_ringThrough 1 = .ok (.iload_n 1, 1) := by decide +kernel
theorem dX0_ringThrough_2 : decode cX0_ringThrough 2 = .ok (.ishl, 1) := by decide +kernel
theorem dX0_ringThrough_3 : decode cX0_ringThrough 3 = .ok (.istore_n 2, 1) := by decide +kernel
theorem dX0_ringThrough_4 : decode cX0_ringThrough 4 = .ok (.iconst 1, 1) := by decide +kernel
theorem dX0_ringThrough_5 : decode cX0_ringThrough 5 = .ok (.istore_n 3, 1) := by decide +kernel
theorem dX0_ringThrough_6 : decode cX0_ringThrough 6 = .ok (.iload_n 3, 1) := by decide +kernel
theorem dX0_ringThrough_7 : decode cX0_ringThrough 7 = .ok (.aload_n 0, 1) := by decide +kernel
theorem dX0_ringThrough_8 : decode cX0_ringThrough 8 = .ok (.getfield 11, 3) := by decide +kernel
theorem dX0_ringThrough_11 : decode cX0_ringThrough 11 = .ok (.if_icmp .gt 26, 3) := by decide +kernel
theorem dX0_ringThrough_14 : decode cX0_ringThrough 14 = .ok (.aload_n 0, 1) := by decide +kernel
theorem dX0_ringThrough_15 : decode cX0_ringThrough 15 = .ok (.iload_n 2, 1) := by decide +kernel
theorem dX0_ringThrough_16 : decode cX0_ringThrough 16 = .ok (.invokevirtual 58, 3) := by decide +kernel
theorem dX0_ringThrough_19 : decode cX0_ringThrough 19 = .ok (.istore_n 2, 1) := by decide +kernel
theorem dX0_ringThrough_20 : decode cX0_ringThrough 20 = .ok (.iload_n 2, 1) := by decide +kernel
theorem dX0_ringThrough_21 : decode cX0_ringThrough 21 = .ok (.iload_n 1, 1) := by decide +kernel
theorem dX0_ringThrough_22 : decode cX0_ringThrough 22 = .ok (.ishr, 1) := by decide +kernel
theorem dX0_ringThrough_23 : decode cX0_ringThrough 23 = .ok (.iconst 1, 1) := by decide +kernel
theorem dX0_ringThrough_24 : decode cX0_ringThrough 24 = .ok (.iand, 1) := by decide +kernel
theorem dX0_ringThrough_25 : decode cX0_ringThrough 25 = .ok (.iconst 1, 1) := by decide +kernel
theorem dX0_ringThrough_26 : decode cX0_ringThrough 26 = .ok (.if_icmp .ne 5, 3) := by decide +kernel
theorem dX0_ringThrough_29 : decode cX0_ringThrough 29 = .ok (.iload_n 3, 1) := by decide +kernel
theorem dX0_ringThrough_30 : decode cX0_ringThrough 30 = .ok (.ireturn, 1) := by decide +kernel
theorem dX0_ringThrough_31 : decode cX0_ringThrough 31 = .ok (.iinc 3 1, 3) := by decide +kernel
theorem dX0_ringThrough_34 : decode cX0_ringThrough 34 = .ok (.goto (-28), 3) := by decide +kernel
theorem dX0_ringThrough_37 : decode cX0_ringThrough 37 = .ok (.bipush (-2), 2) := by decide +kernel
theorem dX0_ringThrough_39 : decode cX0_ringThrough 39 = .ok (.ireturn, 1) := by decide +kernel
theorem dX0_hatedBy_0 : decode cX0_hatedBy 0 = .ok (.iconst 0, 1) := by decide +kernel
theorem dX0_hatedBy_1 : decode cX0_hatedBy 1 = .ok (.istore_n 2, 1) := by decide +kernel
theorem dX0_hatedBy_2 : decode cX0_hatedBy 2 = .ok (.iconst 0, 1) := by decide +kernel
theorem dX0_hatedBy_3 : decode cX0_hatedBy 3 = .ok (.istore_n 3, 1) := by decide +kernel
theorem dX0_hatedBy_4 : decode cX0_hatedBy 4 = .ok (.iload_n 3, 1) := by decide +kernel
theorem dX0_hatedBy_5 : decode cX0_hatedBy 5 = .ok (.aload_n 0, 1) := by decide +kernel
theorem dX0_hatedBy_6 : decode cX0_hatedBy 6 = .ok (.getfield 11, 3) := by decide +kernel
theorem dX0_hatedBy_9 : decode cX0_hatedBy 9 = .ok (.if_icmp .ge 53, 3) := by decide +kernel
theorem dX0_hatedBy_12 : decode cX0_hatedBy 12 = .ok (.iconst 0, 1) := by decide +kernel
theorem dX0_hatedBy_13 : decode cX0_hatedBy 13 = .ok (.istore 4, 2) := by decide +kernel
theorem dX0_hatedBy_15 : decode cX0_hatedBy 15 = .ok (.iload 4, 2) := by decide +kernel
theorem dX0_hatedBy_17 : decode cX0_hatedBy 17 = .ok (.aload_n 0, 1) := by decide +kernel
theorem dX0_hatedBy_18 : decode cX0_hatedBy 18 = .ok (.getfield 11, 3) := by decide +kernel
theorem dX0_hatedBy_21 : decode cX0_hatedBy 21 = .ok (.if_icmp .ge 35, 3) := by decide +kernel
theorem dX0_hatedBy_24 : decode cX0_hatedBy 24 = .ok (.iload_n 1, 1) := by decide +kernel
theorem dX0_hatedBy_25 : decode cX0_hatedBy 25 = .ok (.iload_n 3, 1) := by decide +kernel
theorem dX0_hatedBy_26 : decode cX0_hatedBy 26 = .ok (.ishr, 1) := by decide +kernel
theorem dX0_hatedBy_27 : decode cX0_hatedBy 27 = .ok (.iconst 1, 1) := by decide +kernel
theorem dX0_hatedBy_28 : decode cX0_hatedBy 28 = .ok (.iand, 1) := by decide +kernel
theorem dX0_hatedBy_29 : decode cX0_hatedBy 29 = .ok (.iconst 1, 1) := by decide +kernel
theorem dX0_hatedBy_30 : decode cX0_hatedBy 30 = .ok (.if_icmp .ne 20, 3) := by decide +kernel
theorem dX0_hatedBy_33 : decode cX0_hatedBy 33 = .ok (.aload_n 0, 1) := by decide +kernel
theorem dX0_hatedBy_34 : decode cX0_hatedBy 34 = .ok (.iload_n 3, 1) := by decide +kernel
theorem dX0_hatedBy_35 : decode cX0_hatedBy 35 = .ok (.iload 4, 2) := by decide +kernel
theorem dX0_hatedBy_37 : decode cX0_hatedBy 37 = .ok (.invokevirtual 46, 3) := by decide +kernel
theorem dX0_hatedBy_40 : decode cX0_hatedBy 40 = .ok (.ifCond .ge 10, 3) := by decide +kernel
theorem dX0_hatedBy_43 : decode cX0_hatedBy 43 = .ok (.iload_n 2, 1) := by decide +kernel
theorem dX0_hatedBy_44 : decode cX0_hatedBy 44 = .ok (.iconst 1, 1) := by decide +kernel
theorem dX0_hatedBy_45 : decode cX0_hatedBy 45 = .ok (.iload 4, 2) := by decide +kernel
theorem dX0_hatedBy_47 : decode cX0_hatedBy 47 = .ok (.ishl, 1) := by decide +kernel
theorem dX0_hatedBy_48 : decode cX0_hatedBy 48 = .ok (.ior, 1) := by decide +kernel
theorem dX0_hatedBy_49 : decode cX0_hatedBy 49 = .ok (.istore_n 2, 1) := by decide +kernel
theorem dX0_hatedBy_50 : decode cX0_hatedBy 50 = .ok (.iinc 4 1, 3) := by decide +kernel
theorem dX0_hatedBy_53 : decode cX0_hatedBy 53 = .ok (.goto (-38), 3) := by decide +kernel
theorem dX0_hatedBy_56 : decode cX0_hatedBy 56 = .ok (.iinc 3 1, 3) := by decide +kernel
theorem dX0_hatedBy_59 : decode cX0_hatedBy 59 = .ok (.goto (-55), 3) := by decide +kernel
theorem dX0_hatedBy_62 : decode cX0_hatedBy 62 = .ok (.iload_n 2, 1) := by decide +kernel
theorem dX0_hatedBy_63 : decode cX0_hatedBy 63 = .ok (.ireturn, 1) := by decide +kernel
theorem dX0_endDay_0 : decode cX0_endDay 0 = .ok (.iconst 0, 1) := by decide +kernel
theorem dX0_endDay_1 : decode cX0_endDay 1 = .ok (.istore_n 2, 1) := by decide +kernel
theorem dX0_endDay_2 : decode cX0_endDay 2 = .ok (.iload_n 2, 1) := by decide +kernel
theorem dX0_endDay_3 : decode cX0_endDay 3 = .ok (.aload_n 0, 1) := by decide +kernel
theorem dX0_endDay_4 : decode cX0_endDay 4 = .ok (.getfield 11, 3) := by decide +kernel
theorem dX0_endDay_7 : decode cX0_endDay 7 = .ok (.if_icmp .ge 29, 3) := by decide +kernel
theorem dX0_endDay_10 : decode cX0_endDay 10 = .ok (.iload_n 1, 1) := by decide +kernel
theorem dX0_endDay_11 : decode cX0_endDay 11 = .ok (.iload_n 2, 1) := by decide +kernel
theorem dX0_endDay_12 : decode cX0_endDay 12 = .ok (.ishr, 1) := by decide +kernel
theorem dX0_endDay_13 : decode cX0_endDay 13 = .ok (.iconst 1, 1) := by decide +kernel
theorem dX0_endDay_14 : decode cX0_endDay 14 = .ok (.iand, 1) := by decide +kernel
theorem dX0_endDay_15 : decode cX0_endDay 15 = .ok (.ifCond .ne 15, 3) := by decide +kernel
theorem dX0_endDay_18 : decode cX0_endDay 18 = .ok (.aload_n 0, 1) := by decide +kernel
theorem dX0_endDay_19 : decode cX0_endDay 19 = .ok (.iload_n 2, 1) := by decide +kernel
theorem dX0_endDay_20 : decode cX0_endDay 20 = .ok (.aload_n 0, 1) := by decide +kernel
theorem dX0_endDay_21 : decode cX0_endDay 21 = .ok (.getfield 15, 3) := by decide +kernel
theorem dX0_endDay_24 : decode cX0_endDay 24 = .ok (.bipush 18, 2) := by decide +kernel
theorem dX0_endDay_26 : decode cX0_endDay 26 = .ok (.iaload, 1) := by decide +kernel
theorem dX0_endDay_27 : decode cX0_endDay 27 = .ok (.invokevirtual 61, 3) := by decide +kernel
theorem dX0_endDay_30 : decode cX0_endDay 30 = .ok (.iinc 2 1, 3) := by decide +kernel
theorem dX0_endDay_33 : decode cX0_endDay 33 = .ok (.goto (-31), 3) := by decide +kernel
theorem dX0_endDay_36 : decode cX0_endDay 36 = .ok (.aload_n 0, 1) := by decide +kernel
theorem dX0_endDay_37 : decode cX0_endDay 37 = .ok (.getfield 15, 3) := by decide +kernel
theorem dX0_endDay_40 : decode cX0_endDay 40 = .ok (.bipush 19, 2) := by decide +kernel
theorem dX0_endDay_42 : decode cX0_endDay 42 = .ok (.aload_n 0, 1) := by decide +kernel
theorem dX0_endDay_43 : decode cX0_endDay 43 = .ok (.getfield 15, 3) := by decide +kernel
theorem dX0_endDay_46 : decode cX0_endDay 46 = .ok (.bipush 19, 2) := by decide +kernel
theorem dX0_endDay_48 : decode cX0_endDay 48 = .ok (.iaload, 1) := by decide +kernel
theorem dX0_endDay_49 : decode cX0_endDay 49 = .ok (.iconst 1, 1) := by decide +kernel
theorem dX0_endDay_50 : decode cX0_endDay 50 = .ok (.iadd, 1) := by decide +kernel
theorem dX0_endDay_51 : decode cX0_endDay 51 = .ok (.bipush 99, 2) := by decide +kernel
theorem dX0_endDay_53 : decode cX0_endDay 53 = .ok (.invokestatic 30, 3) := by decide +kernel
theorem dX0_endDay_56 : decode cX0_endDay 56 = .ok (.iastore, 1) := by decide +kernel
theorem dX0_endDay_57 : decode cX0_endDay 57 = .ok (.aload_n 0, 1) := by decide +kernel
theorem dX0_endDay_58 : decode cX0_endDay 58 = .ok (.getfield 15, 3) := by decide +kernel
theorem dX0_endDay_61 : decode cX0_endDay 61 = .ok (.bipush 17, 2) := by decide +kernel
theorem dX0_endDay_63 : decode cX0_endDay 63 = .ok (.iaload, 1) := by decide +kernel
theorem dX0_endDay_64 : decode cX0_endDay 64 = .ok (.ifCond .eq 25, 3) := by decide +kernel
theorem dX0_endDay_67 : decode cX0_endDay 67 = .ok (.aload_n 0, 1) := by decide +kernel
theorem dX0_endDay_68 : decode cX0_endDay 68 = .ok (.getfield 15, 3) := by decide +kernel
theorem dX0_endDay_71 : decode cX0_endDay 71 = .ok (.bipush 19, 2) := by decide +kernel
theorem dX0_endDay_73 : decode cX0_endDay 73 = .ok (.iaload, 1) := by decide +kernel
theorem dX0_endDay_74 : decode cX0_endDay 74 = .ok (.aload_n 0, 1) := by decide +kernel
theorem dX0_endDay_75 : decode cX0_endDay 75 = .ok (.getfield 15, 3) := by decide +kernel
theorem dX0_endDay_78 : decode cX0_endDay 78 = .ok (.bipush 17, 2) := by decide +kernel
theorem dX0_endDay_80 : decode cX0_endDay 80 = .ok (.iaload, 1) := by decide +kernel
theorem dX0_endDay_81 : decode cX0_endDay 81 = .ok (.irem, 1) := by decide +kernel
theorem dX0_endDay_82 : decode cX0_endDay 82 = .ok (.ifCond .ne 7, 3) := by decide +kernel
theorem dX0_endDay_85 : decode cX0_endDay 85 = .ok (.aload_n 0, 1) := by decide +kernel
theorem dX0_endDay_86 : decode cX0_endDay 86 = .ok (.invokevirtual 64, 3) := by decide +kernel
theorem dX0_endDay_89 : decode cX0_endDay 89 = .ok (.return_, 1) := by decide +kernel
theorem dX0_fade_0 : decode cX0_fade 0 = .ok (.bipush 20, 2) := by decide +kernel
theorem dX0_fade_2 : decode cX0_fade 2 = .ok (.istore_n 1, 1) := by decide +kernel
theorem dX0_fade_3 : decode cX0_fade 3 = .ok (.iload_n 1, 1) := by decide +kernel
theorem dX0_fade_4 : decode cX0_fade 4 = .ok (.bipush 84, 2) := by decide +kernel
theorem dX0_fade_6 : decode cX0_fade 6 = .ok (.if_icmp .ge 43, 3) := by decide +kernel
theorem dX0_fade_9 : decode cX0_fade 9 = .ok (.aload_n 0, 1) := by decide +kernel
theorem dX0_fade_10 : decode cX0_fade 10 = .ok (.getfield 15, 3) := by decide +kernel
theorem dX0_fade_13 : decode cX0_fade 13 = .ok (.iload_n 1, 1) := by decide +kernel
theorem dX0_fade_14 : decode cX0_fade 14 = .ok (.iaload, 1) := by decide +kernel
theorem dX0_fade_15 : decode cX0_fade 15 = .ok (.istore_n 2, 1) := by decide +kernel
theorem dX0_fade_16 : decode cX0_fade 16 = .ok (.aload_n 0, 1) := by decide +kernel
theorem dX0_fade_17 : decode cX0_fade 17 = .ok (.getfield 15, 3) := by decide +kernel
theorem dX0_fade_20 : decode cX0_fade 20 = .ok (.iload_n 1, 1) := by decide +kernel
theorem dX0_fade_21 : decode cX0_fade 21 = .ok (.iload_n 2, 1) := by decide +kernel
theorem dX0_fade_22 : decode cX0_fade 22 = .ok (.ifCond .le 9, 3) := by decide +kernel
theorem dX0_fade_25 : decode cX0_fade 25 = .ok (.iload_n 2, 1) := by decide +kernel
theorem dX0_fade_26 : decode cX0_fade 26 = .ok (.iconst 1, 1) := by decide +kernel
theorem dX0_fade_27 : decode cX0_fade 27 = .ok (.isub, 1) := by decide +kernel
theorem dX0_fade_28 : decode cX0_fade 28 = .ok (.goto 14, 3) := by decide +kernel
theorem dX0_fade_31 : decode cX0_fade 31 = .ok (.iload_n 2, 1) := by decide +kernel
theorem dX0_fade_32 : decode cX0_fade 32 = .ok (.ifCond .ge 9, 3) := by decide +kernel
theorem dX0_fade_35 : decode cX0_fade 35 = .ok (.iload_n 2, 1) := by decide +kernel
theorem dX0_fade_36 : decode cX0_fade 36 = .ok (.iconst 1, 1) := by decide +kernel
theorem dX0_fade_37 : decode cX0_fade 37 = .ok (.iadd, 1) := by decide +kernel
theorem dX0_fade_38 : decode cX0_fade 38 = .ok (.goto 4, 3) := by decide +kernel
theorem dX0_fade_41 : decode cX0_fade 41 = .ok (.iconst 0, 1) := by decide +kernel
theorem dX0_fade_42 : decode cX0_fade 42 = .ok (.iastore, 1) := by decide +kernel
theorem dX0_fade_43 : decode cX0_fade 43 = .ok (.iinc 1 1, 3) := by decide +kernel
theorem dX0_fade_46 : decode cX0_fade 46 = .ok (.goto (-43), 3) := by decide +kernel
theorem dX0_fade_49 : decode cX0_fade 49 = .ok (.return_, 1) := by decide +kernel
theorem dX0_takeOver_0 : decode cX0_takeOver 0 = .ok (.aload_n 0, 1) := by decide +kernel
theorem dX0_takeOver_1 : decode cX0_takeOver 1 = .ok (.aload_n 1, 1) := by decide +kernel
theorem dX0_takeOver_2 : decode cX0_takeOver 2 = .ok (.getfield 11, 3) := by decide +kernel
theorem dX0_takeOver_5 : decode cX0_takeOver 5 = .ok (.putfield 11, 3) := by decide +kernel
theorem dX0_takeOver_8 : decode cX0_takeOver 8 = .ok (.aload_n 1, 1) := by decide +kernel
theorem dX0_takeOver_9 : decode cX0_takeOver 9 = .ok (.getfield 15, 3) := by decide +kernel
theorem dX0_takeOver_12 : decode cX0_takeOver 12 = .ok (.iconst 0, 1) := by decide +kernel
theorem dX0_takeOver_13 : decode cX0_takeOver 13 = .ok (.aload_n 0, 1) := by decide +kernel
theorem dX0_takeOver_14 : decode cX0_takeOver 14 = .ok (.getfield 15, 3) := by decide +kernel
theorem dX0_takeOver_17 : decode cX0_takeOver 17 = .ok (.iconst 0, 1) := by decide +kernel
theorem dX0_takeOver_18 : decode cX0_takeOver 18 = .ok (.bipush 84, 2) := by decide +kernel
theorem dX0_takeOver_20 : decode cX0_takeOver 20 = .ok (.invokestatic 67, 3) := by decide +kernel
theorem dX0_takeOver_23 : decode cX0_takeOver 23 = .ok (.return_, 1) := by decide +kernel
theorem dX0_layBack_0 : decode cX0_layBack 0 = .ok (.iconst 0, 1) := by decide +kernel
theorem dX0_layBack_1 : decode cX0_layBack 1 = .ok (.istore_n 2, 1) := by decide +kernel
theorem dX0_layBack_2 : decode cX0_layBack 2 = .ok (.iload_n 2, 1) := by decide +kernel
theorem dX0_layBack_3 : decode cX0_layBack 3 = .ok (.aload_n 1, 1) := by decide +kernel
theorem dX0_layBack_4 : decode cX0_layBack 4 = .ok (.getfield 11, 3) := by decide +kernel
theorem dX0_layBack_7 : decode cX0_layBack 7 = .ok (.if_icmp .ge 62, 3) := by decide +kernel
theorem dX0_layBack_10 : decode cX0_layBack 10 = .ok (.aload_n 0, 1) := by decide +kernel
theorem dX0_layBack_11 : decode cX0_layBack 11 = .ok (.getfield 15, 3) := by decide +kernel
theorem dX0_layBack_14 : decode cX0_layBack 14 = .ok (.iconst 0, 1) := by decide +kernel
theorem dX0_layBack_15 : decode cX0_layBack 15 = .ok (.iload_n 2, 1) := by decide +kernel
theorem dX0_layBack_16 : decode cX0_layBack 16 = .ok (.iadd, 1) := by decide +kernel
theorem dX0_layBack_17 : decode cX0_layBack 17 = .ok (.aload_n 1, 1) := by decide +kernel
theorem dX0_layBack_18 : decode cX0_layBack 18 = .ok (.getfield 15, 3) := by decide +kernel
theorem dX0_layBack_21 : decode cX0_layBack 21 = .ok (.iconst 0, 1) := by decide +kernel
theorem dX0_layBack_22 : decode cX0_layBack 22 = .ok (.iload_n 2, 1) := by decide +kernel
theorem dX0_layBack_23 : decode cX0_layBack 23 = .ok (.iadd, 1) := by decide +kernel
theorem dX0_layBack_24 : decode cX0_layBack 24 = .ok (.iaload, 1) := by decide +kernel
theorem dX0_layBack_25 : decode cX0_layBack 25 = .ok (.iastore, 1) := by decide +kernel
theorem dX0_layBack_26 : decode cX0_layBack 26 = .ok (.iconst 0, 1) := by decide +kernel
theorem dX0_layBack_27 : decode cX0_layBack 27 = .ok (.istore_n 3, 1) := by decide +kernel
theorem dX0_layBack_28 : decode cX0_layBack 28 = .ok (.iload_n 3, 1) := by decide +kernel
theorem dX0_layBack_29 : decode cX0_layBack 29 = .ok (.aload_n 1, 1) := by decide +kernel
theorem dX0_layBack_30 : decode cX0_layBack 30 = .ok (.getfield 11, 3) := by decide +kernel
theorem dX0_layBack_33 : decode cX0_layBack 33 = .ok (.if_icmp .ge 30, 3) := by decide +kernel
theorem dX0_layBack_36 : decode cX0_layBack 36 = .ok (.iload_n 2, 1) := by decide +kernel
theorem dX0_layBack_37 : decode cX0_layBack 37 = .ok (.iload_n 3, 1) := by decide +kernel
theorem dX0_layBack_38 : decode cX0_layBack 38 = .ok (.invokestatic 43, 3) := by decide +kernel
theorem dX0_layBack_41 : decode cX0_layBack 41 = .ok (.istore 4, 2) := by decide +kernel
theorem dX0_layBack_43 : decode cX0_layBack 43 = .ok (.aload_n 0, 1) := by decide +kernel
theorem dX0_layBack_44 : decode cX0_layBack 44 = .ok (.getfield 15, 3) := by decide +kernel
theorem dX0_layBack_47 : decode cX0_layBack 47 = .ok (.iload 4, 2) := by decide +kernel
theorem dX0_layBack_49 : decode cX0_layBack 49 = .ok (.aload_n 1, 1) := by decide +kernel
theorem dX0_layBack_50 : decode cX0_layBack 50 = .ok (.getfield 15, 3) := by decide +kernel
theorem dX0_layBack_53 : decode cX0_layBack 53 = .ok (.iload 4, 2) := by decide +kernel
theorem dX0_layBack_55 : decode cX0_layBack 55 = .ok (.iaload, 1) := by decide +kernel
theorem dX0_layBack_56 : decode cX0_layBack 56 = .ok (.iastore, 1) := by decide +kernel
theorem dX0_layBack_57 : decode cX0_layBack 57 = .ok (.iinc 3 1, 3) := by decide +kernel
theorem dX0_layBack_60 : decode cX0_layBack 60 = .ok (.goto (-32), 3) := by decide +kernel
theorem dX0_layBack_63 : decode cX0_layBack 63 = .ok (.iinc 2 1, 3) := by decide +kernel
theorem dX0_layBack_66 : decode cX0_layBack 66 = .ok (.goto (-64), 3) := by decide +kernel
theorem dX0_layBack_69 : decode cX0_layBack 69 = .ok (.aload_n 0, 1) := by decide +kernel
theorem dX0_layBack_70 : decode cX0_layBack 70 = .ok (.getfield 15, 3) := by decide +kernel
theorem dX0_layBack_73 : decode cX0_layBack 73 = .ok (.bipush 19, 2) := by decide +kernel
theorem dX0_layBack_75 : decode cX0_layBack 75 = .ok (.aload_n 1, 1) := by decide +kernel
theorem dX0_layBack_76 : decode cX0_layBack 76 = .ok (.getfield 15, 3) := by decide +kernel
theorem dX0_layBack_79 : decode cX0_layBack 79 = .ok (.bipush 19, 2) := by decide +kernel
theorem dX0_layBack_81 : decode cX0_layBack 81 = .ok (.iaload, 1) := by decide +kernel
theorem dX0_layBack_82 : decode cX0_layBack 82 = .ok (.iastore, 1) := by decide +kernel
theorem dX0_layBack_83 : decode cX0_layBack 83 = .ok (.return_, 1) := by decide +kernel
theorem dX1_init_0 : decode cX1_init 0 = .ok (.aload_n 0, 1) := by decide +kernel
theorem dX1_init_1 : decode cX1_init 1 = .ok (.invokespecial 3, 3) := by decide +kernel
theorem dX1_init_4 : decode cX1_init 4 = .ok (.aload_n 0, 1) := by decide +kernel
theorem dX1_init_5 : decode cX1_init 5 = .ok (.bipush 6, 2) := by decide +kernel
theorem dX1_init_7 : decode cX1_init 7 = .ok (.newarray .int, 2) := by decide +kernel
theorem dX1_init_9 : decode cX1_init 9 = .ok (.putfield 11, 3) := by decide +kernel
theorem dX1_init_12 : decode cX1_init 12 = .ok (.aload_n 0, 1) := by decide +kernel
theorem dX1_init_13 : decode cX1_init 13 = .ok (.bipush 72, 2) := by decide +kernel
theorem dX1_init_15 : decode cX1_init 15 = .ok (.newarray .int, 2) := by decide +kernel
theorem dX1_init_17 : decode cX1_init 17 = .ok (.putfield 15, 3) := by decide +kernel
theorem dX1_init_20 : decode cX1_init 20 = .ok (.aload_n 0, 1) := by decide +kernel
theorem dX1_init_21 : decode cX1_init 21 = .ok (.iconst 0, 1) := by decide +kernel
theorem dX1_init_22 : decode cX1_init 22 = .ok (.putfield 18, 3) := by decide +kernel
theorem dX1_init_25 : decode cX1_init 25 = .ok (.aload_n 0, 1) := by decide +kernel
theorem dX1_init_26 : decode cX1_init 26 = .ok (.new 22, 3) := by decide +kernel
theorem dX1_init_29 : decode cX1_init 29 = .ok (.dup, 1) := by decide +kernel
theorem dX1_init_30 : decode cX1_init 30 = .ok (.invokespecial 24, 3) := by decide +kernel
theorem dX1_init_33 : decode cX1_init 33 = .ok (.putfield 25, 3) := by decide +kernel
theorem dX1_init_36 : decode cX1_init 36 = .ok (.aload_n 0, 1) := by decide +kernel
theorem dX1_init_37 : decode cX1_init 37 = .ok (.bipush 6, 2) := by decide +kernel
theorem dX1_init_39 : decode cX1_init 39 = .ok (.newarray .int, 2) := by decide +kernel
theorem dX1_init_41 : decode cX1_init 41 = .ok (.putfield 29, 3) := by decide +kernel
theorem dX1_init_44 : decode cX1_init 44 = .ok (.aload_n 0, 1) := by decide +kernel
theorem dX1_init_45 : decode cX1_init 45 = .ok (.iconst 0, 1) := by decide +kernel
theorem dX1_init_46 : decode cX1_init 46 = .ok (.putfield 32, 3) := by decide +kernel
theorem dX1_init_49 : decode cX1_init 49 = .ok (.return_, 1) := by decide +kernel
theorem dX1_add_0 : decode cX1_add 0 = .ok (.iload_n 1, 1) := by decide +kernel
theorem dX1_add_1 : decode cX1_add 1 = .ok (.ifCond .lt 19, 3) := by decide +kernel
theorem dX1_add_4 : decode cX1_add 4 = .ok (.iload_n 1, 1) := by decide +kernel
theorem dX1_add_5 : decode cX1_add 5 = .ok (.bipush 6, 2) := by decide +kernel
theorem dX1_add_7 : decode cX1_add 7 = .ok (.if_icmp .ge 13, 3) := by decide +kernel
theorem dX1_add_10 : decode cX1_add 10 = .ok (.aload_n 0, 1) := by decide +kernel
theorem dX1_add_11 : decode cX1_add 11 = .ok (.getfield 11, 3) := by decide +kernel
theorem dX1_add_14 : decode cX1_add 14 = .ok (.iload_n 1, 1) := by decide +kernel
theorem dX1_add_15 : decode cX1_add 15 = .ok (.dup2, 1) := by decide +kernel
theorem dX1_add_16 : decode cX1_add 16 = .ok (.iaload, 1) := by decide +kernel
theorem dX1_add_17 : decode cX1_add 17 = .ok (.iload_n 2, 1) := by decide +kernel
theorem dX1_add_18 : decode cX1_add 18 = .ok (.iadd, 1) := by decide +kernel
theorem dX1_add_19 : decode cX1_add 19 = .ok (.iastore, 1) := by decide +kernel
theorem dX1_add_20 : decode cX1_add 20 = .ok (.return_, 1) := by decide +kernel
theorem dX1_told_0 : decode cX1_told 0 = .ok (.iload_n 1, 1) := by decide +kernel
theorem dX1_told_1 : decode cX1_told 1 = .ok (.ifCond .lt 18, 3) := by decide +kernel
theorem dX1_told_4 : decode cX1_told 4 = .ok (.iload_n 1, 1) := by decide +kernel
theorem dX1_told_5 : decode cX1_told 5 = .ok (.bipush 6, 2) := by decide +kernel
theorem dX1_told_7 : decode cX1_told 7 = .ok (.if_icmp .ge 12, 3) := by decide +kernel
theorem dX1_told_10 : decode cX1_told 10 = .ok (.aload_n 0, 1) := by decide +kernel
theorem dX1_told_11 : decode cX1_told 11 = .ok (.getfield 11, 3) := by decide +kernel
theorem dX1_told_14 : decode cX1_told 14 = .ok (.iload_n 1, 1) := by decide +kernel
theorem dX1_told_15 : decode cX1_told 15 = .ok (.iaload, 1) := by decide +kernel
theorem dX1_told_16 : decode cX1_told 16 = .ok (.goto 4, 3) := by decide +kernel
theorem dX1_told_19 : decode cX1_told 19 = .ok (.iconst 0, 1) := by decide +kernel
theorem dX1_told_20 : decode cX1_told 20 = .ok (.ireturn, 1) := by decide +kernel
theorem dX1_tell_0 : decode cX1_tell 0 = .ok (.aload_n 0, 1) := by decide +kernel
theorem dX1_tell_1 : decode cX1_tell 1 = .ok (.iconst 0, 1) := by decide +kernel
theorem dX1_tell_2 : decode cX1_tell 2 = .ok (.iconst 1, 1) := by decide +kernel
theorem dX1_tell_3 : decode cX1_tell 3 = .ok (.invokevirtual 36, 3) := by decide +kernel
theorem dX1_tell_6 : decode cX1_tell 6 = .ok (.aload_n 0, 1) := by decide +kernel
theorem dX1_tell_7 : decode cX1_tell 7 = .ok (.iconst 1, 1) := by decide +kernel
theorem dX1_tell_8 : decode cX1_tell 8 = .ok (.aload_n 1, 1) := by decide +kernel
theorem dX1_tell_9 : decode cX1_tell 9 = .ok (.getfield 40, 3) := by decide +kernel
theorem dX1_tell_12 : decode cX1_tell 12 = .ok (.invokevirtual 36, 3) := by decide +kernel
theorem dX1_tell_15 : decode cX1_tell 15 = .ok (.aload_n 0, 1) := by decide +kernel
theorem dX1_tell_16 : decode cX1_tell 16 = .ok (.iconst 2, 1) := by decide +kernel
theorem dX1_tell_17 : decode cX1_tell 17 = .ok (.iload_n 2, 1) := by decide +kernel
theorem dX1_tell_18 : decode cX1_tell 18 = .ok (.aload_n 1, 1) := by decide +kernel
theorem dX1_tell_19 : decode cX1_tell 19 = .ok (.getfield 40, 3) := by decide +kernel
theorem dX1_tell_22 : decode cX1_tell 22 = .ok (.isub, 1) := by decide +kernel
theorem dX1_tell_23 : decode cX1_tell 23 = .ok (.invokevirtual 36, 3) := by decide +kernel
theorem dX1_tell_26 : decode cX1_tell 26 = .ok (.aload_n 0, 1) := by decide +kernel
theorem dX1_tell_27 : decode cX1_tell 27 = .ok (.iconst 0, 1) := by decide +kernel
theorem dX1_tell_28 : decode cX1_tell 28 = .ok (.putfield 18, 3) := by decide +kernel
theorem dX1_tell_31 : decode cX1_tell 31 = .ok (.iconst 0, 1) := by decide +kernel
theorem dX1_tell_32 : decode cX1_tell 32 = .ok (.istore_n 3, 1) := by decide +kernel
theorem dX1_tell_33 : decode cX1_tell 33 = .ok (.iload_n 3, 1) := by decide +kernel
theorem dX1_tell_34 : decode cX1_tell 34 = .ok (.aload_n 1, 1) := by decide +kernel
theorem dX1_tell_35 : decode cX1_tell 35 = .ok (.getfield 40, 3) := by decide +kernel
theorem dX1_tell_38 : decode cX1_tell 38 = .ok (.if_icmp .ge 121, 3) := by decide +kernel
theorem dX1_tell_41 : decode cX1_tell 41 = .ok (.iload_n 3, 1) := by decide +kernel
theorem dX1_tell_42 : decode cX1_tell 42 = .ok (.bipush 8, 2) := by decide +kernel
theorem dX1_tell_44 : decode cX1_tell 44 = .ok (.if_icmp .ge 115, 3) := by decide +kernel
theorem dX1_tell_47 : decode cX1_tell 47 = .ok (.aload_n 0, 1) := by decide +kernel
theorem dX1_tell_48 : decode cX1_tell 48 = .ok (.bipush 48, 2) := by decide +kernel
theorem dX1_tell_50 : decode cX1_tell 50 = .ok (.aload_n 1, 1) := by decide +kernel
theorem dX1_tell_51 : decode cX1_tell 51 = .ok (.getfield 45, 3) := by decide +kernel
theorem dX1_tell_54 : decode cX1_tell 54 = .ok (.iload_n 3, 1) := by decide +kernel
theorem dX1_tell_55 : decode cX1_tell 55 = .ok (.iaload, 1) := by decide +kernel
theorem dX1_tell_56 : decode cX1_tell 56 = .ok (.iadd, 1) := by decide +kernel
theorem dX1_tell_57 : decode cX1_tell 57 = .ok (.invokevirtual 48, 3) := by decide +kernel
theorem dX1_tell_60 : decode cX1_tell 60 = .ok (.aload_n 0, 1) := by decide +kernel
theorem dX1_tell_61 : decode cX1_tell 61 = .ok (.bipush 60, 2) := by decide +kernel
theorem dX1_tell_63 : decode cX1_tell 63 = .ok (.invokevirtual 48, 3) := by decide +kernel
theorem dX1_tell_66 : decode cX1_tell 66 = .ok (.aload_n 0, 1) := by decide +kernel
theorem dX1_tell_67 : decode cX1_tell 67 = .ok (.bipush 48, 2) := by decide +kernel
theorem dX1_tell_69 : decode cX1_tell 69 = .ok (.aload_n 1, 1) := by decide +kernel
theorem dX1_tell_70 : decode cX1_tell 70 = .ok (.getfield 52, 3) := by decide +kernel
theorem dX1_tell_73 : decode cX1_tell 73 = .ok (.iload_n 3, 1) := by decide +kernel
theorem dX1_tell_74 : decode cX1_tell 74 = .ok (.iaload, 1) := by decide +kernel
theorem dX1_tell_75 : decode cX1_tell 75 = .ok (.iadd, 1) := by decide +kernel
theorem dX1_tell_76 : decode cX1_tell 76 = .ok (.invokevirtual 48, 3) := by decide +kernel
theorem dX1_tell_79 : decode cX1_tell 79 = .ok (.aload_n 0, 1) := by decide +kernel
theorem dX1_tell_80 : decode cX1_tell 80 = .ok (.bipush 124, 2) := by decide +kernel
theorem dX1_tell_82 : decode cX1_tell 82 = .ok (.invokevirtual 48, 3) := by decide +kernel
theorem dX1_tell_85 : decode cX1_tell 85 = .ok (.aload_n 0, 1) := by decide +kernel
theorem dX1_tell_86 : decode cX1_tell 86 = .ok (.bipush 48, 2) := by decide +kernel
theorem dX1_tell_88 : decode cX1_tell 88 = .ok (.aload_n 1, 1) := by decide +kernel
theorem dX1_tell_89 : decode cX1_tell 89 = .ok (.getfield 55, 3) := by decide +kernel
theorem dX1_tell_92 : decode cX1_tell 92 = .ok (.iload_n 3, 1) := by decide +kernel
theorem dX1_tell_93 : decode cX1_tell 93 = .ok (.iaload, 1) := by decide +kernel
theorem dX1_tell_94 : decode cX1_tell 94 = .ok (.iadd, 1) := by decide +kernel
theorem dX1_tell_95 : decode cX1_tell 95 = .ok (.invokevirtual 48, 3) := by decide +kernel
theorem dX1_tell_98 : decode cX1_tell 98 = .ok (.aload_n 0, 1) := by decide +kernel
theorem dX1_tell_99 : decode cX1_tell 99 = .ok (.bipush 58, 2) := by decide +kernel
theorem dX1_tell_101 : decode cX1_tell 101 = .ok (.invokevirtual 48, 3) := by decide +kernel
theorem dX1_tell_104 : decode cX1_tell 104 = .ok (.aload_n 1, 1) := by decide +kernel
theorem dX1_tell_105 : decode cX1_tell 105 = .ok (.getfield 58, 3) := by decide +kernel
theorem dX1_tell_108 : decode cX1_tell 108 = .ok (.iload_n 3, 1) := by decide +kernel
theorem dX1_tell_109 : decode cX1_tell 109 = .ok (.iaload, 1) := by decide +kernel
theorem dX1_tell_110 : decode cX1_tell 110 = .ok (.bipush 10, 2) := by decide +kernel
theorem dX1_tell_112 : decode cX1_tell 112 = .ok (.if_icmp .lt 19, 3) := by decide +kernel
theorem dX1_tell_115 : decode cX1_tell 115 = .ok (.aload_n 0, 1) := by decide +kernel
theorem dX1_tell_116 : decode cX1_tell 116 = .ok (.bipush 48, 2) := by decide +kernel
theorem dX1_tell_118 : decode cX1_tell 118 = .ok (.aload_n 1, 1) := by decide +kernel
theorem dX1_tell_119 : decode cX1_tell 119 = .ok (.getfield 58, 3) := by decide +kernel
theorem dX1_tell_122 : decode cX1_tell 122 = .ok (.iload_n 3, 1) := by decide +kernel
theorem dX1_tell_123 : decode cX1_tell 123 = .ok (.iaload, 1) := by decide +kernel
theorem dX1_tell_124 : decode cX1_tell 124 = .ok (.bipush 10, 2) := by decide +kernel
theorem dX1_tell_126 : decode cX1_tell 126 = .ok (.idiv, 1) := by decide +kernel
theorem dX1_tell_127 : decode cX1_tell 127 = .ok (.iadd, 1) := by decide +kernel
theorem dX1_tell_128 : decode cX1_tell 128 = .ok (.invokevirtual 48, 3) := by decide +kernel
theorem dX1_tell_131 : decode cX1_tell 131 = .ok (.aload_n 0, 1) := by decide +kernel
theorem dX1_tell_132 : decode cX1_tell 132 = .ok (.bipush 48, 2) := by decide +kernel
theorem dX1_tell_134 : decode cX1_tell 134 = .ok (.aload_n 1, 1) := by decide +kernel
theorem dX1_tell_135 : decode cX1_tell 135 = .ok (.getfield 58, 3) := by decide +kernel
theorem dX1_tell_138 : decode cX1_tell 138 = .ok (.iload_n 3, 1) := by decide +kernel
theorem dX1_tell_139 : decode cX1_tell 139 = .ok (.iaload, 1) := by decide +kernel
theorem dX1_tell_140 : decode cX1_tell 140 = .ok (.bipush 10, 2) := by decide +kernel
theorem dX1_tell_142 : decode cX1_tell 142 = .ok (.irem, 1) := by decide +kernel
theorem dX1_tell_143 : decode cX1_tell 143 = .ok (.iadd, 1) := by decide +kernel
theorem dX1_tell_144 : decode cX1_tell 144 = .ok (.invokevirtual 48, 3) := by decide +kernel
theorem dX1_tell_147 : decode cX1_tell 147 = .ok (.aload_n 0, 1) := by decide +kernel
theorem dX1_tell_148 : decode cX1_tell 148 = .ok (.bipush 59, 2) := by decide +kernel
theorem dX1_tell_150 : decode cX1_tell 150 = .ok (.invokevirtual 48, 3) := by decide +kernel
theorem dX1_tell_153 : decode cX1_tell 153 = .ok (.iinc 3 1, 3) := by decide +kernel
theorem dX1_tell_156 : decode cX1_tell 156 = .ok (.goto (-123), 3) := by decide +kernel
theorem dX1_tell_159 : decode cX1_tell 159 = .ok (.return_, 1) := by decide +kernel
theorem dX1_write_0 : decode cX1_write 0 = .ok (.aload_n 0, 1) := by decide +kernel
theorem dX1_write_1 : decode cX1_write 1 = .ok (.getfield 18, 3) := by decide +kernel
theorem dX1_write_4 : decode cX1_write 4 = .ok (.bipush 72, 2) := by decide +kernel
theorem dX1_write_6 : decode cX1_write 6 = .ok (.if_icmp .ge 23, 3) := by decide +kernel
theorem dX1_write_9 : decode cX1_write 9 = .ok (.aload_n 0, 1) := by decide +kernel
theorem dX1_write_10 : decode cX1_write 10 = .ok (.getfield 15, 3) := by decide +kernel
theorem dX1_write_13 : decode cX1_write 13 = .ok (.aload_n 0, 1) := by decide +kernel
theorem dX1_write_14 : decode cX1_write 14 = .ok (.getfield 18, 3) := by decide +kernel
theorem dX1_write_17 : decode cX1_write 17 = .ok (.iload_n 1, 1) := by decide +kernel
theorem dX1_write_18 : decode cX1_write 18 = .ok (.iastore, 1) := by decide +kernel
theorem dX1_write_19 : decode cX1_write 19 = .ok (.aload_n 0, 1) := by decide +kernel
theorem dX1_write_20 : decode cX1_write 20 = .ok (.dup, 1) := by decide +kernel
theorem dX1_write_21 : decode cX1_write 21 = .ok (.getfield 18, 3) := by decide +kernel
theorem dX1_write_24 : decode cX1_write 24 = .ok (.iconst 1, 1) := by decide +kernel
theorem dX1_write_25 : decode cX1_write 25 = .ok (.iadd, 1) := by decide +kernel
theorem dX1_write_26 : decode cX1_write 26 = .ok (.putfield 18, 3) := by decide +kernel
theorem dX1_write_29 : decode cX1_write 29 = .ok (.return_, 1) := by decide +kernel
theorem dX1_taleLength_0 : decode cX1_taleLength 0 = .ok (.aload_n 0, 1) := by decide +kernel
theorem dX1_taleLength_1 : decode cX1_taleLength 1 = .ok (.getfield 18, 3) := by decide +kernel
theorem dX1_taleLength_4 : decode cX1_taleLength 4 = .ok (.ireturn, 1) := by decide +kernel
theorem dX1_taleByte_0 : decode cX1_taleByte 0 = .ok (.iload_n 1, 1) := by decide +kernel
theorem dX1_taleByte_1 : decode cX1_taleByte 1 = .ok (.ifCond .lt 20, 3) := by decide +kernel
theorem dX1_taleByte_4 : decode cX1_taleByte 4 = .ok (.iload_n 1, 1) := by decide +kernel
theorem dX1_taleByte_5 : decode cX1_taleByte 5 = .ok (.aload_n 0, 1) := by decide +kernel
theorem dX1_taleByte_6 : decode cX1_taleByte 6 = .ok (.getfield 18, 3) := by decide +kernel
theorem dX1_taleByte_9 : decode cX1_taleByte 9 = .ok (.if_icmp .ge 12, 3) := by decide +kernel
theorem dX1_taleByte_12 : decode cX1_taleByte 12 = .ok (.aload_n 0, 1) := by decide +kernel
theorem dX1_taleByte_13 : decode cX1_taleByte 13 = .ok (.getfield 15, 3) := by decide +kernel
theorem dX1_taleByte_16 : decode cX1_taleByte 16 = .ok (.iload_n 1, 1) := by decide +kernel
theorem dX1_taleByte_17 : decode cX1_taleByte 17 = .ok (.iaload, 1) := by decide +kernel
theorem dX1_taleByte_18 : decode cX1_taleByte 18 = .ok (.goto 5, 3) := by decide +kernel
theorem dX1_taleByte_21 : decode cX1_taleByte 21 = .ok (.bipush (-2), 2) := by decide +kernel
theorem dX1_taleByte_23 : decode cX1_taleByte 23 = .ok (.ireturn, 1) := by decide +kernel
theorem dX1_keepImage_0 : decode cX1_keepImage 0 = .ok (.aload_n 0, 1) := by decide +kernel
theorem dX1_keepImage_1 : decode cX1_keepImage 1 = .ok (.getfield 25, 3) := by decide +kernel
theorem dX1_keepImage_4 : decode cX1_keepImage 4 = .ok (.aload_n 1, 1) := by decide +kernel
theorem dX1_keepImage_5 : decode cX1_keepImage 5 = .ok (.invokevirtual 61, 3) := by decide +kernel
theorem dX1_keepImage_8 : decode cX1_keepImage 8 = .ok (.aload_n 0, 1) := by decide +kernel
theorem dX1_keepImage_9 : decode cX1_keepImage 9 = .ok (.getfield 11, 3) := by decide +kernel
theorem dX1_keepImage_12 : decode cX1_keepImage 12 = .ok (.iconst 0, 1) := by decide +kernel
theorem dX1_keepImage_13 : decode cX1_keepImage 13 = .ok (.aload_n 0, 1) := by decide +kernel
theorem dX1_keepImage_14 : decode cX1_keepImage 14 = .ok (.getfield 29, 3) := by decide +kernel
theorem dX1_keepImage_17 : decode cX1_keepImage 17 = .ok (.iconst 0, 1) := by decide +kernel
theorem dX1_keepImage_18 : decode cX1_keepImage 18 = .ok (.bipush 6, 2) := by decide +kernel
theorem dX1_keepImage_20 : decode cX1_keepImage 20 = .ok (.invokestatic 65, 3) := by decide +kernel
theorem dX1_keepImage_23 : decode cX1_keepImage 23 = .ok (.aload_n 0, 1) := by decide +kernel
theorem dX1_keepImage_24 : decode cX1_keepImage 24 = .ok (.iconst 1, 1) := by decide +kernel
theorem dX1_keepImage_25 : decode cX1_keepImage 25 = .ok (.putfield 32, 3) := by decide +kernel
theorem dX1_keepImage_28 : decode cX1_keepImage 28 = .ok (.return_, 1) := by decide +kernel
theorem dX1_hasImage_0 : decode cX1_hasImage 0 = .ok (.aload_n 0, 1) := by decide +kernel
theorem dX1_hasImage_1 : decode cX1_hasImage 1 = .ok (.getfield 32, 3) := by decide +kernel
theorem dX1_hasImage_4 : decode cX1_hasImage 4 = .ok (.ireturn, 1) := by decide +kernel
theorem dX1_layBack_0 : decode cX1_layBack 0 = .ok (.aload_n 1, 1) := by decide +kernel
theorem dX1_layBack_1 : decode cX1_layBack 1 = .ok (.aload_n 0, 1) := by decide +kernel
theorem dX1_layBack_2 : decode cX1_layBack 2 = .ok (.getfield 25, 3) := by decide +kernel
theorem dX1_layBack_5 : decode cX1_layBack 5 = .ok (.invokevirtual 71, 3) := by decide +kernel
theorem dX1_layBack_8 : decode cX1_layBack 8 = .ok (.aload_n 0, 1) := by decide +kernel
theorem dX1_layBack_9 : decode cX1_layBack 9 = .ok (.getfield 29, 3) := by decide +kernel
theorem dX1_layBack_12 : decode cX1_layBack 12 = .ok (.iconst 0, 1) := by decide +kernel
theorem dX1_layBack_13 : decode cX1_layBack 13 = .ok (.aload_n 0, 1) := by decide +kernel
theorem dX1_layBack_14 : decode cX1_layBack 14 = .ok (.getfield 11, 3) := by decide +kernel
theorem dX1_layBack_17 : decode cX1_layBack 17 = .ok (.iconst 0, 1) := by decide +kernel
theorem dX1_layBack_18 : decode cX1_layBack 18 = .ok (.bipush 6, 2) := by decide +kernel
theorem dX1_layBack_20 : decode cX1_layBack 20 = .ok (.invokestatic 65, 3) := by decide +kernel
theorem dX1_layBack_23 : decode cX1_layBack 23 = .ok (.return_, 1) := by decide +kernel
theorem dX2_init_0 : decode cX2_init 0 = .ok (.aload_n 0, 1) := by decide +kernel
theorem dX2_init_1 : decode cX2_init 1 = .ok (.invokespecial 1, 3) := by decide +kernel
theorem dX2_init_4 : decode cX2_init 4 = .ok (.aload_n 0, 1) := by decide +kernel
theorem dX2_init_5 : decode cX2_init 5 = .ok (.bipush 40, 2) := by decide +kernel
theorem dX2_init_7 : decode cX2_init 7 = .ok (.newarray .int, 2) := by decide +kernel
theorem dX2_init_9 : decode cX2_init 9 = .ok (.putfield 9, 3) := by decide +kernel
theorem dX2_init_12 : decode cX2_init 12 = .ok (.aload_n 0, 1) := by decide +kernel
theorem dX2_init_13 : decode cX2_init 13 = .ok (.bipush 40, 2) := by decide +kernel
theorem dX2_init_15 : decode cX2_init 15 = .ok (.newarray .int, 2) := by decide +kernel
theorem dX2_init_17 : decode cX2_init 17 = .ok (.putfield 13, 3) := by decide +kernel
theorem dX2_init_20 : decode cX2_init 20 = .ok (.aload_n 0, 1) := by decide +kernel
theorem dX2_init_21 : decode cX2_init 21 = .ok (.bipush 40, 2) := by decide +kernel
theorem dX2_init_23 : decode cX2_init 23 = .ok (.newarray .int, 2) := by decide +kernel
theorem dX2_init_25 : decode cX2_init 25 = .ok (.putfield 16, 3) := by decide +kernel
theorem dX2_init_28 : decode cX2_init 28 = .ok (.aload_n 0, 1) := by decide +kernel
theorem dX2_init_29 : decode cX2_init 29 = .ok (.iconst 0, 1) := by decide +kernel
theorem dX2_init_30 : decode cX2_init 30 = .ok (.putfield 19, 3) := by decide +kernel
theorem dX2_init_33 : decode cX2_init 33 = .ok (.aload_n 0, 1) := by decide +kernel
theorem dX2_init_34 : decode cX2_init 34 = .ok (.iconst 0, 1) := by decide +kernel
theorem dX2_init_35 : decode cX2_init 35 = .ok (.putfield 23, 3) := by decide +kernel
theorem dX2_init_38 : decode cX2_init 38 = .ok (.return_, 1) := by decide +kernel
theorem dX2_add_0 : decode cX2_add 0 = .ok (.aload_n 0, 1) := by decide +kernel
theorem dX2_add_1 : decode cX2_add 1 = .ok (.getfield 19, 3) := by decide +kernel
theorem dX2_add_4 : decode cX2_add 4 = .ok (.bipush 40, 2) := by decide +kernel
theorem dX2_add_6 : decode cX2_add 6 = .ok (.if_icmp .lt 7, 3) := by decide +kernel
theorem dX2_add_9 : decode cX2_add 9 = .ok (.aload_n 0, 1) := by decide +kernel
theorem dX2_add_10 : decode cX2_add 10 = .ok (.invokevirtual 26, 3) := by decide +kernel
theorem dX2_add_13 : decode cX2_add 13 = .ok (.aload_n 0, 1) := by decide +kernel
theorem dX2_add_14 : decode cX2_add 14 = .ok (.getfield 9, 3) := by decide +kernel
theorem dX2_add_17 : decode cX2_add 17 = .ok (.aload_n 0, 1) := by decide +kernel
theorem dX2_add_18 : decode cX2_add 18 = .ok (.getfield 19, 3) := by decide +kernel
theorem dX2_add_21 : decode cX2_add 21 = .ok (.iload_n 1, 1) := by decide +kernel
theorem dX2_add_22 : decode cX2_add 22 = .ok (.iastore, 1) := by decide +kernel
theorem dX2_add_23 : decode cX2_add 23 = .ok (.aload_n 0, 1) := by decide +kernel
theorem dX2_add_24 : decode cX2_add 24 = .ok (.getfield 13, 3) := by decide +kernel
theorem dX2_add_27 : decode cX2_add 27 = .ok (.aload_n 0, 1) := by decide +kernel
theorem dX2_add_28 : decode cX2_add 28 = .ok (.getfield 19, 3) := by decide +kernel
theorem dX2_add_31 : decode cX2_add 31 = .ok (.iload_n 2, 1) := by decide +kernel
theorem dX2_add_32 : decode cX2_add 32 = .ok (.iastore, 1) := by decide +kernel
theorem dX2_add_33 : decode cX2_add 33 = .ok (.aload_n 0, 1) := by decide +kernel
theorem dX2_add_34 : decode cX2_add 34 = .ok (.getfield 16, 3) := by decide +kernel
theorem dX2_add_37 : decode cX2_add 37 = .ok (.aload_n 0, 1) := by decide +kernel
theorem dX2_add_38 : decode cX2_add 38 = .ok (.getfield 19, 3) := by decide +kernel
theorem dX2_add_41 : decode cX2_add 41 = .ok (.iload_n 3, 1) := by decide +kernel
theorem dX2_add_42 : decode cX2_add 42 = .ok (.iastore, 1) := by decide +kernel
theorem dX2_add_43 : decode cX2_add 43 = .ok (.aload_n 0, 1) := by decide +kernel
theorem dX2_add_44 : decode cX2_add 44 = .ok (.dup, 1) := by decide +kernel
theorem dX2_add_45 : decode cX2_add 45 = .ok (.getfield 19, 3) := by decide +kernel
theorem dX2_add_48 : decode cX2_add 48 = .ok (.iconst 1, 1) := by decide +kernel
theorem dX2_add_49 : decode cX2_add 49 = .ok (.iadd, 1) := by decide +kernel
theorem dX2_add_50 : decode cX2_add 50 = .ok (.putfield 19, 3) := by decide +kernel
theorem dX2_add_53 : decode cX2_add 53 = .ok (.aload_n 0, 1) := by decide +kernel
theorem dX2_add_54 : decode cX2_add 54 = .ok (.aload_n 0, 1) := by decide +kernel
theorem dX2_add_55 : decode cX2_add 55 = .ok (.getfield 19, 3) := by decide +kernel
theorem dX2_add_58 : decode cX2_add 58 = .ok (.putfield 23, 3) := by decide +kernel
theorem dX2_add_61 : decode cX2_add 61 = .ok (.return_, 1) := by decide +kernel
theorem dX2_forgetFirst_0 : decode cX2_forgetFirst 0 = .ok (.aload_n 0, 1) := by decide +kernel
theorem dX2_forgetFirst_1 : decode cX2_forgetFirst 1 = .ok (.getfield 9, 3) := by decide +kernel
theorem dX2_forgetFirst_4 : decode cX2_forgetFirst 4 = .ok (.iconst 1, 1) := by decide +kernel
theorem dX2_forgetFirst_5 : decode cX2_forgetFirst 5 = .ok (.aload_n 0, 1) := by decide +kernel
theorem dX2_forgetFirst_6 : decode cX2_forgetFirst 6 = .ok (.getfield 9, 3) := by decide +kernel
theorem dX2_forgetFirst_9 : decode cX2_forgetFirst 9 = .ok (.iconst 0, 1) := by decide +kernel
theorem dX2_forgetFirst_10 : decode cX2_forgetFirst 10 = .ok (.bipush 39, 2) := by decide +kernel
theorem dX2_forgetFirst_12 : decode cX2_forgetFirst 12 = .ok (.invokestatic 29, 3) := by decide +kernel
theorem dX2_forgetFirst_15 : decode cX2_forgetFirst 15 = .ok (.aload_n 0, 1) := by decide +kernel
theorem dX2_forgetFirst_16 : decode cX2_forgetFirst 16 = .ok (.getfield 13, 3) := by decide +kernel
theorem dX2_forgetFirst_19 : decode cX2_forgetFirst 19 = .ok (.iconst 1, 1) := by decide +kernel
theorem dX2_forgetFirst_20 : decode cX2_forgetFirst 20 = .ok (.aload_n 0, 1) := by decide +kernel
theorem dX2_forgetFirst_21 : decode cX2_forgetFirst 21 = .ok (.getfield 13, 3) := by decide +kernel
theorem dX2_forgetFirst_24 : decode cX2_forgetFirst 24 = .ok (.iconst 0, 1) := by decide +kernel
theorem dX2_forgetFirst_25 : decode cX2_forgetFirst 25 = .ok (.bipush 39, 2) := by decide +kernel
theorem dX2_forgetFirst_27 : decode cX2_forgetFirst 27 = .ok (.invokestatic 29, 3) := by decide +kernel
theorem dX2_forgetFirst_30 : decode cX2_forgetFirst 30 = .ok (.aload_n 0, 1) := by decide +kernel
theorem dX2_forgetFirst_31 : decode cX2_forgetFirst 31 = .ok (.getfield 16, 3) := by decide +kernel
theorem dX2_forgetFirst_34 : decode cX2_forgetFirst 34 = .ok (.iconst 1, 1) := by decide +kernel
theorem dX2_forgetFirst_35 : decode cX2_forgetFirst 35 = .ok (.aload_n 0, 1) := by decide +kernel
theorem dX2_forgetFirst_36 : decode cX2_forgetFirst 36 = .ok (.getfield 16, 3) := by decide +kernel
theorem dX2_forgetFirst_39 : decode cX2_forgetFirst 39 = .ok (.iconst 0, 1) := by decide +kernel
theorem dX2_forgetFirst_40 : decode cX2_forgetFirst 40 = .ok (.bipush 39, 2) := by decide +kernel
theorem dX2_forgetFirst_42 : decode cX2_forgetFirst 42 = .ok (.invokestatic 29, 3) := by decide +kernel
theorem dX2_forgetFirst_45 : decode cX2_forgetFirst 45 = .ok (.aload_n 0, 1) := by decide +kernel
theorem dX2_forgetFirst_46 : decode cX2_forgetFirst 46 = .ok (.bipush 39, 2) := by decide +kernel
theorem dX2_forgetFirst_48 : decode cX2_forgetFirst 48 = .ok (.putfield 19, 3) := by decide +kernel
theorem dX2_forgetFirst_51 : decode cX2_forgetFirst 51 = .ok (.return_, 1) := by decide +kernel
theorem dX2_undoable_0 : decode cX2_undoable 0 = .ok (.aload_n 0, 1) := by decide +kernel
theorem dX2_undoable_1 : decode cX2_undoable 1 = .ok (.getfield 19, 3) := by decide +kernel
theorem dX2_undoable_4 : decode cX2_undoable 4 = .ok (.ireturn, 1) := by decide +kernel
theorem dX2_redoable_0 : decode cX2_redoable 0 = .ok (.aload_n 0, 1) := by decide +kernel
theorem dX2_redoable_1 : decode cX2_redoable 1 = .ok (.getfield 23, 3) := by decide +kernel
theorem dX2_redoable_4 : decode cX2_redoable 4 = .ok (.aload_n 0, 1) := by decide +kernel
theorem dX2_redoable_5 : decode cX2_redoable 5 = .ok (.getfield 19, 3) := by decide +kernel
theorem dX2_redoable_8 : decode cX2_redoable 8 = .ok (.isub, 1) := by decide +kernel
theorem dX2_redoable_9 : decode cX2_redoable 9 = .ok (.ireturn, 1) := by decide +kernel
theorem dX2_stepBack_0 : decode cX2_stepBack 0 = .ok (.aload_n 0, 1) := by decide +kernel
theorem dX2_stepBack_1 : decode cX2_stepBack 1 = .ok (.getfield 19, 3) := by decide +kernel
theorem dX2_stepBack_4 : decode cX2_stepBack 4 = .ok (.ifCond .le 35, 3) := by decide +kernel
theorem dX2_stepBack_7 : decode cX2_stepBack 7 = .ok (.aload_n 0, 1) := by decide +kernel
theorem dX2_stepBack_8 : decode cX2_stepBack 8 = .ok (.dup, 1) := by decide +kernel
theorem dX2_stepBack_9 : decode cX2_stepBack 9 = .ok (.getfield 19, 3) := by decide +kernel
theorem dX2_stepBack_12 : decode cX2_stepBack 12 = .ok (.iconst 1, 1) := by decide +kernel
theorem dX2_stepBack_13 : decode cX2_stepBack 13 = .ok (.isub, 1) := by decide +kernel
theorem dX2_stepBack_14 : decode cX2_stepBack 14 = .ok (.putfield 19, 3) := by decide +kernel
theorem dX2_stepBack_17 : decode cX2_stepBack 17 = .ok (.aload_n 1, 1) := by decide +kernel
theorem dX2_stepBack_18 : decode cX2_stepBack 18 = .ok (.aload_n 0, 1) := by decide +kernel
theorem dX2_stepBack_19 : decode cX2_stepBack 19 = .ok (.getfield 9, 3) := by decide +kernel
theorem dX2_stepBack_22 : decode cX2_stepBack 22 = .ok (.aload_n 0, 1) := by decide +kernel
theorem dX2_stepBack_23 : decode cX2_stepBack 23 = .ok (.getfield 19, 3) := by decide +kernel
theorem dX2_stepBack_26 : decode cX2_stepBack 26 = .ok (.iaload, 1) := by decide +kernel
theorem dX2_stepBack_27 : decode cX2_stepBack 27 = .ok (.aload_n 0, 1) := by decide +kernel
theorem dX2_stepBack_28 : decode cX2_stepBack 28 = .ok (.getfield 13, 3) := by decide +kernel
theorem dX2_stepBack_31 : decode cX2_stepBack 31 = .ok (.aload_n 0, 1) := by decide +kernel
theorem dX2_stepBack_32 : decode cX2_stepBack 32 = .ok (.getfield 19, 3) := by decide +kernel
theorem dX2_stepBack_35 : decode cX2_stepBack 35 = .ok (.iaload, 1) := by decide +kernel
theorem dX2_stepBack_36 : decode cX2_stepBack 36 = .ok (.invokevirtual 35, 3) := by decide +kernel
theorem dX2_stepBack_39 : decode cX2_stepBack 39 = .ok (.return_, 1) := by decide +kernel
theorem dX2_stepOn_0 : decode cX2_stepOn 0 = .ok (.aload_n 0, 1) := by decide +kernel
theorem dX2_stepOn_1 : decode cX2_stepOn 1 = .ok (.getfield 19, 3) := by decide +kernel
theorem dX2_stepOn_4 : decode cX2_stepOn 4 = .ok (.aload_n 0, 1) := by decide +kernel
theorem dX2_stepOn_5 : decode cX2_stepOn 5 = .ok (.getfield 23, 3) := by decide +kernel
theorem dX2_stepOn_8 : decode cX2_stepOn 8 = .ok (.if_icmp .ge 44, 3) := by decide +kernel
theorem dX2_stepOn_11 : decode cX2_stepOn 11 = .ok (.aload_n 0, 1) := by decide +kernel
theorem dX2_stepOn_12 : decode cX2_stepOn 12 = .ok (.getfield 19, 3) := by decide +kernel
theorem dX2_stepOn_15 : decode cX2_stepOn 15 = .ok (.bipush 40, 2) := by decide +kernel
theorem dX2_stepOn_17 : decode cX2_stepOn 17 = .ok (.if_icmp .ge 35, 3) := by decide +kernel
theorem dX2_stepOn_20 : decode cX2_stepOn 20 = .ok (.aload_n 1, 1) := by decide +kernel
theorem dX2_stepOn_21 : decode cX2_stepOn 21 = .ok (.aload_n 0, 1) := by decide +kernel
theorem dX2_stepOn_22 : decode cX2_stepOn 22 = .ok (.getfield 9, 3) := by decide +kernel
theorem dX2_stepOn_25 : decode cX2_stepOn 25 = .ok (.aload_n 0, 1) := by decide +kernel
theorem dX2_stepOn_26 : decode cX2_stepOn 26 = .ok (.getfield 19, 3) := by decide +kernel
theorem dX2_stepOn_29 : decode cX2_stepOn 29 = .ok (.iaload, 1) := by decide +kernel
theorem dX2_stepOn_30 : decode cX2_stepOn 30 = .ok (.aload_n 0, 1) := by decide +kernel
theorem dX2_stepOn_31 : decode cX2_stepOn 31 = .ok (.getfield 16, 3) := by decide +kernel
theorem dX2_stepOn_34 : decode cX2_stepOn 34 = .ok (.aload_n 0, 1) := by decide +kernel
theorem dX2_stepOn_35 : decode cX2_stepOn 35 = .ok (.getfield 19, 3) := by decide +kernel
theorem dX2_stepOn_38 : decode cX2_stepOn 38 = .ok (.iaload, 1) := by decide +kernel
theorem dX2_stepOn_39 : decode cX2_stepOn 39 = .ok (.invokevirtual 35, 3) := by decide +kernel
theorem dX2_stepOn_42 : decode cX2_stepOn 42 = .ok (.aload_n 0, 1) := by decide +kernel
theorem dX2_stepOn_43 : decode cX2_stepOn 43 = .ok (.dup, 1) := by decide +kernel
theorem dX2_stepOn_44 : decode cX2_stepOn 44 = .ok (.getfield 19, 3) := by decide +kernel
theorem dX2_stepOn_47 : decode cX2_stepOn 47 = .ok (.iconst 1, 1) := by decide +kernel
theorem dX2_stepOn_48 : decode cX2_stepOn 48 = .ok (.iadd, 1) := by decide +kernel
theorem dX2_stepOn_49 : decode cX2_stepOn 49 = .ok (.putfield 19, 3) := by decide +kernel
theorem dX2_stepOn_52 : decode cX2_stepOn 52 = .ok (.return_, 1) := by decide +kernel
theorem dX3_init_0 : decode cX3_init 0 = .ok (.aload_n 0, 1) := by decide +kernel
theorem dX3_init_1 : decode cX3_init 1 = .ok (.invokespecial 1, 3) := by decide +kernel
theorem dX3_init_4 : decode cX3_init 4 = .ok (.aload_n 0, 1) := by decide +kernel
theorem dX3_init_5 : decode cX3_init 5 = .ok (.sipush 161, 3) := by decide +kernel
theorem dX3_init_8 : decode cX3_init 8 = .ok (.newarray .int, 2) := by decide +kernel
theorem dX3_init_10 : decode cX3_init 10 = .ok (.putfield 9, 3) := by decide +kernel
theorem dX3_init_13 : decode cX3_init 13 = .ok (.aload_n 0, 1) := by decide +kernel
theorem dX3_init_14 : decode cX3_init 14 = .ok (.iconst 0, 1) := by decide +kernel
theorem dX3_init_15 : decode cX3_init 15 = .ok (.putfield 15, 3) := by decide +kernel
theorem dX3_init_18 : decode cX3_init 18 = .ok (.aload_n 0, 1) := by decide +kernel
theorem dX3_init_19 : decode cX3_init 19 = .ok (.bipush 6, 2) := by decide +kernel
theorem dX3_init_21 : decode cX3_init 21 = .ok (.newarray .int, 2) := by decide +kernel
theorem dX3_init_23 : decode cX3_init 23 = .ok (.putfield 19, 3) := by decide +kernel
theorem dX3_init_26 : decode cX3_init 26 = .ok (.aload_n 0, 1) := by decide +kernel
theorem dX3_init_27 : decode cX3_init 27 = .ok (.bipush 40, 2) := by decide +kernel
theorem dX3_init_29 : decode cX3_init 29 = .ok (.newarray .int, 2) := by decide +kernel
theorem dX3_init_31 : decode cX3_init 31 = .ok (.putfield 22, 3) := by decide +kernel
theorem dX3_init_34 : decode cX3_init 34 = .ok (.return_, 1) := by decide +kernel
theorem dX3_become_0 : decode cX3_become 0 = .ok (.aload_n 0, 1) := by decide +kernel
theorem dX3_become_1 : decode cX3_become 1 = .ok (.aload_n 1, 1) := by decide +kernel
theorem dX3_become_2 : decode cX3_become 2 = .ok (.getfield 25, 3) := by decide +kernel
theorem dX3_become_5 : decode cX3_become 5 = .ok (.aload_n 0, 1) := by decide +kernel
theorem dX3_become_6 : decode cX3_become 6 = .ok (.getfield 9, 3) := by decide +kernel
theorem dX3_become_9 : decode cX3_become 9 = .ok (.arraylength, 1) := by decide +kernel
theorem dX3_become_10 : decode cX3_become 10 = .ok (.invokestatic 26, 3) := by decide +kernel
theorem dX3_become_13 : decode cX3_become 13 = .ok (.putfield 15, 3) := by decide +kernel
theorem dX3_become_16 : decode cX3_become 16 = .ok (.aload_n 1, 1) := by decide +kernel
theorem dX3_become_17 : decode cX3_become 17 = .ok (.getfield 32, 3) := by decide +kernel
theorem dX3_become_20 : decode cX3_become 20 = .ok (.iconst 0, 1) := by decide +kernel
theorem dX3_become_21 : decode cX3_become 21 = .ok (.aload_n 0, 1) := by decide +kernel
theorem dX3_become_22 : decode cX3_become 22 = .ok (.getfield 9, 3) := by decide +kernel
theorem dX3_become_25 : decode cX3_become 25 = .ok (.iconst 0, 1) := by decide +kernel
theorem dX3_become_26 : decode cX3_become 26 = .ok (.aload_n 0, 1) := by decide +kernel
theorem dX3_become_27 : decode cX3_become 27 = .ok (.getfield 15, 3) := by decide +kernel
theorem dX3_become_30 : decode cX3_become 30 = .ok (.invokestatic 33, 3) := by decide +kernel
theorem dX3_become_33 : decode cX3_become 33 = .ok (.return_, 1) := by decide +kernel
theorem dX3_setWords_0 : decode cX3_setWords 0 = .ok (.aload_n 0, 1) := by decide +kernel
theorem dX3_setWords_1 : decode cX3_setWords 1 = .ok (.getfield 19, 3) := by decide +kernel
theorem dX3_setWords_4 : decode cX3_setWords 4 = .ok (.iconst 1, 1) := by decide +kernel
theorem dX3_setWords_5 : decode cX3_setWords 5 = .ok (.iload_n 1, 1) := by decide +kernel
theorem dX3_setWords_6 : decode cX3_setWords 6 = .ok (.iastore, 1) := by decide +kernel
theorem dX3_setWords_7 : decode cX3_setWords 7 = .ok (.aload_n 0, 1) := by decide +kernel
theorem dX3_setWords_8 : decode cX3_setWords 8 = .ok (.getfield 19, 3) := by decide +kernel
theorem dX3_setWords_11 : decode cX3_setWords 11 = .ok (.iconst 2, 1) := by decide +kernel
theorem dX3_setWords_12 : decode cX3_setWords 12 = .ok (.iload_n 2, 1) := by decide +kernel
theorem dX3_setWords_13 : decode cX3_setWords 13 = .ok (.iastore, 1) := by decide +kernel
theorem dX3_setWords_14 : decode cX3_setWords 14 = .ok (.aload_n 0, 1) := by decide +kernel
theorem dX3_setWords_15 : decode cX3_setWords 15 = .ok (.getfield 19, 3) := by decide +kernel
theorem dX3_setWords_18 : decode cX3_setWords 18 = .ok (.iconst 3, 1) := by decide +kernel
theorem dX3_setWords_19 : decode cX3_setWords 19 = .ok (.iload_n 3, 1) := by decide +kernel
theorem dX3_setWords_20 : decode cX3_setWords 20 = .ok (.iastore, 1) := by decide +kernel
theorem dX3_setWords_21 : decode cX3_setWords 21 = .ok (.aload_n 0, 1) := by decide +kernel
theorem dX3_setWords_22 : decode cX3_setWords 22 = .ok (.getfield 19, 3) := by decide +kernel
theorem dX3_setWords_25 : decode cX3_setWords 25 = .ok (.iconst 4, 1) := by decide +kernel
theorem dX3_setWords_26 : decode cX3_setWords 26 = .ok (.iload 4, 2) := by decide +kernel
theorem dX3_setWords_28 : decode cX3_setWords 28 = .ok (.iastore, 1) := by decide +kernel
theorem dX3_setWords_29 : decode cX3_setWords 29 = .ok (.aload_n 0, 1) := by decide +kernel
theorem dX3_setWords_30 : decode cX3_setWords 30 = .ok (.getfield 19, 3) := by decide +kernel
theorem dX3_setWords_33 : decode cX3_setWords 33 = .ok (.iconst 5, 1) := by decide +kernel
theorem dX3_setWords_34 : decode cX3_setWords 34 = .ok (.iload 5, 2) := by decide +kernel
theorem dX3_setWords_36 : decode cX3_setWords 36 = .ok (.iastore, 1) := by decide +kernel
theorem dX3_setWords_37 : decode cX3_setWords 37 = .ok (.return_, 1) := by decide +kernel
theorem dX3_weighedOut_0 : decode cX3_weighedOut 0 = .ok (.aload_n 0, 1) := by decide +kernel
theorem dX3_weighedOut_1 : decode cX3_weighedOut 1 = .ok (.getfield 15, 3) := by decide +kernel
theorem dX3_weighedOut_4 : decode cX3_weighedOut 4 = .ok (.ifCond .ne 18, 3) := by decide +kernel
theorem dX3_weighedOut_7 : decode cX3_weighedOut 7 = .ok (.bipush 8, 2) := by decide +kernel
theorem dX3_weighedOut_9 : decode cX3_weighedOut 9 = .ok (.aload_n 0, 1) := by decide +kernel
theorem dX3_weighedOut_10 : decode cX3_weighedOut 10 = .ok (.getfield 19, 3) := by decide +kernel
theorem dX3_weighedOut_13 : decode cX3_weighedOut 13 = .ok (.iconst 3, 1) := by decide +kernel
theorem dX3_weighedOut_14 : decode cX3_weighedOut 14 = .ok (.iaload, 1) := by decide +kernel
theorem dX3_weighedOut_15 : decode cX3_weighedOut 15 = .ok (.iadd, 1) := by decide +kernel
theorem dX3_weighedOut_16 : decode cX3_weighedOut 16 = .ok (.iload_n 1, 1) := by decide +kernel
theorem dX3_weighedOut_17 : decode cX3_weighedOut 17 = .ok (.isub, 1) := by decide +kernel
theorem dX3_weighedOut_18 : decode cX3_weighedOut 18 = .ok (.invokestatic 39, 3) := by decide +kernel
theorem dX3_weighedOut_21 : decode cX3_weighedOut 21 = .ok (.ireturn, 1) := by decide +kernel
theorem dX3_weighedOut_22 : decode cX3_weighedOut 22 = .ok (.aload_n 0, 1) := by decide +kernel
theorem dX3_weighedOut_23 : decode cX3_weighedOut 23 = .ok (.getfield 19, 3) := by decide +kernel
theorem dX3_weighedOut_26 : decode cX3_weighedOut 26 = .ok (.iconst 0, 1) := by decide +kernel
theorem dX3_weighedOut_27 : decode cX3_weighedOut 27 = .ok (.iload_n 1, 1) := by decide +kernel
theorem dX3_weighedOut_28 : decode cX3_weighedOut 28 = .ok (.iastore, 1) := by decide +kernel
theorem dX3_weighedOut_29 : decode cX3_weighedOut 29 = .ok (.iconst (-1), 1) := by decide +kernel
theorem dX3_weighedOut_30 : decode cX3_weighedOut 30 = .ok (.istore_n 2, 1) := by decide +kernel
theorem dX3_weighedOut_31 : decode cX3_weighedOut 31 = .ok (.iconst 1, 1) := by decide +kernel
theorem dX3_weighedOut_32 : decode cX3_weighedOut 32 = .ok (.istore_n 3, 1) := by decide +kernel
theorem dX3_weighedOut_33 : decode cX3_weighedOut 33 = .ok (.iconst 0, 1) := by decide +kernel
theorem dX3_weighedOut_34 : decode cX3_weighedOut 34 = .ok (.istore 4, 2) := by decide +kernel
theorem dX3_weighedOut_36 : decode cX3_weighedOut 36 = .ok (.iload 4, 2) := by decide +kernel
theorem dX3_weighedOut_38 : decode cX3_weighedOut 38 = .ok (.aload_n 0, 1) := by decide +kernel
theorem dX3_weighedOut_39 : decode cX3_weighedOut 39 = .ok (.getfield 15, 3) := by decide +kernel
theorem dX3_weighedOut_42 : decode cX3_weighedOut 42 = .ok (.if_icmp .ge 214, 3) := by decide +kernel
theorem dX3_weighedOut_45 : decode cX3_weighedOut 45 = .ok (.aload_n 0, 1) := by decide +kernel
theorem dX3_weighedOut_46 : decode cX3_weighedOut 46 = .ok (.getfield 9, 3) := by decide +kernel
theorem dX3_weighedOut_49 : decode cX3_weighedOut 49 = .ok (.iload 4, 2) := by decide +kernel
theorem dX3_weighedOut_51 : decode cX3_weighedOut 51 = .ok (.iaload, 1) := by decide +kernel
theorem dX3_weighedOut_52 : decode cX3_weighedOut 52 = .ok (.istore 5, 2) := by decide +kernel
theorem dX3_weighedOut_54 : decode cX3_weighedOut 54 = .ok (.iload 5, 2) := by decide +kernel
theorem dX3_weighedOut_56 : decode cX3_weighedOut 56 = .ok (.bipush (-6), 2) := by decide +kernel
theorem dX3_weighedOut_58 : decode cX3_weighedOut 58 = .ok (.if_icmp .lt 42, 3) := by decide +kernel
theorem dX3_weighedOut_61 : decode cX3_weighedOut 61 = .ok (.iload_n 2, 1) := by decide +kernel
theorem dX3_weighedOut_62 : decode cX3_weighedOut 62 = .ok (.bipush 39, 2) := by decide +kernel
theorem dX3_weighedOut_64 : decode cX3_weighedOut 64 = .ok (.if_icmp .lt 5, 3) := by decide +kernel
theorem dX3_weighedOut_67 : decode cX3_weighedOut 67 = .ok (.iconst 0, 1) := by decide +kernel
theorem dX3_weighedOut_68 : decode cX3_weighedOut 68 = .ok (.ireturn, 1) := by decide +kernel
theorem dX3_weighedOut_69 : decode cX3_weighedOut 69 = .ok (.iinc 2 1, 3) := by decide +kernel
theorem dX3_weighedOut_72 : decode cX3_weighedOut 72 = .ok (.aload_n 0, 1) := by decide +kernel
theorem dX3_weighedOut_73 : decode cX3_weighedOut 73 = .ok (.getfield 22, 3) := by decide +kernel
theorem dX3_weighedOut_76 : decode cX3_weighedOut 76 = .ok (.iload_n 2, 1) := by decide +kernel
theorem dX3_weighedOut_77 : decode cX3_weighedOut 77 = .ok (.iload 5, 2) := by decide +kernel
theorem dX3_weighedOut_79 : decode cX3_weighedOut 79 = .ok (.ifCond .lt 8, 3) := by decide +kernel
theorem dX3_weighedOut_82 : decode cX3_weighedOut 82 = .ok (.iload 5, 2) := by decide +kernel
theorem dX3_weighedOut_84 : decode cX3_weighedOut 84 = .ok (.goto 12, 3) := by decide +kernel
theorem dX3_weighedOut_87 : decode cX3_weighedOut 87 = .ok (.aload_n 0, 1) := by decide +kernel
theorem dX3_weighedOut_88 : decode cX3_weighedOut 88 = .ok (.getfield 19, 3) := by decide +kernel
theorem dX3_weighedOut_91 : decode cX3_weighedOut 91 = .ok (.iconst (-1), 1) := by decide +kernel
theorem dX3_weighedOut_92 : decode cX3_weighedOut 92 = .ok (.iload 5, 2) := by decide +kernel
theorem dX3_weighedOut_94 : decode cX3_weighedOut 94 = .ok (.isub, 1) := by decide +kernel
theorem dX3_weighedOut_95 : decode cX3_weighedOut 95 = .ok (.iaload, 1) := by decide +kernel
theorem dX3_weighedOut_96 : decode cX3_weighedOut 96 = .ok (.iastore, 1) := by decide +kernel
theorem dX3_weighedOut_97 : decode cX3_weighedOut 97 = .ok (.goto 153, 3) := by decide +kernel
theorem dX3_weighedOut_100 : decode cX3_weighedOut 100 = .ok (.iload_n 2, 1) := by decide +kernel
theorem dX3_weighedOut_101 : decode cX3_weighedOut 101 = .ok (.ifCond .ge 5, 3) := by decide +kernel
theorem dX3_weighedOut_104 : decode cX3_weighedOut 104 = .ok (.iconst 0, 1) := by decide +kernel
theorem dX3_weighedOut_105 : decode cX3_weighedOut 105 = .ok (.ireturn, 1) := by decide +kernel
theorem dX3_weighedOut_106 : decode cX3_weighedOut 106 = .ok (.iload 5, 2) := by decide +kernel
theorem dX3_weighedOut_108 : decode cX3_weighedOut 108 = .ok (.bipush (-59), 2) := by decide +kernel
theorem dX3_weighedOut_110 : decode cX3_weighedOut 110 = .ok (.if_icmp .ne 25, 3) := by decide +kernel
theorem dX3_weighedOut_113 : decode cX3_weighedOut 113 = .ok (.iload_n 3, 1) := by decide +kernel
theorem dX3_weighedOut_114 : decode cX3_weighedOut 114 = .ok (.ifCond .eq 13, 3) := by decide +kernel
theorem dX3_weighedOut_117 : decode cX3_weighedOut 117 = .ok (.aload_n 0, 1) := by decide +kernel
theorem dX3_weighedOut_118 : decode cX3_weighedOut 118 = .ok (.getfield 22, 3) := by decide +kernel
theorem dX3_weighedOut_121 : decode cX3_weighedOut 121 = .ok (.iload_n 2, 1) := by decide +kernel
theorem dX3_weighedOut_122 : decode cX3_weighedOut 122 = .ok (.iaload, 1) := by decide +kernel
theorem dX3_weighedOut_123 : decode cX3_weighedOut 123 = .ok (.invokestatic 39, 3) := by decide +kernel
theorem dX3_weighedOut_126 : decode cX3_weighedOut 126 = .ok (.ireturn, 1) := by decide +kernel
theorem dX3_weighedOut_127 : decode cX3_weighedOut 127 = .ok (.iinc 2 (-1), 3) := by decide +kernel
theorem dX3_weighedOut_130 : decode cX3_weighedOut 130 = .ok (.iconst 1, 1) := by decide +kernel
theorem dX3_weighedOut_131 : decode cX3_weighedOut 131 = .ok (.istore_n 3, 1) := by decide +kernel
theorem dX3_weighedOut_132 : decode cX3_weighedOut 132 = .ok (.goto 118, 3) := by decide +kernel
theorem dX3_weighedOut_135 : decode cX3_weighedOut 135 = .ok (.iload 5, 2) := by decide +kernel
theorem dX3_weighedOut_137 : decode cX3_weighedOut 137 = .ok (.bipush (-63), 2) := by decide +kernel
theorem dX3_weighedOut_139 : decode cX3_weighedOut 139 = .ok (.if_icmp .ne 24, 3) := by decide +kernel
theorem dX3_weighedOut_142 : decode cX3_weighedOut 142 = .ok (.aload_n 0, 1) := by decide +kernel
theorem dX3_weighedOut_143 : decode cX3_weighedOut 143 = .ok (.getfield 22, 3) := by decide +kernel
theorem dX3_weighedOut_146 : decode cX3_weighedOut 146 = .ok (.iload_n 2, 1) := by decide +kernel
theorem dX3_weighedOut_147 : decode cX3_weighedOut 147 = .ok (.iaload, 1) := by decide +kernel
theorem dX3_weighedOut_148 : decode cX3_weighedOut 148 = .ok (.ifCond .eq 7, 3) := by decide +kernel
theorem dX3_weighedOut_151 : decode cX3_weighedOut 151 = .ok (.iconst 1, 1) := by decide +kernel
theorem dX3_weighedOut_152 : decode cX3_weighedOut 152 = .ok (.goto 4, 3) := by decide +kernel
theorem dX3_weighedOut_155 : decode cX3_weighedOut 155 = .ok (.iconst 0, 1) := by decide +kernel
theorem dX3_weighedOut_156 : decode cX3_weighedOut 156 = .ok (.istore_n 3, 1) := by decide +kernel
theorem dX3_weighedOut_157 : decode cX3_weighedOut 157 = .ok (.iinc 2 (-1), 3) := by decide +kernel
theorem dX3_weighedOut_160 : decode cX3_weighedOut 160 = .ok (.goto 90, 3) := by decide +kernel
theorem dX3_weighedOut_163 : decode cX3_weighedOut 163 = .ok (.iload 5, 2) := by decide +kernel
theorem dX3_weighedOut_165 : decode cX3_weighedOut 165 = .ok (.bipush (-126), 2) := by decide +kernel
theorem dX3_weighedOut_167 : decode cX3_weighedOut 167 = .ok (.if_icmp .ne 19, 3) := by decide +kernel
theorem dX3_weighedOut_170 : decode cX3_weighedOut 170 = .ok (.aload_n 0, 1) := by decide +kernel
theorem dX3_weighedOut_171 : decode cX3_weighedOut 171 = .ok (.getfield 22, 3) := by decide +kernel
theorem dX3_weighedOut_174 : decode cX3_weighedOut 174 = .ok (.iload_n 2, 1) := by decide +kernel
theorem dX3_weighedOut_175 : decode cX3_weighedOut 175 = .ok (.aload_n 0, 1) := by decide +kernel
theorem dX3_weighedOut_176 : decode cX3_weighedOut 176 = .ok (.getfield 22, 3) := by decide +kernel
theorem dX3_weighedOut_179 : decode cX3_weighedOut 179 = .ok (.iload_n 2, 1) := by decide +kernel
theorem dX3_weighedOut_180 : decode cX3_weighedOut 180 = .ok (.iaload, 1) := by decide +kernel
theorem dX3_weighedOut_181 : decode cX3_weighedOut 181 = .ok (.ineg, 1) := by decide +kernel
theorem dX3_weighedOut_182 : decode cX3_weighedOut 182 = .ok (.iastore, 1) := by decide +kernel
theorem dX3_weighedOut_183 : decode cX3_weighedOut 183 = .ok (.goto 67, 3) := by decide +kernel
theorem dX3_weighedOut_186 : decode cX3_weighedOut 186 = .ok (.iload 5, 2) := by decide +kernel
theorem dX3_weighedOut_188 : decode cX3_weighedOut 188 = .ok (.bipush (-33), 2) := by decide +kernel
theorem dX3_weighedOut_190 : decode cX3_weighedOut 190 = .ok (.if_icmp .ne 26, 3) := by decide +kernel
theorem dX3_weighedOut_193 : decode cX3_weighedOut 193 = .ok (.aload_n 0, 1) := by decide +kernel
theorem dX3_weighedOut_194 : decode cX3_weighedOut 194 = .ok (.getfield 22, 3) := by decide +kernel
theorem dX3_weighedOut_197 : decode cX3_weighedOut 197 = .ok (.iload_n 2, 1) := by decide +kernel
theorem dX3_weighedOut_198 : decode cX3_weighedOut 198 = .ok (.aload_n 0, 1) := by decide +kernel
theorem dX3_weighedOut_199 : decode cX3_weighedOut 199 = .ok (.getfield 22, 3) := by decide +kernel
theorem dX3_weighedOut_202 : decode cX3_weighedOut 202 = .ok (.iload_n 2, 1) := by decide +kernel
theorem dX3_weighedOut_203 : decode cX3_weighedOut 203 = .ok (.iaload, 1) := by decide +kernel
theorem dX3_weighedOut_204 : decode cX3_weighedOut 204 = .ok (.ifCond .ne 7, 3) := by decide +kernel
theorem dX3_weighedOut_207 : decode cX3_weighedOut 207 = .ok (.iconst 1, 1) := by decide +kernel
theorem dX3_weighedOut_208 : decode cX3_weighedOut 208 = .ok (.goto 4, 3) := by decide +kernel
theorem dX3_weighedOut_211 : decode cX3_weighedOut 211 = .ok (.iconst 0, 1) := by decide +kernel
theorem dX3_weighedOut_212 : decode cX3_weighedOut 212 = .ok (.iastore, 1) := by decide +kernel
theorem dX3_weighedOut_213 : decode cX3_weighedOut 213 = .ok (.goto 37, 3) := by decide +kernel
theorem dX3_weighedOut_216 : decode cX3_weighedOut 216 = .ok (.iload_n 2, 1) := by decide +kernel
theorem dX3_weighedOut_217 : decode cX3_weighedOut 217 = .ok (.iconst 1, 1) := by decide +kernel
theorem dX3_weighedOut_218 : decode cX3_weighedOut 218 = .ok (.if_icmp .lt 32, 3) := by decide +kernel
theorem dX3_weighedOut_221 : decode cX3_weighedOut 221 = .ok (.iinc 2 (-1), 3) := by decide +kernel
theorem dX3_weighedOut_224 : decode cX3_weighedOut 224 = .ok (.aload_n 0, 1) := by decide +kernel
theorem dX3_weighedOut_225 : decode cX3_weighedOut 225 = .ok (.getfield 22, 3) := by decide +kernel
theorem dX3_weighedOut_228 : decode cX3_weighedOut 228 = .ok (.iload_n 2, 1) := by decide +kernel
theorem dX3_weighedOut_229 : decode cX3_weighedOut 229 = .ok (.iload 5, 2) := by decide +kernel
theorem dX3_weighedOut_231 : decode cX3_weighedOut 231 = .ok (.ineg, 1) := by decide +kernel
theorem dX3_weighedOut_232 : decode cX3_weighedOut 232 = .ok (.aload_n 0, 1) := by decide +kernel
theorem dX3_weighedOut_233 : decode cX3_weighedOut 233 = .ok (.getfield 22, 3) := by decide +kernel
theorem dX3_weighedOut_236 : decode cX3_weighedOut 236 = .ok (.iload_n 2, 1) := by decide +kernel
theorem dX3_weighedOut_237 : decode cX3_weighedOut 237 = .ok (.iaload, 1) := by decide +kernel
theorem dX3_weighedOut_238 : decode cX3_weighedOut 238 = .ok (.aload_n 0, 1) := by decide +kernel
theorem dX3_weighedOut_239 : decode cX3_weighedOut 239 = .ok (.getfield 22, 3) := by decide +kernel
theorem dX3_weighedOut_242 : decode cX3_weighedOut 242 = .ok (.iload_n 2, 1) := by decide +kernel
theorem dX3_weighedOut_243 : decode cX3_weighedOut 243 = .ok (.iconst 1, 1) := by decide +kernel
theorem dX3_weighedOut_244 : decode cX3_weighedOut 244 = .ok (.iadd, 1) := by decide +kernel
theorem dX3_weighedOut_245 : decode cX3_weighedOut 245 = .ok (.iaload, 1) := by decide +kernel
theorem dX3_weighedOut_246 : decode cX3_weighedOut 246 = .ok (.invokestatic 43, 3) := by decide +kernel
theorem dX3_weighedOut_249 : decode cX3_weighedOut 249 = .ok (.iastore, 1) := by decide +kernel
theorem dX3_weighedOut_250 : decode cX3_weighedOut 250 = .ok (.iinc 4 1, 3) := by decide +kernel
theorem dX3_weighedOut_253 : decode cX3_weighedOut 253 = .ok (.goto (-217), 3) := by decide +kernel
theorem dX3_weighedOut_256 : decode cX3_weighedOut 256 = .ok (.iconst 0, 1) := by decide +kernel
theorem dX3_weighedOut_257 : decode cX3_weighedOut 257 = .ok (.ireturn, 1) := by decide +kernel
theorem dX3_held_0 : decode cX3_held 0 = .ok (.iload_n 0, 1) := by decide +kernel
theorem dX3_held_1 : decode cX3_held 1 = .ok (.ifCond .ge 7, 3) := by decide +kernel
theorem dX3_held_4 : decode cX3_held 4 = .ok (.iconst 0, 1) := by decide +kernel
theorem dX3_held_5 : decode cX3_held 5 = .ok (.goto 15, 3) := by decide +kernel
theorem dX3_held_8 : decode cX3_held 8 = .ok (.iload_n 0, 1) := by decide +kernel
theorem dX3_held_9 : decode cX3_held 9 = .ok (.bipush 50, 2) := by decide +kernel
theorem dX3_held_11 : decode cX3_held 11 = .ok (.if_icmp .le 8, 3) := by decide +kernel
theorem dX3_held_14 : decode cX3_held 14 = .ok (.bipush 50, 2) := by decide +kernel
theorem dX3_held_16 : decode cX3_held 16 = .ok (.goto 4, 3) := by decide +kernel
theorem dX3_held_19 : decode cX3_held 19 = .ok (.iload_n 0, 1) := by decide +kernel
theorem dX3_held_20 : decode cX3_held 20 = .ok (.ireturn, 1) := by decide +kernel
theorem dX3_joined_0 : decode cX3_joined 0 = .ok (.iload_n 0, 1) := by decide +kernel
theorem dX3_joined_1 : decode cX3_joined 1 = .ok (.lookupswitch 188 #[(37, 176), (38, 105), (42, 160), (43, 152), (45, 156), (47, 164), (60, 119), (61, 130), (62, 141), (124, 91)], 91) := by decide +kernel
theorem dX3_joined_92 : decode cX3_joined 92 = .ok (.iload_n 1, 1) := by decide +kernel
theorem dX3_joined_93 : decode cX3_joined 93 = .ok (.ifCond .ne 7, 3) := by decide +kernel
theorem dX3_joined_96 : decode cX3_joined 96 = .ok (.iload_n 2, 1) := by decide +kernel
theorem dX3_joined_97 : decode cX3_joined 97 = .ok (.ifCond .eq 7, 3) := by decide +kernel
theorem dX3_joined_100 : decode cX3_joined 100 = .ok (.iconst 1, 1) := by decide +kernel
theorem dX3_joined_101 : decode cX3_joined 101 = .ok (.goto 4, 3) := by decide +kernel
theorem dX3_joined_104 : decode cX3_joined 104 = .ok (.iconst 0, 1) := by decide +kernel
theorem dX3_joined_105 : decode cX3_joined 105 = .ok (.ireturn, 1) := by decide +kernel
theorem dX3_joined_106 : decode cX3_joined 106 = .ok (.iload_n 1, 1) := by decide +kernel
theorem dX3_joined_107 : decode cX3_joined 107 = .ok (.ifCond .eq 11, 3) := by decide +kernel
theorem dX3_joined_110 : decode cX3_joined 110 = .ok (.iload_n 2, 1) := by decide +kernel
theorem dX3_joined_111 : decode cX3_joined 111 = .ok (.ifCond .eq 7, 3) := by decide +kernel
theorem dX3_joined_114 : decode cX3_joined 114 = .ok (.iconst 1, 1) := by decide +kernel
theorem dX3_joined_115 : decode cX3_joined 115 = .ok (.goto 4, 3) := by decide +kernel
theorem dX3_joined_118 : decode cX3_joined 118 = .ok (.iconst 0, 1) := by decide +kernel
theorem dX3_joined_119 : decode cX3_joined 119 = .ok (.ireturn, 1) := by decide +kernel
theorem dX3_joined_120 : decode cX3_joined 120 = .ok (.iload_n 1, 1) := by decide +kernel
theorem dX3_joined_121 : decode cX3_joined 121 = .ok (.iload_n 2, 1) := by decide +kernel
theorem dX3_joined_122 : decode cX3_joined 122 = .ok (.if_icmp .ge 7, 3) := by decide +kernel
theorem dX3_joined_125 : decode cX3_joined 125 = .ok (.iconst 1, 1) := by decide +kernel
theorem dX3_joined_126 : decode cX3_joined 126 = .ok (.goto 4, 3) := by decide +kernel
theorem dX3_joined_129 : decode cX3_joined 129 = .ok (.iconst 0, 1) := by decide +kernel
theorem dX3_joined_130 : decode cX3_joined 130 = .ok (.ireturn, 1) := by decide +kernel
theorem dX3_joined_131 : decode cX3_joined 131 = .ok (.iload_n 1, 1) := by decide +kernel
theorem dX3_joined_132 : decode cX3_joined 132 = .ok (.iload_n 2, 1) := by decide +kernel
theorem dX3_joined_133 : decode cX3_joined 133 = .ok (.if_icmp .ne 7, 3) := by decide +kernel
theorem dX3_joined_136 : decode cX3_joined 136 = .ok (.iconst 1, 1) := by decide +kernel
theorem dX3_joined_137 : decode cX3_joined 137 = .ok (.goto 4, 3) := by decide +kernel
theorem dX3_joined_140 : decode cX3_joined 140 = .ok (.iconst 0, 1) := by decide +kernel
theorem dX3_joined_141 : decode cX3_joined 141 = .ok (.ireturn, 1) := by decide +kernel
theorem dX3_joined_142 : decode cX3_joined 142 = .ok (.iload_n 1, 1) := by decide +kernel
theorem dX3_joined_143 : decode cX3_joined 143 = .ok (.iload_n 2, 1) := by decide +kernel
theorem dX3_joined_144 : decode cX3_joined 144 = .ok (.if_icmp .le 7, 3) := by decide +kernel
theorem dX3_joined_147 : decode cX3_joined 147 = .ok (.iconst 1, 1) := by decide +kernel
theorem dX3_joined_148 : decode cX3_joined 148 = .ok (.goto 4, 3) := by decide +kernel
theorem dX3_joined_151 : decode cX3_joined 151 = .ok (.iconst 0, 1) := by decide +kernel
theorem dX3_joined_152 : decode cX3_joined 152 = .ok (.ireturn, 1) := by decide +kernel
theorem dX3_joined_153 : decode cX3_joined 153 = .ok (.iload_n 1, 1) := by decide +kernel
theorem dX3_joined_154 : decode cX3_joined 154 = .ok (.iload_n 2, 1) := by decide +kernel
theorem dX3_joined_155 : decode cX3_joined 155 = .ok (.iadd, 1) := by decide +kernel
theorem dX3_joined_156 : decode cX3_joined 156 = .ok (.ireturn, 1) := by decide +kernel
theorem dX3_joined_157 : decode cX3_joined 157 = .ok (.iload_n 1, 1) := by decide +kernel
theorem dX3_joined_158 : decode cX3_joined 158 = .ok (.iload_n 2, 1) := by decide +kernel
theorem dX3_joined_159 : decode cX3_joined 159 = .ok (.isub, 1) := by decide +kernel
theorem dX3_joined_160 : decode cX3_joined 160 = .ok (.ireturn, 1) := by decide +kernel
theorem dX3_joined_161 : decode cX3_joined 161 = .ok (.iload_n 1, 1) := by decide +kernel
theorem dX3_joined_162 : decode cX3_joined 162 = .ok (.iload_n 2, 1) := by decide +kernel
theorem dX3_joined_163 : decode cX3_joined 163 = .ok (.imul, 1) := by decide +kernel
theorem dX3_joined_164 : decode cX3_joined 164 = .ok (.ireturn, 1) := by decide +kernel
theorem dX3_joined_165 : decode cX3_joined 165 = .ok (.iload_n 2, 1) := by decide +kernel
theorem dX3_joined_166 : decode cX3_joined 166 = .ok (.ifCond .ne 7, 3) := by decide +kernel
theorem dX3_joined_169 : decode cX3_joined 169 = .ok (.iconst 0, 1) := by decide +kernel
theorem dX3_joined_170 : decode cX3_joined 170 = .ok (.goto 6, 3) := by decide +kernel
theorem dX3_joined_173 : decode cX3_joined 173 = .ok (.iload_n 1, 1) := by decide +kernel
theorem dX3_joined_174 : decode cX3_joined 174 = .ok (.iload_n 2, 1) := by decide +kernel
theorem dX3_joined_175 : decode cX3_joined 175 = .ok (.idiv, 1) := by decide +kernel
theorem dX3_joined_176 : decode cX3_joined 176 = .ok (.ireturn, 1) := by decide +kernel
theorem dX3_joined_177 : decode cX3_joined 177 = .ok (.iload_n 2, 1) := by decide +kernel
theorem dX3_joined_178 : decode cX3_joined 178 = .ok (.ifCond .ne 7, 3) := by decide +kernel
theorem dX3_joined_181 : decode cX3_joined 181 = .ok (.iconst 0, 1) := by decide +kernel
theorem dX3_joined_182 : decode cX3_joined 182 = .ok (.goto 6, 3) := by decide +kernel
theorem dX3_joined_185 : decode cX3_joined 185 = .ok (.iload_n 1, 1) := by decide +kernel
theorem dX3_joined_186 : decode cX3_joined 186 = .ok (.iload_n 2, 1) := by decide +kernel
theorem dX3_joined_187 : decode cX3_joined 187 = .ok (.irem, 1) := by decide +kernel
theorem dX3_joined_188 : decode cX3_joined 188 = .ok (.ireturn, 1) := by decide +kernel
theorem dX3_joined_189 : decode cX3_joined 189 = .ok (.iconst 0, 1) := by decide +kernel
theorem dX3_joined_190 : decode cX3_joined 190 = .ok (.ireturn, 1) := by decide +kernel
theorem dX4_init_0 : decode cX4_init 0 = .ok (.aload_n 0, 1) := by decide +kernel
theorem dX4_init_1 : decode cX4_init 1 = .ok (.invokespecial 5, 3) := by decide +kernel
theorem dX4_init_4 : decode cX4_init 4 = .ok (.aload_n 0, 1) := by decide +kernel
theorem dX4_init_5 : decode cX4_init 5 = .ok (.sipush 161, 3) := by decide +kernel
theorem dX4_init_8 : decode cX4_init 8 = .ok (.newarray .int, 2) := by decide +kernel
theorem dX4_init_10 : decode cX4_init 10 = .ok (.putfield 11, 3) := by decide +kernel
theorem dX4_init_13 : decode cX4_init 13 = .ok (.aload_n 0, 1) := by decide +kernel
theorem dX4_init_14 : decode cX4_init 14 = .ok (.iconst 0, 1) := by decide +kernel
theorem dX4_init_15 : decode cX4_init 15 = .ok (.putfield 15, 3) := by decide +kernel
theorem dX4_init_18 : decode cX4_init 18 = .ok (.aload_n 0, 1) := by decide +kernel
theorem dX4_init_19 : decode cX4_init 19 = .ok (.sipush 160, 3) := by decide +kernel
theorem dX4_init_22 : decode cX4_init 22 = .ok (.newarray .int, 2) := by decide +kernel
theorem dX4_init_24 : decode cX4_init 24 = .ok (.putfield 19, 3) := by decide +kernel
theorem dX4_init_27 : decode cX4_init 27 = .ok (.aload_n 0, 1) := by decide +kernel
theorem dX4_init_28 : decode cX4_init 28 = .ok (.iconst 0, 1) := by decide +kernel
theorem dX4_init_29 : decode cX4_init 29 = .ok (.putfield 22, 3) := by decide +kernel
theorem dX4_init_32 : decode cX4_init 32 = .ok (.aload_n 0, 1) := by decide +kernel
theorem dX4_init_33 : decode cX4_init 33 = .ok (.iconst 0, 1) := by decide +kernel
theorem dX4_init_34 : decode cX4_init 34 = .ok (.putfield 25, 3) := by decide +kernel
theorem dX4_init_37 : decode cX4_init 37 = .ok (.return_, 1) := by decide +kernel
theorem dX4_take_0 : decode cX4_take 0 = .ok (.aload_n 0, 1) := by decide +kernel
theorem dX4_take_1 : decode cX4_take 1 = .ok (.getfield 22, 3) := by decide +kernel
theorem dX4_take_4 : decode cX4_take 4 = .ok (.sipush 160, 3) := by decide +kernel
theorem dX4_take_7 : decode cX4_take 7 = .ok (.if_icmp .lt 6, 3) := by decide +kernel
theorem dX4_take_10 : decode cX4_take 10 = .ok (.bipush (-3), 2) := by decide +kernel
theorem dX4_take_12 : decode cX4_take 12 = .ok (.ireturn, 1) := by decide +kernel
theorem dX4_take_13 : decode cX4_take 13 = .ok (.aload_n 0, 1) := by decide +kernel
theorem dX4_take_14 : decode cX4_take 14 = .ok (.getfield 19, 3) := by decide +kernel
theorem dX4_take_17 : decode cX4_take 17 = .ok (.aload_n 0, 1) := by decide +kernel
theorem dX4_take_18 : decode cX4_take 18 = .ok (.getfield 22, 3) := by decide +kernel
theorem dX4_take_21 : decode cX4_take 21 = .ok (.iload_n 1, 1) := by decide +kernel
theorem dX4_take_22 : decode cX4_take 22 = .ok (.iastore, 1) := by decide +kernel
theorem dX4_take_23 : decode cX4_take 23 = .ok (.aload_n 0, 1) := by decide +kernel
theorem dX4_take_24 : decode cX4_take 24 = .ok (.dup, 1) := by decide +kernel
theorem dX4_take_25 : decode cX4_take 25 = .ok (.getfield 22, 3) := by decide +kernel
theorem dX4_take_28 : decode cX4_take 28 = .ok (.iconst 1, 1) := by decide +kernel
theorem dX4_take_29 : decode cX4_take 29 = .ok (.iadd, 1) := by decide +kernel
theorem dX4_take_30 : decode cX4_take 30 = .ok (.putfield 22, 3) := by decide +kernel
theorem dX4_take_33 : decode cX4_take 33 = .ok (.aload_n 0, 1) := by decide +kernel
theorem dX4_take_34 : decode cX4_take 34 = .ok (.getfield 22, 3) := by decide +kernel
theorem dX4_take_37 : decode cX4_take 37 = .ok (.ireturn, 1) := by decide +kernel
theorem dX4_length_0 : decode cX4_length 0 = .ok (.aload_n 0, 1) := by decide +kernel
theorem dX4_length_1 : decode cX4_length 1 = .ok (.getfield 22, 3) := by decide +kernel
theorem dX4_length_4 : decode cX4_length 4 = .ok (.ireturn, 1) := by decide +kernel
theorem dX4_clear_0 : decode cX4_clear 0 = .ok (.aload_n 0, 1) := by decide +kernel
theorem dX4_clear_1 : decode cX4_clear 1 = .ok (.iconst 0, 1) := by decide +kernel
theorem dX4_clear_2 : decode cX4_clear 2 = .ok (.putfield 22, 3) := by decide +kernel
theorem dX4_clear_5 : decode cX4_clear 5 = .ok (.return_, 1) := by decide +kernel
theorem dX4_read_0 : decode cX4_read 0 = .ok (.aload_n 0, 1) := by decide +kernel
theorem dX4_read_1 : decode cX4_read 1 = .ok (.iconst 0, 1) := by decide +kernel
theorem dX4_read_2 : decode cX4_read 2 = .ok (.putfield 25, 3) := by decide +kernel
theorem dX4_read_5 : decode cX4_read 5 = .ok (.aload_n 0, 1) := by decide +kernel
theorem dX4_read_6 : decode cX4_read 6 = .ok (.iconst 0, 1) := by decide +kernel
theorem dX4_read_7 : decode cX4_read 7 = .ok (.putfield 15, 3) := by decide +kernel
theorem dX4_read_10 : decode cX4_read 10 = .ok (.iconst 0, 1) := by decide +kernel
theorem dX4_read_11 : decode cX4_read 11 = .ok (.istore_n 1, 1) := by decide +kernel
theorem dX4_read_12 : decode cX4_read 12 = .ok (.iload_n 1, 1) := by decide +kernel
theorem dX4_read_13 : decode cX4_read 13 = .ok (.sipush 160, 3) := by decide +kernel
theorem dX4_read_16 : decode cX4_read 16 = .ok (.if_icmp .gt 57, 3) := by decide +kernel
theorem dX4_read_19 : decode cX4_read 19 = .ok (.aload_n 0, 1) := by decide +kernel
theorem dX4_read_20 : decode cX4_read 20 = .ok (.invokevirtual 28, 3) := by decide +kernel
theorem dX4_read_23 : decode cX4_read 23 = .ok (.ifCond .ne 8, 3) := by decide +kernel
theorem dX4_read_26 : decode cX4_read 26 = .ok (.aload_n 0, 1) := by decide +kernel
theorem dX4_read_27 : decode cX4_read 27 = .ok (.getfield 25, 3) := by decide +kernel
theorem dX4_read_30 : decode cX4_read 30 = .ok (.ireturn, 1) := by decide +kernel
theorem dX4_read_31 : decode cX4_read 31 = .ok (.aload_n 0, 1) := by decide +kernel
theorem dX4_read_32 : decode cX4_read 32 = .ok (.invokevirtual 32, 3) := by decide +kernel
theorem dX4_read_35 : decode cX4_read 35 = .ok (.bipush 59, 2) := by decide +kernel
theorem dX4_read_37 : decode cX4_read 37 = .ok (.if_icmp .eq 20, 3) := by decide +kernel
theorem dX4_read_40 : decode cX4_read 40 = .ok (.aload_n 0, 1) := by decide +kernel
theorem dX4_read_41 : decode cX4_read 41 = .ok (.invokevirtual 32, 3) := by decide +kernel
theorem dX4_read_44 : decode cX4_read 44 = .ok (.iconst (-1), 1) := by decide +kernel
theorem dX4_read_45 : decode cX4_read 45 = .ok (.if_icmp .ne 7, 3) := by decide +kernel
theorem dX4_read_48 : decode cX4_read 48 = .ok (.iconst (-1), 1) := by decide +kernel
theorem dX4_read_49 : decode cX4_read 49 = .ok (.goto 7, 3) := by decide +kernel
theorem dX4_read_52 : decode cX4_read 52 = .ok (.aload_n 0, 1) := by decide +kernel
theorem dX4_read_53 : decode cX4_read 53 = .ok (.getfield 25, 3) := by decide +kernel
theorem dX4_read_56 : decode cX4_read 56 = .ok (.ireturn, 1) := by decide +kernel
theorem dX4_read_57 : decode cX4_read 57 = .ok (.aload_n 0, 1) := by decide +kernel
theorem dX4_read_58 : decode cX4_read 58 = .ok (.dup, 1) := by decide +kernel
theorem dX4_read_59 : decode cX4_read 59 = .ok (.getfield 25, 3) := by decide +kernel
theorem dX4_read_62 : decode cX4_read 62 = .ok (.iconst 1, 1) := by decide +kernel
theorem dX4_read_63 : decode cX4_read 63 = .ok (.iadd, 1) := by decide +kernel
theorem dX4_read_64 : decode cX4_read 64 = .ok (.putfield 25, 3) := by decide +kernel
theorem dX4_read_67 : decode cX4_read 67 = .ok (.iinc 1 1, 3) := by decide +kernel
theorem dX4_read_70 : decode cX4_read 70 = .ok (.goto (-58), 3) := by decide +kernel
theorem dX4_read_73 : decode cX4_read 73 = .ok (.aload_n 0, 1) := by decide +kernel
theorem dX4_read_74 : decode cX4_read 74 = .ok (.getfield 25, 3) := by decide +kernel
theorem dX4_read_77 : decode cX4_read 77 = .ok (.ireturn, 1) := by decide +kernel
theorem dX4_readLine_0 : decode cX4_readLine 0 = .ok (.aload_n 0, 1) := by decide +kernel
theorem dX4_readLine_1 : decode cX4_readLine 1 = .ok (.iconst 0, 1) := by decide +kernel
theorem dX4_readLine_2 : decode cX4_readLine 2 = .ok (.iconst 0, 1) := by decide +kernel
theorem dX4_readLine_3 : decode cX4_readLine 3 = .ok (.invokevirtual 36, 3) := by decide +kernel
theorem dX4_readLine_6 : decode cX4_readLine 6 = .ok (.ifCond .ne 5, 3) := by decide +kernel
theorem dX4_readLine_9 : decode cX4_readLine 9 = .ok (.iconst 0, 1) := by decide +kernel
theorem dX4_readLine_10 : decode cX4_readLine 10 = .ok (.ireturn, 1) := by decide +kernel
theorem dX4_readLine_11 : decode cX4_readLine 11 = .ok (.aload_n 0, 1) := by decide +kernel
theorem dX4_readLine_12 : decode cX4_readLine 12 = .ok (.invokevirtual 32, 3) := by decide +kernel
theorem dX4_readLine_15 : decode cX4_readLine 15 = .ok (.bipush 63, 2) := by decide +kernel
theorem dX4_readLine_17 : decode cX4_readLine 17 = .ok (.if_icmp .ne 30, 3) := by decide +kernel
theorem dX4_readLine_20 : decode cX4_readLine 20 = .ok (.aload_n 0, 1) := by decide +kernel
theorem dX4_readLine_21 : decode cX4_readLine 21 = .ok (.dup, 1) := by decide +kernel
theorem dX4_readLine_22 : decode cX4_readLine 22 = .ok (.getfield 25, 3) := by decide +kernel
theorem dX4_readLine_25 : decode cX4_readLine 25 = .ok (.iconst 1, 1) := by decide +kernel
theorem dX4_readLine_26 : decode cX4_readLine 26 = .ok (.iadd, 1) := by decide +kernel
theorem dX4_readLine_27 : decode cX4_readLine 27 = .ok (.putfield 25, 3) := by decide +kernel
theorem dX4_readLine_30 : decode cX4_readLine 30 = .ok (.aload_n 0, 1) := by decide +kernel
theorem dX4_readLine_31 : decode cX4_readLine 31 = .ok (.bipush (-63), 2) := by decide +kernel
theorem dX4_readLine_33 : decode cX4_readLine 33 = .ok (.invokevirtual 40, 3) := by decide +kernel
theorem dX4_readLine_36 : decode cX4_readLine 36 = .ok (.aload_n 0, 1) := by decide +kernel
theorem dX4_readLine_37 : decode cX4_readLine 37 = .ok (.iconst 0, 1) := by decide +kernel
theorem dX4_readLine_38 : decode cX4_readLine 38 = .ok (.iconst 0, 1) := by decide +kernel
theorem dX4_readLine_39 : decode cX4_readLine 39 = .ok (.invokevirtual 36, 3) := by decide +kernel
theorem dX4_readLine_42 : decode cX4_readLine 42 = .ok (.ifCond .ne 5, 3) := by decide +kernel
theorem dX4_readLine_45 : decode cX4_readLine 45 = .ok (.iconst 0, 1) := by decide +kernel
theorem dX4_readLine_46 : decode cX4_readLine 46 = .ok (.ireturn, 1) := by decide +kernel
theorem dX4_readLine_47 : decode cX4_readLine 47 = .ok (.aload_n 0, 1) := by decide +kernel
theorem dX4_readLine_48 : decode cX4_readLine 48 = .ok (.bipush (-59), 2) := by decide +kernel
theorem dX4_readLine_50 : decode cX4_readLine 50 = .ok (.invokevirtual 40, 3) := by decide +kernel
theorem dX4_readLine_53 : decode cX4_readLine 53 = .ok (.iconst 1, 1) := by decide +kernel
theorem dX4_readLine_54 : decode cX4_readLine 54 = .ok (.ireturn, 1) := by decide +kernel
theorem dX4_readLevel_0 : decode cX4_readLevel 0 = .ok (.iload_n 1, 1) := by decide +kernel
theorem dX4_readLevel_1 : decode cX4_readLevel 1 = .ok (.iconst 5, 1) := by decide +kernel
theorem dX4_readLevel_2 : decode cX4_readLevel 2 = .ok (.if_icmp .lt 9, 3) := by decide +kernel
theorem dX4_readLevel_5 : decode cX4_readLevel 5 = .ok (.aload_n 0, 1) := by decide +kernel
theorem dX4_readLevel_6 : decode cX4_readLevel 6 = .ok (.iload_n 2, 1) := by decide +kernel
theorem dX4_readLevel_7 : decode cX4_readLevel 7 = .ok (.invokevirtual 44, 3) := by decide +kernel
theorem dX4_readLevel_10 : decode cX4_readLevel 10 = .ok (.ireturn, 1) := by decide +kernel
theorem dX4_readLevel_11 : decode cX4_readLevel 11 = .ok (.aload_n 0, 1) := by decide +kernel
theorem dX4_readLevel_12 : decode cX4_readLevel 12 = .ok (.iload_n 1, 1) := by decide +kernel
theorem dX4_readLevel_13 : decode cX4_readLevel 13 = .ok (.iconst 1, 1) := by decide +kernel
theorem dX4_readLevel_14 : decode cX4_readLevel 14 = .ok (.iadd, 1) := by decide +kernel
theorem dX4_readLevel_15 : decode cX4_readLevel 15 = .ok (.iload_n 2, 1) := by decide +kernel
theorem dX4_readLevel_16 : decode cX4_readLevel 16 = .ok (.invokevirtual 36, 3) := by decide +kernel
theorem dX4_readLevel_19 : decode cX4_readLevel 19 = .ok (.ifCond .ne 5, 3) := by decide +kernel
theorem dX4_readLevel_22 : decode cX4_readLevel 22 = .ok (.iconst 0, 1) := by decide +kernel
theorem dX4_readLevel_23 : decode cX4_readLevel 23 = .ok (.ireturn, 1) := by decide +kernel
theorem dX4_readLevel_24 : decode cX4_readLevel 24 = .ok (.iload_n 1, 1) := by decide +kernel
theorem dX4_readLevel_25 : decode cX4_readLevel 25 = .ok (.iconst 2, 1) := by decide +kernel
theorem dX4_readLevel_26 : decode cX4_readLevel 26 = .ok (.if_icmp .ne 7, 3) := by decide +kernel
theorem dX4_readLevel_29 : decode cX4_readLevel 29 = .ok (.iconst 1, 1) := by decide +kernel
theorem dX4_readLevel_30 : decode cX4_readLevel 30 = .ok (.goto 6, 3) := by decide +kernel
theorem dX4_readLevel_33 : decode cX4_readLevel 33 = .ok (.sipush 160, 3) := by decide +kernel
theorem dX4_readLevel_36 : decode cX4_readLevel 36 = .ok (.istore_n 3, 1) := by decide +kernel
theorem dX4_readLevel_37 : decode cX4_readLevel 37 = .ok (.iconst 0, 1) := by decide +kernel
theorem dX4_readLevel_38 : decode cX4_readLevel 38 = .ok (.istore 4, 2) := by decide +kernel
theorem dX4_readLevel_40 : decode cX4_readLevel 40 = .ok (.iload 4, 2) := by decide +kernel
theorem dX4_readLevel_42 : decode cX4_readLevel 42 = .ok (.iload_n 3, 1) := by decide +kernel
theorem dX4_readLevel_43 : decode cX4_readLevel 43 = .ok (.if_icmp .ge 56, 3) := by decide +kernel
theorem dX4_readLevel_46 : decode cX4_readLevel 46 = .ok (.aload_n 0, 1) := by decide +kernel
theorem dX4_readLevel_47 : decode cX4_readLevel 47 = .ok (.invokevirtual 32, 3) := by decide +kernel
theorem dX4_readLevel_50 : decode cX4_readLevel 50 = .ok (.invokestatic 48, 3) := by decide +kernel
theorem dX4_readLevel_53 : decode cX4_readLevel 53 = .ok (.iload_n 1, 1) := by decide +kernel
theorem dX4_readLevel_54 : decode cX4_readLevel 54 = .ok (.if_icmp .ne 45, 3) := by decide +kernel
theorem dX4_readLevel_57 : decode cX4_readLevel 57 = .ok (.aload_n 0, 1) := by decide +kernel
theorem dX4_readLevel_58 : decode cX4_readLevel 58 = .ok (.invokevirtual 32, 3) := by decide +kernel
theorem dX4_readLevel_61 : decode cX4_readLevel 61 = .ok (.istore 5, 2) := by decide +kernel
theorem dX4_readLevel_63 : decode cX4_readLevel 63 = .ok (.aload_n 0, 1) := by decide +kernel
theorem dX4_readLevel_64 : decode cX4_readLevel 64 = .ok (.dup, 1) := by decide +kernel
theorem dX4_readLevel_65 : decode cX4_readLevel 65 = .ok (.getfield 25, 3) := by decide +kernel
theorem dX4_readLevel_68 : decode cX4_readLevel 68 = .ok (.iconst 1, 1) := by decide +kernel
theorem dX4_readLevel_69 : decode cX4_readLevel 69 = .ok (.iadd, 1) := by decide +kernel
theorem dX4_readLevel_70 : decode cX4_readLevel 70 = .ok (.putfield 25, 3) := by decide +kernel
theorem dX4_readLevel_73 : decode cX4_readLevel 73 = .ok (.aload_n 0, 1) := by decide +kernel
theorem dX4_readLevel_74 : decode cX4_readLevel 74 = .ok (.iload_n 1, 1) := by decide +kernel
theorem dX4_readLevel_75 : decode cX4_readLevel 75 = .ok (.iconst 1, 1) := by decide +kernel
theorem dX4_readLevel_76 : decode cX4_readLevel 76 = .ok (.iadd, 1) := by decide +kernel
theorem dX4_readLevel_77 : decode cX4_readLevel 77 = .ok (.iload_n 2, 1) := by decide +kernel
theorem dX4_readLevel_78 : decode cX4_readLevel 78 = .ok (.invokevirtual 36, 3) := by decide +kernel
theorem dX4_readLevel_81 : decode cX4_readLevel 81 = .ok (.ifCond .ne 5, 3) := by decide +kernel
theorem dX4_readLevel_84 : decode cX4_readLevel 84 = .ok (.iconst 0, 1) := by decide +kernel
theorem dX4_readLevel_85 : decode cX4_readLevel 85 = .ok (.ireturn, 1) := by decide +kernel
theorem dX4_readLevel_86 : decode cX4_readLevel 86 = .ok (.aload_n 0, 1) := by decide +kernel
theorem dX4_readLevel_87 : decode cX4_readLevel 87 = .ok (.iload 5, 2) := by decide +kernel
theorem dX4_readLevel_89 : decode cX4_readLevel 89 = .ok (.ineg, 1) := by decide +kernel
theorem dX4_readLevel_90 : decode cX4_readLevel 90 = .ok (.invokevirtual 40, 3) := by decide +kernel
theorem dX4_readLevel_93 : decode cX4_readLevel 93 = .ok (.iinc 4 1, 3) := by decide +kernel
theorem dX4_readLevel_96 : decode cX4_readLevel 96 = .ok (.goto (-56), 3) := by decide +kernel
theorem dX4_readLevel_99 : decode cX4_readLevel 99 = .ok (.iconst 1, 1) := by decide +kernel
theorem dX4_readLevel_100 : decode cX4_readLevel 100 = .ok (.ireturn, 1) := by decide +kernel
theorem dX4_levelOf_0 : decode cX4_levelOf 0 = .ok (.iload_n 0, 1) := by decide +kernel
theorem dX4_levelOf_1 : decode cX4_levelOf 1 = .ok (.lookupswitch 101 #[(37, 99), (38, 93), (42, 99), (43, 97), (45, 97), (47, 99), (60, 95), (61, 95), (62, 95), (124, 91)], 91) := by decide +kernel
theorem dX4_levelOf_92 : decode cX4_levelOf 92 = .ok (.iconst 0, 1) := by decide +kernel
theorem dX4_levelOf_93 : decode cX4_levelOf 93 = .ok (.ireturn, 1) := by decide +kernel
theorem dX4_levelOf_94 : decode cX4_levelOf 94 = .ok (.iconst 1, 1) := by decide +kernel
theorem dX4_levelOf_95 : decode cX4_levelOf 95 = .ok (.ireturn, 1) := by decide +kernel
theorem dX4_levelOf_96 : decode cX4_levelOf 96 = .ok (.iconst 2, 1) := by decide +kernel
theorem dX4_levelOf_97 : decode cX4_levelOf 97 = .ok (.ireturn, 1) := by decide +kernel
theorem dX4_levelOf_98 : decode cX4_levelOf 98 = .ok (.iconst 3, 1) := by decide +kernel
theorem dX4_levelOf_99 : decode cX4_levelOf 99 = .ok (.ireturn, 1) := by decide +kernel
theorem dX4_levelOf_100 : decode cX4_levelOf 100 = .ok (.iconst 4, 1) := by decide +kernel
theorem dX4_levelOf_101 : decode cX4_levelOf 101 = .ok (.ireturn, 1) := by decide +kernel
theorem dX4_levelOf_102 : decode cX4_levelOf 102 = .ok (.iconst 5, 1) := by decide +kernel
theorem dX4_levelOf_103 : decode cX4_levelOf 103 = .ok (.ireturn, 1) := by decide +kernel
theorem dX4_readOperand_0 : decode cX4_readOperand 0 = .ok (.aload_n 0, 1) := by decide +kernel
theorem dX4_readOperand_1 : decode cX4_readOperand 1 = .ok (.invokevirtual 32, 3) := by decide +kernel
theorem dX4_readOperand_4 : decode cX4_readOperand 4 = .ok (.istore_n 2, 1) := by decide +kernel
theorem dX4_readOperand_5 : decode cX4_readOperand 5 = .ok (.iload_n 2, 1) := by decide +kernel
theorem dX4_readOperand_6 : decode cX4_readOperand 6 = .ok (.bipush 40, 2) := by decide +kernel
theorem dX4_readOperand_8 : decode cX4_readOperand 8 = .ok (.if_icmp .eq 15, 3) := by decide +kernel
theorem dX4_readOperand_11 : decode cX4_readOperand 11 = .ok (.iload_n 2, 1) := by decide +kernel
theorem dX4_readOperand_12 : decode cX4_readOperand 12 = .ok (.bipush 33, 2) := by decide +kernel
theorem dX4_readOperand_14 : decode cX4_readOperand 14 = .ok (.if_icmp .eq 9, 3) := by decide +kernel
theorem dX4_readOperand_17 : decode cX4_readOperand 17 = .ok (.iload_n 2, 1) := by decide +kernel
theorem dX4_readOperand_18 : decode cX4_readOperand 18 = .ok (.bipush 45, 2) := by decide +kernel
theorem dX4_readOperand_20 : decode cX4_readOperand 20 = .ok (.if_icmp .ne 26, 3) := by decide +kernel
theorem dX4_readOperand_23 : decode cX4_readOperand 23 = .ok (.iload_n 1, 1) := by decide +kernel
theorem dX4_readOperand_24 : decode cX4_readOperand 24 = .ok (.bipush 6, 2) := by decide +kernel
theorem dX4_readOperand_26 : decode cX4_readOperand 26 = .ok (.if_icmp .ge 18, 3) := by decide +kernel
theorem dX4_readOperand_29 : decode cX4_readOperand 29 = .ok (.aload_n 0, 1) := by decide +kernel
theorem dX4_readOperand_30 : decode cX4_readOperand 30 = .ok (.iload_n 2, 1) := by decide +kernel
theorem dX4_readOperand_31 : decode cX4_readOperand 31 = .ok (.iload_n 1, 1) := by decide +kernel
theorem dX4_readOperand_32 : decode cX4_readOperand 32 = .ok (.iconst 1, 1) := by decide +kernel
theorem dX4_readOperand_33 : decode cX4_readOperand 33 = .ok (.iadd, 1) := by decide +kernel
theorem dX4_readOperand_34 : decode cX4_readOperand 34 = .ok (.invokevirtual 52, 3) := by decide +kernel
theorem dX4_readOperand_37 : decode cX4_readOperand 37 = .ok (.ifCond .eq 7, 3) := by decide +kernel
theorem dX4_readOperand_40 : decode cX4_readOperand 40 = .ok (.iconst 1, 1) := by decide +kernel
theorem dX4_readOperand_41 : decode cX4_readOperand 41 = .ok (.goto 4, 3) := by decide +kernel
theorem dX4_readOperand_44 : decode cX4_readOperand 44 = .ok (.iconst 0, 1) := by decide +kernel
theorem dX4_readOperand_45 : decode cX4_readOperand 45 = .ok (.ireturn, 1) := by decide +kernel
theorem dX4_readOperand_46 : decode cX4_readOperand 46 = .ok (.iload_n 2, 1) := by decide +kernel
theorem dX4_readOperand_47 : decode cX4_readOperand 47 = .ok (.invokestatic 55, 3) := by decide +kernel
theorem dX4_readOperand_50 : decode cX4_readOperand 50 = .ok (.ifCond .eq 9, 3) := by decide +kernel
theorem dX4_readOperand_53 : decode cX4_readOperand 53 = .ok (.aload_n 0, 1) := by decide +kernel
theorem dX4_readOperand_54 : decode cX4_readOperand 54 = .ok (.invokevirtual 58, 3) := by decide +kernel
theorem dX4_readOperand_57 : decode cX4_readOperand 57 = .ok (.iconst 1, 1) := by decide +kernel
theorem dX4_readOperand_58 : decode cX4_readOperand 58 = .ok (.ireturn, 1) := by decide +kernel
theorem dX4_readOperand_59 : decode cX4_readOperand 59 = .ok (.aload_n 0, 1) := by decide +kernel
theorem dX4_readOperand_60 : decode cX4_readOperand 60 = .ok (.invokevirtual 61, 3) := by decide +kernel
theorem dX4_readOperand_63 : decode cX4_readOperand 63 = .ok (.ireturn, 1) := by decide +kernel
theorem dX4_readOpened_0 : decode cX4_readOpened 0 = .ok (.aload_n 0, 1) := by decide +kernel
theorem dX4_readOpened_1 : decode cX4_readOpened 1 = .ok (.dup, 1) := by decide +kernel
theorem dX4_readOpened_2 : decode cX4_readOpened 2 = .ok (.getfield 25, 3) := by decide +kernel
theorem dX4_readOpened_5 : decode cX4_readOpened 5 = .ok (.iconst 1, 1) := by decide +kernel
theorem dX4_readOpened_6 : decode cX4_readOpened 6 = .ok (.iadd, 1) := by decide +kernel
theorem dX4_readOpened_7 : decode cX4_readOpened 7 = .ok (.putfield 25, 3) := by decide +kernel
theorem dX4_readOpened_10 : decode cX4_readOpened 10 = .ok (.iload_n 1, 1) := by decide +kernel
theorem dX4_readOpened_11 : decode cX4_readOpened 11 = .ok (.bipush 40, 2) := by decide +kernel
theorem dX4_readOpened_13 : decode cX4_readOpened 13 = .ok (.if_icmp .ne 35, 3) := by decide +kernel
theorem dX4_readOpened_16 : decode cX4_readOpened 16 = .ok (.aload_n 0, 1) := by decide +kernel
theorem dX4_readOpened_17 : decode cX4_readOpened 17 = .ok (.iconst 0, 1) := by decide +kernel
theorem dX4_readOpened_18 : decode cX4_readOpened 18 = .ok (.iload_n 2, 1) := by decide +kernel
theorem dX4_readOpened_19 : decode cX4_readOpened 19 = .ok (.invokevirtual 36, 3) := by decide +kernel
theorem dX4_readOpened_22 : decode cX4_readOpened 22 = .ok (.ifCond .eq 12, 3) := by decide +kernel
theorem dX4_readOpened_25 : decode cX4_readOpened 25 = .ok (.aload_n 0, 1) := by decide +kernel
theorem dX4_readOpened_26 : decode cX4_readOpened 26 = .ok (.invokevirtual 32, 3) := by decide +kernel
theorem dX4_readOpened_29 : decode cX4_readOpened 29 = .ok (.bipush 41, 2) := by decide +kernel
theorem dX4_readOpened_31 : decode cX4_readOpened 31 = .ok (.if_icmp .eq 5, 3) := by decide +kernel
theorem dX4_readOpened_34 : decode cX4_readOpened 34 = .ok (.iconst 0, 1) := by decide +kernel
theorem dX4_readOpened_35 : decode cX4_readOpened 35 = .ok (.ireturn, 1) := by decide +kernel
theorem dX4_readOpened_36 : decode cX4_readOpened 36 = .ok (.aload_n 0, 1) := by decide +kernel
theorem dX4_readOpened_37 : decode cX4_readOpened 37 = .ok (.dup, 1) := by decide +kernel
theorem dX4_readOpened_38 : decode cX4_readOpened 38 = .ok (.getfield 25, 3) := by decide +kernel
theorem dX4_readOpened_41 : decode cX4_readOpened 41 = .ok (.iconst 1, 1) := by decide +kernel
theorem dX4_readOpened_42 : decode cX4_readOpened 42 = .ok (.iadd, 1) := by decide +kernel
theorem dX4_readOpened_43 : decode cX4_readOpened 43 = .ok (.putfield 25, 3) := by decide +kernel
theorem dX4_readOpened_46 : decode cX4_readOpened 46 = .ok (.iconst 1, 1) := by decide +kernel
theorem dX4_readOpened_47 : decode cX4_readOpened 47 = .ok (.ireturn, 1) := by decide +kernel
theorem dX4_readOpened_48 : decode cX4_readOpened 48 = .ok (.aload_n 0, 1) := by decide +kernel
theorem dX4_readOpened_49 : decode cX4_readOpened 49 = .ok (.iload_n 2, 1) := by decide +kernel
theorem dX4_readOpened_50 : decode cX4_readOpened 50 = .ok (.invokevirtual 44, 3) := by decide +kernel
theorem dX4_readOpened_53 : decode cX4_readOpened 53 = .ok (.ifCond .ne 5, 3) := by decide +kernel
theorem dX4_readOpened_56 : decode cX4_readOpened 56 = .ok (.iconst 0, 1) := by decide +kernel
theorem dX4_readOpened_57 : decode cX4_readOpened 57 = .ok (.ireturn, 1) := by decide +kernel
theorem dX4_readOpened_58 : decode cX4_readOpened 58 = .ok (.aload_n 0, 1) := by decide +kernel
theorem dX4_readOpened_59 : decode cX4_readOpened 59 = .ok (.iload_n 1, 1) := by decide +kernel
theorem dX4_readOpened_60 : decode cX4_readOpened 60 = .ok (.bipush 33, 2) := by decide +kernel
theorem dX4_readOpened_62 : decode cX4_readOpened 62 = .ok (.if_icmp .ne 8, 3) := by decide +kernel
theorem dX4_readOpened_65 : decode cX4_readOpened 65 = .ok (.bipush (-33), 2) := by decide +kernel
theorem dX4_readOpened_67 : decode cX4_readOpened 67 = .ok (.goto 5, 3) := by decide +kernel
theorem dX4_readOpened_70 : decode cX4_readOpened 70 = .ok (.bipush (-126), 2) := by decide +kernel
theorem dX4_readOpened_72 : decode cX4_readOpened 72 = .ok (.invokevirtual 40, 3) := by decide +kernel
theorem dX4_readOpened_75 : decode cX4_readOpened 75 = .ok (.iconst 1, 1) := by decide +kernel
theorem dX4_readOpened_76 : decode cX4_readOpened 76 = .ok (.ireturn, 1) := by decide +kernel
theorem dX4_readNumber_0 : decode cX4_readNumber 0 = .ok (.iconst 0, 1) := by decide +kernel
theorem dX4_readNumber_1 : decode cX4_readNumber 1 = .ok (.istore_n 1, 1) := by decide +kernel
theorem dX4_readNumber_2 : decode cX4_readNumber 2 = .ok (.iconst 0, 1) := by decide +kernel
theorem dX4_readNumber_3 : decode cX4_readNumber 3 = .ok (.istore_n 2, 1) := by decide +kernel
theorem dX4_readNumber_4 : decode cX4_readNumber 4 = .ok (.iload_n 2, 1) := by decide +kernel
theorem dX4_readNumber_5 : decode cX4_readNumber 5 = .ok (.iconst 4, 1) := by decide +kernel
theorem dX4_readNumber_6 : decode cX4_readNumber 6 = .ok (.if_icmp .ge 42, 3) := by decide +kernel
theorem dX4_readNumber_9 : decode cX4_readNumber 9 = .ok (.aload_n 0, 1) := by decide +kernel
theorem dX4_readNumber_10 : decode cX4_readNumber 10 = .ok (.invokevirtual 32, 3) := by decide +kernel
theorem dX4_readNumber_13 : decode cX4_readNumber 13 = .ok (.invokestatic 55, 3) := by decide +kernel
theorem dX4_readNumber_16 : decode cX4_readNumber 16 = .ok (.ifCond .eq 32, 3) := by decide +kernel
theorem dX4_readNumber_19 : decode cX4_readNumber 19 = .ok (.iload_n 1, 1) := by decide +kernel
theorem dX4_readNumber_20 : decode cX4_readNumber 20 = .ok (.bipush 10, 2) := by decide +kernel
theorem dX4_readNumber_22 : decode cX4_readNumber 22 = .ok (.imul, 1) := by decide +kernel
theorem dX4_readNumber_23 : decode cX4_readNumber 23 = .ok (.aload_n 0, 1) := by decide +kernel
theorem dX4_readNumber_24 : decode cX4_readNumber 24 = .ok (.invokevirtual 32, 3) := by decide +kernel
theorem dX4_readNumber_27 : decode cX4_readNumber 27 = .ok (.iadd, 1) := by decide +kernel
theorem dX4_readNumber_28 : decode cX4_readNumber 28 = .ok (.bipush 48, 2) := by decide +kernel
theorem dX4_readNumber_30 : decode cX4_readNumber 30 = .ok (.isub, 1) := by decide +kernel
theorem dX4_readNumber_31 : decode cX4_readNumber 31 = .ok (.istore_n 1, 1) := by decide +kernel
theorem dX4_readNumber_32 : decode cX4_readNumber 32 = .ok (.aload_n 0, 1) := by decide +kernel
theorem dX4_readNumber_33 : decode cX4_readNumber 33 = .ok (.dup, 1) := by decide +kernel
theorem dX4_readNumber_34 : decode cX4_readNumber 34 = .ok (.getfield 25, 3) := by decide +kernel
theorem dX4_readNumber_37 : decode cX4_readNumber 37 = .ok (.iconst 1, 1) := by decide +kernel
theorem dX4_readNumber_38 : decode cX4_readNumber 38 = .ok (.iadd, 1) := by decide +kernel
theorem dX4_readNumber_39 : decode cX4_readNumber 39 = .ok (.putfield 25, 3) := by decide +kernel
theorem dX4_readNumber_42 : decode cX4_readNumber 42 = .ok (.iinc 2 1, 3) := by decide +kernel
theorem dX4_readNumber_45 : decode cX4_readNumber 45 = .ok (.goto (-41), 3) := by decide +kernel
theorem dX4_readNumber_48 : decode cX4_readNumber 48 = .ok (.aload_n 0, 1) := by decide +kernel
theorem dX4_readNumber_49 : decode cX4_readNumber 49 = .ok (.iload_n 1, 1) := by decide +kernel
theorem dX4_readNumber_50 : decode cX4_readNumber 50 = .ok (.invokevirtual 40, 3) := by decide +kernel
theorem dX4_readNumber_53 : decode cX4_readNumber 53 = .ok (.return_, 1) := by decide +kernel
theorem dX4_readWord_0 : decode cX4_readWord 0 = .ok (.aload_n 0, 1) := by decide +kernel
theorem dX4_readWord_1 : decode cX4_readWord 1 = .ok (.getfield 25, 3) := by decide +kernel
theorem dX4_readWord_4 : decode cX4_readWord 4 = .ok (.istore_n 1, 1) := by decide +kernel
theorem dX4_readWord_5 : decode cX4_readWord 5 = .ok (.iload_n 1, 1) := by decide +kernel
theorem dX4_readWord_6 : decode cX4_readWord 6 = .ok (.aload_n 0, 1) := by decide +kernel
theorem dX4_readWord_7 : decode cX4_readWord 7 = .ok (.getfield 22, 3) := by decide +kernel
theorem dX4_readWord_10 : decode cX4_readWord 10 = .ok (.if_icmp .ge 38, 3) := by decide +kernel
theorem dX4_readWord_13 : decode cX4_readWord 13 = .ok (.iload_n 1, 1) := by decide +kernel
theorem dX4_readWord_14 : decode cX4_readWord 14 = .ok (.sipush 160, 3) := by decide +kernel
theorem dX4_readWord_17 : decode cX4_readWord 17 = .ok (.if_icmp .ge 31, 3) := by decide +kernel
theorem dX4_readWord_20 : decode cX4_readWord 20 = .ok (.aload_n 0, 1) := by decide +kernel
theorem dX4_readWord_21 : decode cX4_readWord 21 = .ok (.getfield 19, 3) := by decide +kernel
theorem dX4_readWord_24 : decode cX4_readWord 24 = .ok (.iload_n 1, 1) := by decide +kernel
theorem dX4_readWord_25 : decode cX4_readWord 25 = .ok (.iaload, 1) := by decide +kernel
theorem dX4_readWord_26 : decode cX4_readWord 26 = .ok (.bipush 97, 2) := by decide +kernel
theorem dX4_readWord_28 : decode cX4_readWord 28 = .ok (.if_icmp .lt 20, 3) := by decide +kernel
theorem dX4_readWord_31 : decode cX4_readWord 31 = .ok (.aload_n 0, 1) := by decide +kernel
theorem dX4_readWord_32 : decode cX4_readWord 32 = .ok (.getfield 19, 3) := by decide +kernel
theorem dX4_readWord_35 : decode cX4_readWord 35 = .ok (.iload_n 1, 1) := by decide +kernel
theorem dX4_readWord_36 : decode cX4_readWord 36 = .ok (.iaload, 1) := by decide +kernel
theorem dX4_readWord_37 : decode cX4_readWord 37 = .ok (.bipush 122, 2) := by decide +kernel
theorem dX4_readWord_39 : decode cX4_readWord 39 = .ok (.if_icmp .gt 9, 3) := by decide +kernel
theorem dX4_readWord_42 : decode cX4_readWord 42 = .ok (.iinc 1 1, 3) := by decide +kernel
theorem dX4_readWord_45 : decode cX4_readWord 45 = .ok (.goto (-40), 3) := by decide +kernel
theorem dX4_readWord_48 : decode cX4_readWord 48 = .ok (.iconst 0, 1) := by decide +kernel
theorem dX4_readWord_49 : decode cX4_readWord 49 = .ok (.istore_n 2, 1) := by decide +kernel
theorem dX4_readWord_50 : decode cX4_readWord 50 = .ok (.iload_n 2, 1) := by decide +kernel
theorem dX4_readWord_51 : decode cX4_readWord 51 = .ok (.bipush 6, 2) := by decide +kernel
theorem dX4_readWord_53 : decode cX4_readWord 53 = .ok (.if_icmp .ge 35, 3) := by decide +kernel
theorem dX4_readWord_56 : decode cX4_readWord 56 = .ok (.aload_n 0, 1) := by decide +kernel
theorem dX4_readWord_57 : decode cX4_readWord 57 = .ok (.iload_n 2, 1) := by decide +kernel
theorem dX4_readWord_58 : decode cX4_readWord 58 = .ok (.invokestatic 64, 3) := by decide +kernel
theorem dX4_readWord_61 : decode cX4_readWord 61 = .ok (.iload_n 1, 1) := by decide +kernel
theorem dX4_readWord_62 : decode cX4_readWord 62 = .ok (.invokevirtual 68, 3) := by decide +kernel
theorem dX4_readWord_65 : decode cX4_readWord 65 = .ok (.ifCond .eq 17, 3) := by decide +kernel
theorem dX4_readWord_68 : decode cX4_readWord 68 = .ok (.aload_n 0, 1) := by decide +kernel
theorem dX4_readWord_69 : decode cX4_readWord 69 = .ok (.iload_n 1, 1) := by decide +kernel
theorem dX4_readWord_70 : decode cX4_readWord 70 = .ok (.putfield 25, 3) := by decide +kernel
theorem dX4_readWord_73 : decode cX4_readWord 73 = .ok (.aload_n 0, 1) := by decide +kernel
theorem dX4_readWord_74 : decode cX4_readWord 74 = .ok (.iconst (-1), 1) := by decide +kernel
theorem dX4_readWord_75 : decode cX4_readWord 75 = .ok (.iload_n 2, 1) := by decide +kernel
theorem dX4_readWord_76 : decode cX4_readWord 76 = .ok (.isub, 1) := by decide +kernel
theorem dX4_readWord_77 : decode cX4_readWord 77 = .ok (.invokevirtual 40, 3) := by decide +kernel
theorem dX4_readWord_80 : decode cX4_readWord 80 = .ok (.iconst 1, 1) := by decide +kernel
theorem dX4_readWord_81 : decode cX4_readWord 81 = .ok (.ireturn, 1) := by decide +kernel
theorem dX4_readWord_82 : decode cX4_readWord 82 = .ok (.iinc 2 1, 3) := by decide +kernel
theorem dX4_readWord_85 : decode cX4_readWord 85 = .ok (.goto (-35), 3) := by decide +kernel
theorem dX4_readWord_88 : decode cX4_readWord 88 = .ok (.iconst 0, 1) := by decide +kernel
theorem dX4_readWord_89 : decode cX4_readWord 89 = .ok (.ireturn, 1) := by decide +kernel
theorem dX4_isWord_0 : decode cX4_isWord 0 = .ok (.iload_n 2, 1) := by decide +kernel
theorem dX4_isWord_1 : decode cX4_isWord 1 = .ok (.aload_n 0, 1) := by decide +kernel
theorem dX4_isWord_2 : decode cX4_isWord 2 = .ok (.getfield 25, 3) := by decide +kernel
theorem dX4_isWord_5 : decode cX4_isWord 5 = .ok (.isub, 1) := by decide +kernel
theorem dX4_isWord_6 : decode cX4_isWord 6 = .ok (.aload_n 1, 1) := by decide +kernel
theorem dX4_isWord_7 : decode cX4_isWord 7 = .ok (.invokevirtual 72, 3) := by decide +kernel
theorem dX4_isWord_10 : decode cX4_isWord 10 = .ok (.if_icmp .eq 5, 3) := by decide +kernel
theorem dX4_isWord_13 : decode cX4_isWord 13 = .ok (.iconst 0, 1) := by decide +kernel
theorem dX4_isWord_14 : decode cX4_isWord 14 = .ok (.ireturn, 1) := by decide +kernel
theorem dX4_isWord_15 : decode cX4_isWord 15 = .ok (.iconst 0, 1) := by decide +kernel
theorem dX4_isWord_16 : decode cX4_isWord 16 = .ok (.istore_n 3, 1) := by decide +kernel
theorem dX4_isWord_17 : decode cX4_isWord 17 = .ok (.iload_n 3, 1) := by decide +kernel
theorem dX4_isWord_18 : decode cX4_isWord 18 = .ok (.aload_n 1, 1) := by decide +kernel
theorem dX4_isWord_19 : decode cX4_isWord 19 = .ok (.invokevirtual 72, 3) := by decide +kernel
theorem dX4_isWord_22 : decode cX4_isWord 22 = .ok (.if_icmp .ge 47, 3) := by decide +kernel
theorem dX4_isWord_25 : decode cX4_isWord 25 = .ok (.aload_n 0, 1) := by decide +kernel
theorem dX4_isWord_26 : decode cX4_isWord 26 = .ok (.getfield 25, 3) := by decide +kernel
theorem dX4_isWord_29 : decode cX4_isWord 29 = .ok (.iload_n 3, 1) := by decide +kernel
theorem dX4_isWord_30 : decode cX4_isWord 30 = .ok (.iadd, 1) := by decide +kernel
theorem dX4_isWord_31 : decode cX4_isWord 31 = .ok (.istore 4, 2) := by decide +kernel
theorem dX4_isWord_33 : decode cX4_isWord 33 = .ok (.iload 4, 2) := by decide +kernel
theorem dX4_isWord_35 : decode cX4_isWord 35 = .ok (.ifCond .lt 26, 3) := by decide +kernel
theorem dX4_isWord_38 : decode cX4_isWord 38 = .ok (.iload 4, 2) := by decide +kernel
theorem dX4_isWord_40 : decode cX4_isWord 40 = .ok (.sipush 160, 3) := by decide +kernel
theorem dX4_isWord_43 : decode cX4_isWord 43 = .ok (.if_icmp .ge 18, 3) := by decide +kernel
theorem dX4_isWord_46 : decode cX4_isWord 46 = .ok (.aload_n 0, 1) := by decide +kernel
theorem dX4_isWord_47 : decode cX4_isWord 47 = .ok (.getfield 19, 3) := by decide +kernel
theorem dX4_isWord_50 : decode cX4_isWord 50 = .ok (.iload 4, 2) := by decide +kernel
theorem dX4_isWord_52 : decode cX4_isWord 52 = .ok (.iaload, 1) := by decide +kernel
theorem dX4_isWord_53 : decode cX4_isWord 53 = .ok (.aload_n 1, 1) := by decide +kernel
theorem dX4_isWord_54 : decode cX4_isWord 54 = .ok (.iload_n 3, 1) := by decide +kernel
theorem dX4_isWord_55 : decode cX4_isWord 55 = .ok (.invokevirtual 76, 3) := by decide +kernel
theorem dX4_isWord_58 : decode cX4_isWord 58 = .ok (.if_icmp .eq 5, 3) := by decide +kernel
theorem dX4_isWord_61 : decode cX4_isWord 61 = .ok (.iconst 0, 1) := by decide +kernel
theorem dX4_isWord_62 : decode cX4_isWord 62 = .ok (.ireturn, 1) := by decide +kernel
theorem dX4_isWord_63 : decode cX4_isWord 63 = .ok (.iinc 3 1, 3) := by decide +kernel
theorem dX4_isWord_66 : decode cX4_isWord 66 = .ok (.goto (-49), 3) := by decide +kernel
theorem dX4_isWord_69 : decode cX4_isWord 69 = .ok (.iconst 1, 1) := by decide +kernel
theorem dX4_isWord_70 : decode cX4_isWord 70 = .ok (.ireturn, 1) := by decide +kernel
theorem dX4_wordOf_0 : decode cX4_wordOf 0 = .ok (.iload_n 0, 1) := by decide +kernel
theorem dX4_wordOf_1 : decode cX4_wordOf 1 = .ok (.tableswitch 50 0 4 #[35, 38, 41, 44, 47], 35) := by decide +kernel
theorem dX4_wordOf_36 : decode cX4_wordOf 36 = .ok (.ldc 80, 2) := by decide +kernel
theorem dX4_wordOf_38 : decode cX4_wordOf 38 = .ok (.areturn, 1) := by decide +kernel
theorem dX4_wordOf_39 : decode cX4_wordOf 39 = .ok (.ldc 82, 2) := by decide +kernel
theorem dX4_wordOf_41 : decode cX4_wordOf 41 = .ok (.areturn, 1) := by decide +kernel
theorem dX4_wordOf_42 : decode cX4_wordOf 42 = .ok (.ldc 84, 2) := by decide +kernel
theorem dX4_wordOf_44 : decode cX4_wordOf 44 = .ok (.areturn, 1) := by decide +kernel
theorem dX4_wordOf_45 : decode cX4_wordOf 45 = .ok (.ldc 86, 2) := by decide +kernel
theorem dX4_wordOf_47 : decode cX4_wordOf 47 = .ok (.areturn, 1) := by decide +kernel
theorem dX4_wordOf_48 : decode cX4_wordOf 48 = .ok (.ldc 88, 2) := by decide +kernel
theorem dX4_wordOf_50 : decode cX4_wordOf 50 = .ok (.areturn, 1) := by decide +kernel
theorem dX4_wordOf_51 : decode cX4_wordOf 51 = .ok (.ldc 90, 2) := by decide +kernel
theorem dX4_wordOf_53 : decode cX4_wordOf 53 = .ok (.areturn, 1) := by decide +kernel
theorem dX4_isDigit_0 : decode cX4_isDigit 0 = .ok (.iload_n 0, 1) := by decide +kernel
theorem dX4_isDigit_1 : decode cX4_isDigit 1 = .ok (.bipush 48, 2) := by decide +kernel
theorem dX4_isDigit_3 : decode cX4_isDigit 3 = .ok (.if_icmp .lt 13, 3) := by decide +kernel
theorem dX4_isDigit_6 : decode cX4_isDigit 6 = .ok (.iload_n 0, 1) := by decide +kernel
theorem dX4_isDigit_7 : decode cX4_isDigit 7 = .ok (.bipush 57, 2) := by decide +kernel
theorem dX4_isDigit_9 : decode cX4_isDigit 9 = .ok (.if_icmp .gt 7, 3) := by decide +kernel
theorem dX4_isDigit_12 : decode cX4_isDigit 12 = .ok (.iconst 1, 1) := by decide +kernel
theorem dX4_isDigit_13 : decode cX4_isDigit 13 = .ok (.goto 4, 3) := by decide +kernel
theorem dX4_isDigit_16 : decode cX4_isDigit 16 = .ok (.iconst 0, 1) := by decide +kernel
theorem dX4_isDigit_17 : decode cX4_isDigit 17 = .ok (.ireturn, 1) := by decide +kernel
theorem dX4_next_0 : decode cX4_next 0 = .ok (.aload_n 0, 1) := by decide +kernel
theorem dX4_next_1 : decode cX4_next 1 = .ok (.getfield 25, 3) := by decide +kernel
theorem dX4_next_4 : decode cX4_next 4 = .ok (.ifCond .lt 36, 3) := by decide +kernel
theorem dX4_next_7 : decode cX4_next 7 = .ok (.aload_n 0, 1) := by decide +kernel
theorem dX4_next_8 : decode cX4_next 8 = .ok (.getfield 25, 3) := by decide +kernel
theorem dX4_next_11 : decode cX4_next 11 = .ok (.aload_n 0, 1) := by decide +kernel
theorem dX4_next_12 : decode cX4_next 12 = .ok (.getfield 22, 3) := by decide +kernel
theorem dX4_next_15 : decode cX4_next 15 = .ok (.if_icmp .ge 25, 3) := by decide +kernel
theorem dX4_next_18 : decode cX4_next 18 = .ok (.aload_n 0, 1) := by decide +kernel
theorem dX4_next_19 : decode cX4_next 19 = .ok (.getfield 25, 3) := by decide +kernel
theorem dX4_next_22 : decode cX4_next 22 = .ok (.sipush 160, 3) := by decide +kernel
theorem dX4_next_25 : decode cX4_next 25 = .ok (.if_icmp .ge 15, 3) := by decide +kernel
theorem dX4_next_28 : decode cX4_next 28 = .ok (.aload_n 0, 1) := by decide +kernel
theorem dX4_next_29 : decode cX4_next 29 = .ok (.getfield 19, 3) := by decide +kernel
theorem dX4_next_32 : decode cX4_next 32 = .ok (.aload_n 0, 1) := by decide +kernel
theorem dX4_next_33 : decode cX4_next 33 = .ok (.getfield 25, 3) := by decide +kernel
theorem dX4_next_36 : decode cX4_next 36 = .ok (.iaload, 1) := by decide +kernel
theorem dX4_next_37 : decode cX4_next 37 = .ok (.goto 4, 3) := by decide +kernel
theorem dX4_next_40 : decode cX4_next 40 = .ok (.iconst (-1), 1) := by decide +kernel
theorem dX4_next_41 : decode cX4_next 41 = .ok (.ireturn, 1) := by decide +kernel
theorem dX4_write_0 : decode cX4_write 0 = .ok (.aload_n 0, 1) := by decide +kernel
theorem dX4_write_1 : decode cX4_write 1 = .ok (.getfield 15, 3) := by decide +kernel
theorem dX4_write_4 : decode cX4_write 4 = .ok (.sipush 161, 3) := by decide +kernel
theorem dX4_write_7 : decode cX4_write 7 = .ok (.if_icmp .ge 23, 3) := by decide +kernel
theorem dX4_write_10 : decode cX4_write 10 = .ok (.aload_n 0, 1) := by decide +kernel
theorem dX4_write_11 : decode cX4_write 11 = .ok (.getfield 11, 3) := by decide +kernel
theorem dX4_write_14 : decode cX4_write 14 = .ok (.aload_n 0, 1) := by decide +kernel
theorem dX4_write_15 : decode cX4_write 15 = .ok (.getfield 15, 3) := by decide +kernel
theorem dX4_write_18 : decode cX4_write 18 = .ok (.iload_n 1, 1) := by decide +kernel
theorem dX4_write_19 : decode cX4_write 19 = .ok (.iastore, 1) := by decide +kernel
theorem dX4_write_20 : decode cX4_write 20 = .ok (.aload_n 0, 1) := by decide +kernel
theorem dX4_write_21 : decode cX4_write 21 = .ok (.dup, 1) := by decide +kernel
theorem dX4_write_22 : decode cX4_write 22 = .ok (.getfield 15, 3) := by decide +kernel
theorem dX4_write_25 : decode cX4_write 25 = .ok (.iconst 1, 1) := by decide +kernel
theorem dX4_write_26 : decode cX4_write 26 = .ok (.iadd, 1) := by decide +kernel
theorem dX4_write_27 : decode cX4_write 27 = .ok (.putfield 15, 3) := by decide +kernel
theorem dX4_write_30 : decode cX4_write 30 = .ok (.return_, 1) := by decide +kernel
theorem dX5_init_0 : decode cX5_init 0 = .ok (.aload_n 0, 1) := by decide +kernel
theorem dX5_init_1 : decode cX5_init 1 = .ok (.invokespecial 3, 3) := by decide +kernel
theorem dX5_init_4 : decode cX5_init 4 = .ok (.aload_n 0, 1) := by decide +kernel
theorem dX5_init_5 : decode cX5_init 5 = .ok (.bipush 50, 2) := by decide +kernel
theorem dX5_init_7 : decode cX5_init 7 = .ok (.newarray .int, 2) := by decide +kernel
theorem dX5_init_9 : decode cX5_init 9 = .ok (.putfield 11, 3) := by decide +kernel
theorem dX5_init_12 : decode cX5_init 12 = .ok (.aload_n 0, 1) := by decide +kernel
theorem dX5_init_13 : decode cX5_init 13 = .ok (.iconst 0, 1) := by decide +kernel
theorem dX5_init_14 : decode cX5_init 14 = .ok (.putfield 15, 3) := by decide +kernel
theorem dX5_init_17 : decode cX5_init 17 = .ok (.aload_n 0, 1) := by decide +kernel
theorem dX5_init_18 : decode cX5_init 18 = .ok (.bipush 24, 2) := by decide +kernel
theorem dX5_init_20 : decode cX5_init 20 = .ok (.newarray .int, 2) := by decide +kernel
theorem dX5_init_22 : decode cX5_init 22 = .ok (.putfield 19, 3) := by decide +kernel
theorem dX5_init_25 : decode cX5_init 25 = .ok (.aload_n 0, 1) := by decide +kernel
theorem dX5_init_26 : decode cX5_init 26 = .ok (.iconst 0, 1) := by decide +kernel
theorem dX5_init_27 : decode cX5_init 27 = .ok (.putfield 22, 3) := by decide +kernel
theorem dX5_init_30 : decode cX5_init 30 = .ok (.return_, 1) := by decide +kernel
theorem dX5_isKind_0 : decode cX5_isKind 0 = .ok (.iload_n 0, 1) := by decide +kernel
theorem dX5_isKind_1 : decode cX5_isKind 1 = .ok (.ifCond .lt 13, 3) := by decide +kernel
theorem dX5_isKind_4 : decode cX5_isKind 4 = .ok (.iload_n 0, 1) := by decide +kernel
theorem dX5_isKind_5 : decode cX5_isKind 5 = .ok (.bipush 8, 2) := by decide +kernel
theorem dX5_isKind_7 : decode cX5_isKind 7 = .ok (.if_icmp .ge 7, 3) := by decide +kernel
theorem dX5_isKind_10 : decode cX5_isKind 10 = .ok (.iconst 1, 1) := by decide +kernel
theorem dX5_isKind_11 : decode cX5_isKind 11 = .ok (.goto 4, 3) := by decide +kernel
theorem dX5_isKind_14 : decode cX5_isKind 14 = .ok (.iconst 0, 1) := by decide +kernel
theorem dX5_isKind_15 : decode cX5_isKind 15 = .ok (.ireturn, 1) := by decide +kernel
theorem dX5_isAct_0 : decode cX5_isAct 0 = .ok (.iload_n 0, 1) := by decide +kernel
theorem dX5_isAct_1 : decode cX5_isAct 1 = .ok (.ifCond .lt 12, 3) := by decide +kernel
theorem dX5_isAct_4 : decode cX5_isAct 4 = .ok (.iload_n 0, 1) := by decide +kernel
theorem dX5_isAct_5 : decode cX5_isAct 5 = .ok (.iconst 4, 1) := by decide +kernel
theorem dX5_isAct_6 : decode cX5_isAct 6 = .ok (.if_icmp .ge 7, 3) := by decide +kernel
theorem dX5_isAct_9 : decode cX5_isAct 9 = .ok (.iconst 1, 1) := by decide +kernel
theorem dX5_isAct_10 : decode cX5_isAct 10 = .ok (.goto 4, 3) := by decide +kernel
theorem dX5_isAct_13 : decode cX5_isAct 13 = .ok (.iconst 0, 1) := by decide +kernel
theorem dX5_isAct_14 : decode cX5_isAct 14 = .ok (.ireturn, 1) := by decide +kernel
theorem dX5_isUnder_0 : decode cX5_isUnder 0 = .ok (.iload_n 0, 1) := by decide +kernel
theorem dX5_isUnder_1 : decode cX5_isUnder 1 = .ok (.istore_n 2, 1) := by decide +kernel
theorem dX5_isUnder_2 : decode cX5_isUnder 2 = .ok (.iconst 0, 1) := by decide +kernel
theorem dX5_isUnder_3 : decode cX5_isUnder 3 = .ok (.istore_n 3, 1) := by decide +kernel
theorem dX5_isUnder_4 : decode cX5_isUnder 4 = .ok (.iload_n 3, 1) := by decide +kernel
theorem dX5_isUnder_5 : decode cX5_isUnder 5 = .ok (.bipush 8, 2) := by decide +kernel
theorem dX5_isUnder_7 : decode cX5_isUnder 7 = .ok (.if_icmp .ge 29, 3) := by decide +kernel
theorem dX5_isUnder_10 : decode cX5_isUnder 10 = .ok (.iload_n 2, 1) := by decide +kernel
theorem dX5_isUnder_11 : decode cX5_isUnder 11 = .ok (.invokestatic 25, 3) := by decide +kernel
theorem dX5_isUnder_14 : decode cX5_isUnder 14 = .ok (.ifCond .eq 22, 3) := by decide +kernel
theorem dX5_isUnder_17 : decode cX5_isUnder 17 = .ok (.iload_n 2, 1) := by decide +kernel
theorem dX5_isUnder_18 : decode cX5_isUnder 18 = .ok (.iload_n 1, 1) := by decide +kernel
theorem dX5_isUnder_19 : decode cX5_isUnder 19 = .ok (.if_icmp .ne 5, 3) := by decide +kernel
theorem dX5_isUnder_22 : decode cX5_isUnder 22 = .ok (.iconst 1, 1) := by decide +kernel
theorem dX5_isUnder_23 : decode cX5_isUnder 23 = .ok (.ireturn, 1) := by decide +kernel
theorem dX5_isUnder_24 : decode cX5_isUnder 24 = .ok (.getstatic 29, 3) := by decide +kernel
theorem dX5_isUnder_27 : decode cX5_isUnder 27 = .ok (.iload_n 2, 1) := by decide +kernel
theorem dX5_isUnder_28 : decode cX5_isUnder 28 = .ok (.iaload, 1) := by decide +kernel
theorem dX5_isUnder_29 : decode cX5_isUnder 29 = .ok (.istore_n 2, 1) := by decide +kernel
theorem dX5_isUnder_30 : decode cX5_isUnder 30 = .ok (.iinc 3 1, 3) := by decide +kernel
theorem dX5_isUnder_33 : decode cX5_isUnder 33 = .ok (.goto (-29), 3) := by decide +kernel
theorem dX5_isUnder_36 : decode cX5_isUnder 36 = .ok (.iconst 0, 1) := by decide +kernel
theorem dX5_isUnder_37 : decode cX5_isUnder 37 = .ok (.ireturn, 1) := by decide +kernel
theorem dX5_add_0 : decode cX5_add 0 = .ok (.aload_n 0, 1) := by decide +kernel
theorem dX5_add_1 : decode cX5_add 1 = .ok (.getfield 15, 3) := by decide +kernel
theorem dX5_add_4 : decode cX5_add 4 = .ok (.bipush 50, 2) := by decide +kernel
theorem dX5_add_6 : decode cX5_add 6 = .ok (.if_icmp .lt 6, 3) := by decide +kernel
theorem dX5_add_9 : decode cX5_add 9 = .ok (.bipush (-3), 2) := by decide +kernel
theorem dX5_add_11 : decode cX5_add 11 = .ok (.ireturn, 1) := by decide +kernel
theorem dX5_add_12 : decode cX5_add 12 = .ok (.aload_n 0, 1) := by decide +kernel
theorem dX5_add_13 : decode cX5_add 13 = .ok (.getfield 11, 3) := by decide +kernel
theorem dX5_add_16 : decode cX5_add 16 = .ok (.aload_n 0, 1) := by decide +kernel
theorem dX5_add_17 : decode cX5_add 17 = .ok (.getfield 15, 3) := by decide +kernel
theorem dX5_add_20 : decode cX5_add 20 = .ok (.iload_n 1, 1) := by decide +kernel
theorem dX5_add_21 : decode cX5_add 21 = .ok (.iastore, 1) := by decide +kernel
theorem dX5_add_22 : decode cX5_add 22 = .ok (.aload_n 0, 1) := by decide +kernel
theorem dX5_add_23 : decode cX5_add 23 = .ok (.dup, 1) := by decide +kernel
theorem dX5_add_24 : decode cX5_add 24 = .ok (.getfield 15, 3) := by decide +kernel
theorem dX5_add_27 : decode cX5_add 27 = .ok (.iconst 1, 1) := by decide +kernel
theorem dX5_add_28 : decode cX5_add 28 = .ok (.iadd, 1) := by decide +kernel
theorem dX5_add_29 : decode cX5_add 29 = .ok (.putfield 15, 3) := by decide +kernel
theorem dX5_add_32 : decode cX5_add 32 = .ok (.aload_n 0, 1) := by decide +kernel
theorem dX5_add_33 : decode cX5_add 33 = .ok (.getfield 15, 3) := by decide +kernel
theorem dX5_add_36 : decode cX5_add 36 = .ok (.iconst 1, 1) := by decide +kernel
theorem dX5_add_37 : decode cX5_add 37 = .ok (.isub, 1) := by decide +kernel
theorem dX5_add_38 : decode cX5_add 38 = .ok (.ireturn, 1) := by decide +kernel
theorem dX5_has_0 : decode cX5_has 0 = .ok (.iload_n 1, 1) := by decide +kernel
theorem dX5_has_1 : decode cX5_has 1 = .ok (.ifCond .lt 15, 3) := by decide +kernel
theorem dX5_has_4 : decode cX5_has 4 = .ok (.iload_n 1, 1) := by decide +kernel
theorem dX5_has_5 : decode cX5_has 5 = .ok (.aload_n 0, 1) := by decide +kernel
theorem dX5_has_6 : decode cX5_has 6 = .ok (.getfield 15, 3) := by decide +kernel
theorem dX5_has_9 : decode cX5_has 9 = .ok (.if_icmp .ge 7, 3) := by decide +kernel
theorem dX5_has_12 : decode cX5_has 12 = .ok (.iconst 1, 1) := by decide +kernel
theorem dX5_has_13 : decode cX5_has 13 = .ok (.goto 4, 3) := by decide +kernel
theorem dX5_has_16 : decode cX5_has 16 = .ok (.iconst 0, 1) := by decide +kernel
theorem dX5_has_17 : decode cX5_has 17 = .ok (.ireturn, 1) := by decide +kernel
theorem dX5_bodies_0 : decode cX5_bodies 0 = .ok (.aload_n 0, 1) := by decide +kernel
theorem dX5_bodies_1 : decode cX5_bodies 1 = .ok (.getfield 15, 3) := by decide +kernel
theorem dX5_bodies_4 : decode cX5_bodies 4 = .ok (.ireturn, 1) := by decide +kernel
theorem dX5_kindOf_0 : decode cX5_kindOf 0 = .ok (.aload_n 0, 1) := by decide +kernel
theorem dX5_kindOf_1 : decode cX5_kindOf 1 = .ok (.iload_n 1, 1) := by decide +kernel
theorem dX5_kindOf_2 : decode cX5_kindOf 2 = .ok (.invokevirtual 32, 3) := by decide +kernel
theorem dX5_kindOf_5 : decode cX5_kindOf 5 = .ok (.ifCond .eq 12, 3) := by decide +kernel
theorem dX5_kindOf_8 : decode cX5_kindOf 8 = .ok (.aload_n 0, 1) := by decide +kernel
theorem dX5_kindOf_9 : decode cX5_kindOf 9 = .ok (.getfield 11, 3) := by decide +kernel
theorem dX5_kindOf_12 : decode cX5_kindOf 12 = .ok (.iload_n 1, 1) := by decide +kernel
theorem dX5_kindOf_13 : decode cX5_kindOf 13 = .ok (.iaload, 1) := by decide +kernel
theorem dX5_kindOf_14 : decode cX5_kindOf 14 = .ok (.goto 4, 3) := by decide +kernel
theorem dX5_kindOf_17 : decode cX5_kindOf 17 = .ok (.iconst (-1), 1) := by decide +kernel
theorem dX5_kindOf_18 : decode cX5_kindOf 18 = .ok (.ireturn, 1) := by decide +kernel
theorem dX5_forgetTrace_0 : decode cX5_forgetTrace 0 = .ok (.aload_n 0, 1) := by decide +kernel
theorem dX5_forgetTrace_1 : decode cX5_forgetTrace 1 = .ok (.iconst 0, 1) := by decide +kernel
theorem dX5_forgetTrace_2 : decode cX5_forgetTrace 2 = .ok (.putfield 22, 3) := by decide +kernel
theorem dX5_forgetTrace_5 : decode cX5_forgetTrace 5 = .ok (.return_, 1) := by decide +kernel
theorem dX5_ran_0 : decode cX5_ran 0 = .ok (.aload_n 0, 1) := by decide +kernel
theorem dX5_ran_1 : decode cX5_ran 1 = .ok (.getfield 22, 3) := by decide +kernel
theorem dX5_ran_4 : decode cX5_ran 4 = .ok (.ireturn, 1) := by decide +kernel
theorem dX5_traced_0 : decode cX5_traced 0 = .ok (.iload_n 1, 1) := by decide +kernel
theorem dX5_traced_1 : decode cX5_traced 1 = .ok (.ifCond .lt 26, 3) := by decide +kernel
theorem dX5_traced_4 : decode cX5_traced 4 = .ok (.iload_n 1, 1) := by decide +kernel
theorem dX5_traced_5 : decode cX5_traced 5 = .ok (.aload_n 0, 1) := by decide +kernel
theorem dX5_traced_6 : decode cX5_traced 6 = .ok (.getfield 22, 3) := by decide +kernel
theorem dX5_traced_9 : decode cX5_traced 9 = .ok (.if_icmp .ge 18, 3) := by decide +kernel
theorem dX5_traced_12 : decode cX5_traced 12 = .ok (.iload_n 1, 1) := by decide +kernel
theorem dX5_traced_13 : decode cX5_traced 13 = .ok (.bipush 24, 2) := by decide +kernel
theorem dX5_traced_15 : decode cX5_traced 15 = .ok (.if_icmp .ge 12, 3) := by decide +kernel
theorem dX5_traced_18 : decode cX5_traced 18 = .ok (.aload_n 0, 1) := by decide +kernel
theorem dX5_traced_19 : decode cX5_traced 19 = .ok (.getfield 19, 3) := by decide +kernel
theorem dX5_traced_22 : decode cX5_traced 22 = .ok (.iload_n 1, 1) := by decide +kernel
theorem dX5_traced_23 : decode cX5_traced 23 = .ok (.iaload, 1) := by decide +kernel
theorem dX5_traced_24 : decode cX5_traced 24 = .ok (.goto 4, 3) := by decide +kernel
theorem dX5_traced_27 : decode cX5_traced 27 = .ok (.iconst (-1), 1) := by decide +kernel
theorem dX5_traced_28 : decode cX5_traced 28 = .ok (.ireturn, 1) := by decide +kernel
theorem dX5_perform_0 : decode cX5_perform 0 = .ok (.aload_n 0, 1) := by decide +kernel
theorem dX5_perform_1 : decode cX5_perform 1 = .ok (.iload_n 1, 1) := by decide +kernel
theorem dX5_perform_2 : decode cX5_perform 2 = .ok (.invokevirtual 32, 3) := by decide +kernel
theorem dX5_perform_5 : decode cX5_perform 5 = .ok (.ifCond .eq 26, 3) := by decide +kernel
theorem dX5_perform_8 : decode cX5_perform 8 = .ok (.iload_n 2, 1) := by decide +kernel
theorem dX5_perform_9 : decode cX5_perform 9 = .ok (.invokestatic 35, 3) := by decide +kernel
theorem dX5_perform_12 : decode cX5_perform 12 = .ok (.ifCond .eq 19, 3) := by decide +kernel
theorem dX5_perform_15 : decode cX5_perform 15 = .ok (.aload_n 0, 1) := by decide +kernel
theorem dX5_perform_16 : decode cX5_perform 16 = .ok (.aload_n 0, 1) := by decide +kernel
theorem dX5_perform_17 : decode cX5_perform 17 = .ok (.iload_n 1, 1) := by decide +kernel
theorem dX5_perform_18 : decode cX5_perform 18 = .ok (.invokevirtual 38, 3) := by decide +kernel
theorem dX5_perform_21 : decode cX5_perform 21 = .ok (.iload_n 1, 1) := by decide +kernel
theorem dX5_perform_22 : decode cX5_perform 22 = .ok (.iload_n 2, 1) := by decide +kernel
theorem dX5_perform_23 : decode cX5_perform 23 = .ok (.iload_n 3, 1) := by decide +kernel
theorem dX5_perform_24 : decode cX5_perform 24 = .ok (.iconst 0, 1) := by decide +kernel
theorem dX5_perform_25 : decode cX5_perform 25 = .ok (.invokevirtual 42, 3) := by decide +kernel
theorem dX5_perform_28 : decode cX5_perform 28 = .ok (.goto 4, 3) := by decide +kernel
theorem dX5_perform_31 : decode cX5_perform 31 = .ok (.iconst 0, 1) := by decide +kernel
theorem dX5_perform_32 : decode cX5_perform 32 = .ok (.ireturn, 1) := by decide +kernel
theorem dX5_run_0 : decode cX5_run 0 = .ok (.iload_n 1, 1) := by decide +kernel
theorem dX5_run_1 : decode cX5_run 1 = .ok (.istore 6, 2) := by decide +kernel
theorem dX5_run_3 : decode cX5_run 3 = .ok (.iconst 0, 1) := by decide +kernel
theorem dX5_run_4 : decode cX5_run 4 = .ok (.istore 7, 2) := by decide +kernel
theorem dX5_run_6 : decode cX5_run 6 = .ok (.iload 7, 2) := by decide +kernel
theorem dX5_run_8 : decode cX5_run 8 = .ok (.bipush 8, 2) := by decide +kernel
theorem dX5_run_10 : decode cX5_run 10 = .ok (.if_icmp .ge 67, 3) := by decide +kernel
theorem dX5_run_13 : decode cX5_run 13 = .ok (.iload 6, 2) := by decide +kernel
theorem dX5_run_15 : decode cX5_run 15 = .ok (.invokestatic 25, 3) := by decide +kernel
theorem dX5_run_18 : decode cX5_run 18 = .ok (.ifCond .eq 59, 3) := by decide +kernel
theorem dX5_run_21 : decode cX5_run 21 = .ok (.getstatic 46, 3) := by decide +kernel
theorem dX5_run_24 : decode cX5_run 24 = .ok (.iload 6, 2) := by decide +kernel
theorem dX5_run_26 : decode cX5_run 26 = .ok (.iconst 4, 1) := by decide +kernel
theorem dX5_run_27 : decode cX5_run 27 = .ok (.imul, 1) := by decide +kernel
theorem dX5_run_28 : decode cX5_run 28 = .ok (.iload_n 3, 1) := by decide +kernel
theorem dX5_run_29 : decode cX5_run 29 = .ok (.iadd, 1) := by decide +kernel
theorem dX5_run_30 : decode cX5_run 30 = .ok (.iaload, 1) := by decide +kernel
theorem dX5_run_31 : decode cX5_run 31 = .ok (.istore 8, 2) := by decide +kernel
theorem dX5_run_33 : decode cX5_run 33 = .ok (.iload 8, 2) := by decide +kernel
theorem dX5_run_35 : decode cX5_run 35 = .ok (.ifCond .eq 28, 3) := by decide +kernel
theorem dX5_run_38 : decode cX5_run 38 = .ok (.iload 5, 2) := by decide +kernel
theorem dX5_run_40 : decode cX5_run 40 = .ok (.bipush 40, 2) := by decide +kernel
theorem dX5_run_42 : decode cX5_run 42 = .ok (.if_icmp .ge 19, 3) := by decide +kernel
theorem dX5_run_45 : decode cX5_run 45 = .ok (.aload_n 0, 1) := by decide +kernel
theorem dX5_run_46 : decode cX5_run 46 = .ok (.iload 8, 2) := by decide +kernel
theorem dX5_run_48 : decode cX5_run 48 = .ok (.iload_n 2, 1) := by decide +kernel
theorem dX5_run_49 : decode cX5_run 49 = .ok (.iload 4, 2) := by decide +kernel
theorem dX5_run_51 : decode cX5_run 51 = .ok (.iload 5, 2) := by decide +kernel
theorem dX5_run_53 : decode cX5_run 53 = .ok (.iconst 1, 1) := by decide +kernel
theorem dX5_run_54 : decode cX5_run 54 = .ok (.iadd, 1) := by decide +kernel
theorem dX5_run_55 : decode cX5_run 55 = .ok (.invokevirtual 49, 3) := by decide +kernel
theorem dX5_run_58 : decode cX5_run 58 = .ok (.goto 4, 3) := by decide +kernel
theorem dX5_run_61 : decode cX5_run 61 = .ok (.iconst 0, 1) := by decide +kernel
theorem dX5_run_62 : decode cX5_run 62 = .ok (.ireturn, 1) := by decide +kernel
theorem dX5_run_63 : decode cX5_run 63 = .ok (.getstatic 29, 3) := by decide +kernel
theorem dX5_run_66 : decode cX5_run 66 = .ok (.iload 6, 2) := by decide +kernel
theorem dX5_run_68 : decode cX5_run 68 = .ok (.iaload, 1) := by decide +kernel
theorem dX5_run_69 : decode cX5_run 69 = .ok (.istore 6, 2) := by decide +kernel
theorem dX5_run_71 : decode cX5_run 71 = .ok (.iinc 7 1, 3) := by decide +kernel
theorem dX5_run_74 : decode cX5_run 74 = .ok (.goto (-68), 3) := by decide +kernel
theorem dX5_run_77 : decode cX5_run 77 = .ok (.iconst 0, 1) := by decide +kernel
theorem dX5_run_78 : decode cX5_run 78 = .ok (.ireturn, 1) := by decide +kernel
theorem dX5_runBody_0 : decode cX5_runBody 0 = .ok (.aload_n 0, 1) := by decide +kernel
theorem dX5_runBody_1 : decode cX5_runBody 1 = .ok (.iload_n 1, 1) := by decide +kernel
theorem dX5_runBody_2 : decode cX5_runBody 2 = .ok (.invokevirtual 53, 3) := by decide +kernel
theorem dX5_runBody_5 : decode cX5_runBody 5 = .ok (.aload_n 0, 1) := by decide +kernel
theorem dX5_runBody_6 : decode cX5_runBody 6 = .ok (.iload_n 2, 1) := by decide +kernel
theorem dX5_runBody_7 : decode cX5_runBody 7 = .ok (.invokevirtual 38, 3) := by decide +kernel
theorem dX5_runBody_10 : decode cX5_runBody 10 = .ok (.istore 5, 2) := by decide +kernel
theorem dX5_runBody_12 : decode cX5_runBody 12 = .ok (.iload_n 1, 1) := by decide +kernel
theorem dX5_runBody_13 : decode cX5_runBody 13 = .ok (.lookupswitch 336 #[(1, 115), (2, 119), (10, 143), (11, 157), (20, 161), (30, 178), (40, 194), (41, 211), (50, 228), (60, 255), (70, 272), (80, 290), (81, 318)], 115) := by decide +kernel
theorem dX5_runBody_128 : decode cX5_runBody 128 = .ok (.iload_n 3, 1) := by decide +kernel
theorem dX5_runBody_129 : decode cX5_runBody 129 = .ok (.iload_n 2, 1) := by decide +kernel
theorem dX5_runBody_130 : decode cX5_runBody 130 = .ok (.iadd, 1) := by decide +kernel
theorem dX5_runBody_131 : decode cX5_runBody 131 = .ok (.ireturn, 1) := by decide +kernel
theorem dX5_runBody_132 : decode cX5_runBody 132 = .ok (.aload_n 0, 1) := by decide +kernel
theorem dX5_runBody_133 : decode cX5_runBody 133 = .ok (.iload 5, 2) := by decide +kernel
theorem dX5_runBody_135 : decode cX5_runBody 135 = .ok (.iload_n 2, 1) := by decide +kernel
theorem dX5_runBody_136 : decode cX5_runBody 136 = .ok (.iconst 1, 1) := by decide +kernel
theorem dX5_runBody_137 : decode cX5_runBody 137 = .ok (.iload_n 3, 1) := by decide +kernel
theorem dX5_runBody_138 : decode cX5_runBody 138 = .ok (.iload 4, 2) := by decide +kernel
theorem dX5_runBody_140 : decode cX5_runBody 140 = .ok (.invokevirtual 42, 3) := by decide +kernel
theorem dX5_runBody_143 : decode cX5_runBody 143 = .ok (.aload_n 0, 1) := by decide +kernel
theorem dX5_runBody_144 : decode cX5_runBody 144 = .ok (.iload 5, 2) := by decide +kernel
theorem dX5_runBody_146 : decode cX5_runBody 146 = .ok (.iload_n 2, 1) := by decide +kernel
theorem dX5_runBody_147 : decode cX5_runBody 147 = .ok (.iconst 2, 1) := by decide +kernel
theorem dX5_runBody_148 : decode cX5_runBody 148 = .ok (.iconst 1, 1) := by decide +kernel
theorem dX5_runBody_149 : decode cX5_runBody 149 = .ok (.iload 4, 2) := by decide +kernel
theorem dX5_runBody_151 : decode cX5_runBody 151 = .ok (.invokevirtual 42, 3) := by decide +kernel
theorem dX5_runBody_154 : decode cX5_runBody 154 = .ok (.isub, 1) := by decide +kernel
theorem dX5_runBody_155 : decode cX5_runBody 155 = .ok (.ireturn, 1) := by decide +kernel
theorem dX5_runBody_156 : decode cX5_runBody 156 = .ok (.aload_n 0, 1) := by decide +kernel
theorem dX5_runBody_157 : decode cX5_runBody 157 = .ok (.iload 5, 2) := by decide +kernel
theorem dX5_runBody_159 : decode cX5_runBody 159 = .ok (.iload_n 2, 1) := by decide +kernel
theorem dX5_runBody_160 : decode cX5_runBody 160 = .ok (.iconst 0, 1) := by decide +kernel
theorem dX5_runBody_161 : decode cX5_runBody 161 = .ok (.iload_n 3, 1) := by decide +kernel
theorem dX5_runBody_162 : decode cX5_runBody 162 = .ok (.iload 4, 2) := by decide +kernel
theorem dX5_runBody_164 : decode cX5_runBody 164 = .ok (.invokevirtual 42, 3) := by decide +kernel
theorem dX5_runBody_167 : decode cX5_runBody 167 = .ok (.iconst 2, 1) := by decide +kernel
theorem dX5_runBody_168 : decode cX5_runBody 168 = .ok (.imul, 1) := by decide +kernel
theorem dX5_runBody_169 : decode cX5_runBody 169 = .ok (.ireturn, 1) := by decide +kernel
theorem dX5_runBody_170 : decode cX5_runBody 170 = .ok (.iload_n 3, 1) := by decide +kernel
theorem dX5_runBody_171 : decode cX5_runBody 171 = .ok (.iload_n 2, 1) := by decide +kernel
theorem dX5_runBody_172 : decode cX5_runBody 172 = .ok (.ixor, 1) := by decide +kernel
theorem dX5_runBody_173 : decode cX5_runBody 173 = .ok (.ireturn, 1) := by decide +kernel
theorem dX5_runBody_174 : decode cX5_runBody 174 = .ok (.aload_n 0, 1) := by decide +kernel
theorem dX5_runBody_175 : decode cX5_runBody 175 = .ok (.getstatic 29, 3) := by decide +kernel
theorem dX5_runBody_178 : decode cX5_runBody 178 = .ok (.iconst 1, 1) := by decide +kernel
theorem dX5_runBody_179 : decode cX5_runBody 179 = .ok (.iaload, 1) := by decide +kernel
theorem dX5_runBody_180 : decode cX5_runBody 180 = .ok (.iload_n 2, 1) := by decide +kernel
theorem dX5_runBody_181 : decode cX5_runBody 181 = .ok (.iconst 0, 1) := by decide +kernel
theorem dX5_runBody_182 : decode cX5_runBody 182 = .ok (.iload_n 3, 1) := by decide +kernel
theorem dX5_runBody_183 : decode cX5_runBody 183 = .ok (.iload 4, 2) := by decide +kernel
theorem dX5_runBody_185 : decode cX5_runBody 185 = .ok (.invokevirtual 42, 3) := by decide +kernel
theorem dX5_runBody_188 : decode cX5_runBody 188 = .ok (.iconst 3, 1) := by decide +kernel
theorem dX5_runBody_189 : decode cX5_runBody 189 = .ok (.iadd, 1) := by decide +kernel
theorem dX5_runBody_190 : decode cX5_runBody 190 = .ok (.ireturn, 1) := by decide +kernel
theorem dX5_runBody_191 : decode cX5_runBody 191 = .ok (.aload_n 0, 1) := by decide +kernel
theorem dX5_runBody_192 : decode cX5_runBody 192 = .ok (.getstatic 29, 3) := by decide +kernel
theorem dX5_runBody_195 : decode cX5_runBody 195 = .ok (.iconst 2, 1) := by decide +kernel
theorem dX5_runBody_196 : decode cX5_runBody 196 = .ok (.iaload, 1) := by decide +kernel
theorem dX5_runBody_197 : decode cX5_runBody 197 = .ok (.iload_n 2, 1) := by decide +kernel
theorem dX5_runBody_198 : decode cX5_runBody 198 = .ok (.iconst 1, 1) := by decide +kernel
theorem dX5_runBody_199 : decode cX5_runBody 199 = .ok (.iload_n 3, 1) := by decide +kernel
theorem dX5_runBody_200 : decode cX5_runBody 200 = .ok (.iload 4, 2) := by decide +kernel
theorem dX5_runBody_202 : decode cX5_runBody 202 = .ok (.invokevirtual 42, 3) := by decide +kernel
theorem dX5_runBody_205 : decode cX5_runBody 205 = .ok (.ineg, 1) := by decide +kernel
theorem dX5_runBody_206 : decode cX5_runBody 206 = .ok (.ireturn, 1) := by decide +kernel
theorem dX5_runBody_207 : decode cX5_runBody 207 = .ok (.aload_n 0, 1) := by decide +kernel
theorem dX5_runBody_208 : decode cX5_runBody 208 = .ok (.getstatic 29, 3) := by decide +kernel
theorem dX5_runBody_211 : decode cX5_runBody 211 = .ok (.iconst 3, 1) := by decide +kernel
theorem dX5_runBody_212 : decode cX5_runBody 212 = .ok (.iaload, 1) := by decide +kernel
theorem dX5_runBody_213 : decode cX5_runBody 213 = .ok (.iload_n 2, 1) := by decide +kernel
theorem dX5_runBody_214 : decode cX5_runBody 214 = .ok (.iconst 2, 1) := by decide +kernel
theorem dX5_runBody_215 : decode cX5_runBody 215 = .ok (.iload_n 3, 1) := by decide +kernel
theorem dX5_runBody_216 : decode cX5_runBody 216 = .ok (.iload 4, 2) := by decide +kernel
theorem dX5_runBody_218 : decode cX5_runBody 218 = .ok (.invokevirtual 42, 3) := by decide +kernel
theorem dX5_runBody_221 : decode cX5_runBody 221 = .ok (.iconst 3, 1) := by decide +kernel
theorem dX5_runBody_222 : decode cX5_runBody 222 = .ok (.imul, 1) := by decide +kernel
theorem dX5_runBody_223 : decode cX5_runBody 223 = .ok (.ireturn, 1) := by decide +kernel
theorem dX5_runBody_224 : decode cX5_runBody 224 = .ok (.aload_n 0, 1) := by decide +kernel
theorem dX5_runBody_225 : decode cX5_runBody 225 = .ok (.getstatic 29, 3) := by decide +kernel
theorem dX5_runBody_228 : decode cX5_runBody 228 = .ok (.iconst 3, 1) := by decide +kernel
theorem dX5_runBody_229 : decode cX5_runBody 229 = .ok (.iaload, 1) := by decide +kernel
theorem dX5_runBody_230 : decode cX5_runBody 230 = .ok (.iload_n 2, 1) := by decide +kernel
theorem dX5_runBody_231 : decode cX5_runBody 231 = .ok (.iconst 1, 1) := by decide +kernel
theorem dX5_runBody_232 : decode cX5_runBody 232 = .ok (.iload_n 3, 1) := by decide +kernel
theorem dX5_runBody_233 : decode cX5_runBody 233 = .ok (.iconst 1, 1) := by decide +kernel
theorem dX5_runBody_234 : decode cX5_runBody 234 = .ok (.iadd, 1) := by decide +kernel
theorem dX5_runBody_235 : decode cX5_runBody 235 = .ok (.iload 4, 2) := by decide +kernel
theorem dX5_runBody_237 : decode cX5_runBody 237 = .ok (.invokevirtual 42, 3) := by decide +kernel
theorem dX5_runBody_240 : decode cX5_runBody 240 = .ok (.ireturn, 1) := by decide +kernel
theorem dX5_runBody_241 : decode cX5_runBody 241 = .ok (.aload_n 0, 1) := by decide +kernel
theorem dX5_runBody_242 : decode cX5_runBody 242 = .ok (.getstatic 29, 3) := by decide +kernel
theorem dX5_runBody_245 : decode cX5_runBody 245 = .ok (.iconst 4, 1) := by decide +kernel
theorem dX5_runBody_246 : decode cX5_runBody 246 = .ok (.iaload, 1) := by decide +kernel
theorem dX5_runBody_247 : decode cX5_runBody 247 = .ok (.iload_n 2, 1) := by decide +kernel
theorem dX5_runBody_248 : decode cX5_runBody 248 = .ok (.iconst 2, 1) := by decide +kernel
theorem dX5_runBody_249 : decode cX5_runBody 249 = .ok (.iload_n 3, 1) := by decide +kernel
theorem dX5_runBody_250 : decode cX5_runBody 250 = .ok (.iload 4, 2) := by decide +kernel
theorem dX5_runBody_252 : decode cX5_runBody 252 = .ok (.invokevirtual 42, 3) := by decide +kernel
theorem dX5_runBody_255 : decode cX5_runBody 255 = .ok (.aload_n 0, 1) := by decide +kernel
theorem dX5_runBody_256 : decode cX5_runBody 256 = .ok (.iload 5, 2) := by decide +kernel
theorem dX5_runBody_258 : decode cX5_runBody 258 = .ok (.iload_n 2, 1) := by decide +kernel
theorem dX5_runBody_259 : decode cX5_runBody 259 = .ok (.iconst 0, 1) := by decide +kernel
theorem dX5_runBody_260 : decode cX5_runBody 260 = .ok (.iconst 2, 1) := by decide +kernel
theorem dX5_runBody_261 : decode cX5_runBody 261 = .ok (.iload 4, 2) := by decide +kernel
theorem dX5_runBody_263 : decode cX5_runBody 263 = .ok (.invokevirtual 42, 3) := by decide +kernel
theorem dX5_runBody_266 : decode cX5_runBody 266 = .ok (.isub, 1) := by decide +kernel
theorem dX5_runBody_267 : decode cX5_runBody 267 = .ok (.ireturn, 1) := by decide +kernel
theorem dX5_runBody_268 : decode cX5_runBody 268 = .ok (.aload_n 0, 1) := by decide +kernel
theorem dX5_runBody_269 : decode cX5_runBody 269 = .ok (.getstatic 29, 3) := by decide +kernel
theorem dX5_runBody_272 : decode cX5_runBody 272 = .ok (.iconst 5, 1) := by decide +kernel
theorem dX5_runBody_273 : decode cX5_runBody 273 = .ok (.iaload, 1) := by decide +kernel
theorem dX5_runBody_274 : decode cX5_runBody 274 = .ok (.iload_n 2, 1) := by decide +kernel
theorem dX5_runBody_275 : decode cX5_runBody 275 = .ok (.iconst 3, 1) := by decide +kernel
theorem dX5_runBody_276 : decode cX5_runBody 276 = .ok (.iload_n 3, 1) := by decide +kernel
theorem dX5_runBody_277 : decode cX5_runBody 277 = .ok (.iload 4, 2) := by decide +kernel
theorem dX5_runBody_279 : decode cX5_runBody 279 = .ok (.invokevirtual 42, 3) := by decide +kernel
theorem dX5_runBody_282 : decode cX5_runBody 282 = .ok (.iconst 5, 1) := by decide +kernel
theorem dX5_runBody_283 : decode cX5_runBody 283 = .ok (.ixor, 1) := by decide +kernel
theorem dX5_runBody_284 : decode cX5_runBody 284 = .ok (.ireturn, 1) := by decide +kernel
theorem dX5_runBody_285 : decode cX5_runBody 285 = .ok (.aload_n 0, 1) := by decide +kernel
theorem dX5_runBody_286 : decode cX5_runBody 286 = .ok (.getstatic 29, 3) := by decide +kernel
theorem dX5_runBody_289 : decode cX5_runBody 289 = .ok (.bipush 6, 2) := by decide +kernel
theorem dX5_runBody_291 : decode cX5_runBody 291 = .ok (.iaload, 1) := by decide +kernel
theorem dX5_runBody_292 : decode cX5_runBody 292 = .ok (.iload_n 2, 1) := by decide +kernel
theorem dX5_runBody_293 : decode cX5_runBody 293 = .ok (.iconst 0, 1) := by decide +kernel
theorem dX5_runBody_294 : decode cX5_runBody 294 = .ok (.iload_n 3, 1) := by decide +kernel
theorem dX5_runBody_295 : decode cX5_runBody 295 = .ok (.iload 4, 2) := by decide +kernel
theorem dX5_runBody_297 : decode cX5_runBody 297 = .ok (.invokevirtual 42, 3) := by decide +kernel
theorem dX5_runBody_300 : decode cX5_runBody 300 = .ok (.iconst 2, 1) := by decide +kernel
theorem dX5_runBody_301 : decode cX5_runBody 301 = .ok (.imul, 1) := by decide +kernel
theorem dX5_runBody_302 : decode cX5_runBody 302 = .ok (.ireturn, 1) := by decide +kernel
theorem dX5_runBody_303 : decode cX5_runBody 303 = .ok (.aload_n 0, 1) := by decide +kernel
theorem dX5_runBody_304 : decode cX5_runBody 304 = .ok (.getstatic 29, 3) := by decide +kernel
theorem dX5_runBody_307 : decode cX5_runBody 307 = .ok (.bipush 7, 2) := by decide +kernel
theorem dX5_runBody_309 : decode cX5_runBody 309 = .ok (.iaload, 1) := by decide +kernel
theorem dX5_runBody_310 : decode cX5_runBody 310 = .ok (.iload_n 2, 1) := by decide +kernel
theorem dX5_runBody_311 : decode cX5_runBody 311 = .ok (.iconst 1, 1) := by decide +kernel
theorem dX5_runBody_312 : decode cX5_runBody 312 = .ok (.iload_n 3, 1) := by decide +kernel
theorem dX5_runBody_313 : decode cX5_runBody 313 = .ok (.iload 4, 2) := by decide +kernel
theorem dX5_runBody_315 : decode cX5_runBody 315 = .ok (.invokevirtual 42, 3) := by decide +kernel
theorem dX5_runBody_318 : decode cX5_runBody 318 = .ok (.aload_n 0, 1) := by decide +kernel
theorem dX5_runBody_319 : decode cX5_runBody 319 = .ok (.iload 5, 2) := by decide +kernel
theorem dX5_runBody_321 : decode cX5_runBody 321 = .ok (.iload_n 2, 1) := by decide +kernel
theorem dX5_runBody_322 : decode cX5_runBody 322 = .ok (.iconst 2, 1) := by decide +kernel
theorem dX5_runBody_323 : decode cX5_runBody 323 = .ok (.iconst 2, 1) := by decide +kernel
theorem dX5_runBody_324 : decode cX5_runBody 324 = .ok (.iload 4, 2) := by decide +kernel
theorem dX5_runBody_326 : decode cX5_runBody 326 = .ok (.invokevirtual 42, 3) := by decide +kernel
theorem dX5_runBody_329 : decode cX5_runBody 329 = .ok (.iadd, 1) := by decide +kernel
theorem dX5_runBody_330 : decode cX5_runBody 330 = .ok (.ireturn, 1) := by decide +kernel
theorem dX5_runBody_331 : decode cX5_runBody 331 = .ok (.aload_n 0, 1) := by decide +kernel
theorem dX5_runBody_332 : decode cX5_runBody 332 = .ok (.getstatic 29, 3) := by decide +kernel
theorem dX5_runBody_335 : decode cX5_runBody 335 = .ok (.bipush 7, 2) := by decide +kernel
theorem dX5_runBody_337 : decode cX5_runBody 337 = .ok (.iaload, 1) := by decide +kernel
theorem dX5_runBody_338 : decode cX5_runBody 338 = .ok (.iload_n 2, 1) := by decide +kernel
theorem dX5_runBody_339 : decode cX5_runBody 339 = .ok (.iconst 3, 1) := by decide +kernel
theorem dX5_runBody_340 : decode cX5_runBody 340 = .ok (.iload_n 3, 1) := by decide +kernel
theorem dX5_runBody_341 : decode cX5_runBody 341 = .ok (.iload 4, 2) := by decide +kernel
theorem dX5_runBody_343 : decode cX5_runBody 343 = .ok (.invokevirtual 42, 3) := by decide +kernel
theorem dX5_runBody_346 : decode cX5_runBody 346 = .ok (.iconst 1, 1) := by decide +kernel
theorem dX5_runBody_347 : decode cX5_runBody 347 = .ok (.isub, 1) := by decide +kernel
theorem dX5_runBody_348 : decode cX5_runBody 348 = .ok (.ireturn, 1) := by decide +kernel
theorem dX5_runBody_349 : decode cX5_runBody 349 = .ok (.iconst 0, 1) := by decide +kernel
theorem dX5_runBody_350 : decode cX5_runBody 350 = .ok (.ireturn, 1) := by decide +kernel
theorem dX5_note_0 : decode cX5_note 0 = .ok (.aload_n 0, 1) := by decide +kernel
theorem dX5_note_1 : decode cX5_note 1 = .ok (.getfield 22, 3) := by decide +kernel
theorem dX5_note_4 : decode cX5_note 4 = .ok (.bipush 24, 2) := by decide +kernel
theorem dX5_note_6 : decode cX5_note 6 = .ok (.if_icmp .ge 13, 3) := by decide +kernel
theorem dX5_note_9 : decode cX5_note 9 = .ok (.aload_n 0, 1) := by decide +kernel
theorem dX5_note_10 : decode cX5_note 10 = .ok (.getfield 19, 3) := by decide +kernel
theorem dX5_note_13 : decode cX5_note 13 = .ok (.aload_n 0, 1) := by decide +kernel
theorem dX5_note_14 : decode cX5_note 14 = .ok (.getfield 22, 3) := by decide +kernel
theorem dX5_note_17 : decode cX5_note 17 = .ok (.iload_n 1, 1) := by decide +kernel
theorem dX5_note_18 : decode cX5_note 18 = .ok (.iastore, 1) := by decide +kernel
theorem dX5_note_19 : decode cX5_note 19 = .ok (.aload_n 0, 1) := by decide +kernel
theorem dX5_note_20 : decode cX5_note 20 = .ok (.dup, 1) := by decide +kernel
theorem dX5_note_21 : decode cX5_note 21 = .ok (.getfield 22, 3) := by decide +kernel
theorem dX5_note_24 : decode cX5_note 24 = .ok (.iconst 1, 1) := by decide +kernel
theorem dX5_note_25 : decode cX5_note 25 = .ok (.iadd, 1) := by decide +kernel
theorem dX5_note_26 : decode cX5_note 26 = .ok (.putfield 22, 3) := by decide +kernel
theorem dX5_note_29 : decode cX5_note 29 = .ok (.return_, 1) := by decide +kernel
theorem dX6_init_0 : decode cX6_init 0 = .ok (.aload_n 0, 1) := by decide +kernel
theorem dX6_init_1 : decode cX6_init 1 = .ok (.invokespecial 3, 3) := by decide +kernel
theorem dX6_init_4 : decode cX6_init 4 = .ok (.aload_n 0, 1) := by decide +kernel
theorem dX6_init_5 : decode cX6_init 5 = .ok (.bipush 72, 2) := by decide +kernel
theorem dX6_init_7 : decode cX6_init 7 = .ok (.newarray .int, 2) := by decide +kernel
theorem dX6_init_9 : decode cX6_init 9 = .ok (.putfield 11, 3) := by decide +kernel
theorem dX6_init_12 : decode cX6_init 12 = .ok (.aload_n 0, 1) := by decide +kernel
theorem dX6_init_13 : decode cX6_init 13 = .ok (.sipush 2304, 3) := by decide +kernel
theorem dX6_init_16 : decode cX6_init 16 = .ok (.newarray .int, 2) := by decide +kernel
theorem dX6_init_18 : decode cX6_init 18 = .ok (.putfield 15, 3) := by decide +kernel
theorem dX6_init_21 : decode cX6_init 21 = .ok (.aload_n 0, 1) := by decide +kernel
theorem dX6_init_22 : decode cX6_init 22 = .ok (.bipush 8, 2) := by decide +kernel
theorem dX6_init_24 : decode cX6_init 24 = .ok (.newarray .int, 2) := by decide +kernel
theorem dX6_init_26 : decode cX6_init 26 = .ok (.putfield 18, 3) := by decide +kernel
theorem dX6_init_29 : decode cX6_init 29 = .ok (.aload_n 0, 1) := by decide +kernel
theorem dX6_init_30 : decode cX6_init 30 = .ok (.aload_n 1, 1) := by decide +kernel
theorem dX6_init_31 : decode cX6_init 31 = .ok (.putfield 21, 3) := by decide +kernel
theorem dX6_init_34 : decode cX6_init 34 = .ok (.return_, 1) := by decide +kernel
theorem dX6_asManyAsCanBe_0 : decode cX6_asManyAsCanBe 0 = .ok (.iconst 0, 1) := by decide +kernel
theorem dX6_asManyAsCanBe_1 : decode cX6_asManyAsCanBe 1 = .ok (.istore_n 1, 1) := by decide +kernel
theorem dX6_asManyAsCanBe_2 : decode cX6_asManyAsCanBe 2 = .ok (.iload_n 1, 1) := by decide +kernel
theorem dX6_asManyAsCanBe_3 : decode cX6_asManyAsCanBe 3 = .ok (.aload_n 0, 1) := by decide +kernel
theorem dX6_asManyAsCanBe_4 : decode cX6_asManyAsCanBe 4 = .ok (.getfield 21, 3) := by decide +kernel
theorem dX6_asManyAsCanBe_7 : decode cX6_asManyAsCanBe 7 = .ok (.getfield 25, 3) := by decide +kernel
theorem dX6_asManyAsCanBe_10 : decode cX6_asManyAsCanBe 10 = .ok (.if_icmp .ge 69, 3) := by decide +kernel
theorem dX6_asManyAsCanBe_13 : decode cX6_asManyAsCanBe 13 = .ok (.iconst 0, 1) := by decide +kernel
theorem dX6_asManyAsCanBe_14 : decode cX6_asManyAsCanBe 14 = .ok (.istore_n 2, 1) := by decide +kernel
theorem dX6_asManyAsCanBe_15 : decode cX6_asManyAsCanBe 15 = .ok (.iload_n 2, 1) := by decide +kernel
theorem dX6_asManyAsCanBe_16 : decode cX6_asManyAsCanBe 16 = .ok (.aload_n 0, 1) := by decide +kernel
theorem dX6_asManyAsCanBe_17 : decode cX6_asManyAsCanBe 17 = .ok (.getfield 21, 3) := by decide +kernel
theorem dX6_asManyAsCanBe_20 : decode cX6_asManyAsCanBe 20 = .ok (.getfield 25, 3) := by decide +kernel
theorem dX6_asManyAsCanBe_23 : decode cX6_asManyAsCanBe 23 = .ok (.if_icmp .ge 42, 3) := by decide +kernel
theorem dX6_asManyAsCanBe_26 : decode cX6_asManyAsCanBe 26 = .ok (.aload_n 0, 1) := by decide +kernel
theorem dX6_asManyAsCanBe_27 : decode cX6_asManyAsCanBe 27 = .ok (.iload_n 1, 1) := by decide +kernel
theorem dX6_asManyAsCanBe_28 : decode cX6_asManyAsCanBe 28 = .ok (.iload_n 2, 1) := by decide +kernel
theorem dX6_asManyAsCanBe_29 : decode cX6_asManyAsCanBe 29 = .ok (.aload_n 0, 1) := by decide +kernel
theorem dX6_asManyAsCanBe_30 : decode cX6_asManyAsCanBe 30 = .ok (.getfield 21, 3) := by decide +kernel
theorem dX6_asManyAsCanBe_33 : decode cX6_asManyAsCanBe 33 = .ok (.iload_n 2, 1) := by decide +kernel
theorem dX6_asManyAsCanBe_34 : decode cX6_asManyAsCanBe 34 = .ok (.iload_n 1, 1) := by decide +kernel
theorem dX6_asManyAsCanBe_35 : decode cX6_asManyAsCanBe 35 = .ok (.invokevirtual 31, 3) := by decide +kernel
theorem dX6_asManyAsCanBe_38 : decode cX6_asManyAsCanBe 38 = .ok (.ifCond .ge 16, 3) := by decide +kernel
theorem dX6_asManyAsCanBe_41 : decode cX6_asManyAsCanBe 41 = .ok (.aload_n 0, 1) := by decide +kernel
theorem dX6_asManyAsCanBe_42 : decode cX6_asManyAsCanBe 42 = .ok (.iload_n 2, 1) := by decide +kernel
theorem dX6_asManyAsCanBe_43 : decode cX6_asManyAsCanBe 43 = .ok (.iload_n 1, 1) := by decide +kernel
theorem dX6_asManyAsCanBe_44 : decode cX6_asManyAsCanBe 44 = .ok (.invokevirtual 35, 3) := by decide +kernel
theorem dX6_asManyAsCanBe_47 : decode cX6_asManyAsCanBe 47 = .ok (.ifCond .eq 7, 3) := by decide +kernel
theorem dX6_asManyAsCanBe_50 : decode cX6_asManyAsCanBe 50 = .ok (.iconst 0, 1) := by decide +kernel
theorem dX6_asManyAsCanBe_51 : decode cX6_asManyAsCanBe 51 = .ok (.goto 5, 3) := by decide +kernel
theorem dX6_asManyAsCanBe_54 : decode cX6_asManyAsCanBe 54 = .ok (.ldc 39, 2) := by decide +kernel
theorem dX6_asManyAsCanBe_56 : decode cX6_asManyAsCanBe 56 = .ok (.invokevirtual 40, 3) := by decide +kernel
theorem dX6_asManyAsCanBe_59 : decode cX6_asManyAsCanBe 59 = .ok (.iinc 2 1, 3) := by decide +kernel
theorem dX6_asManyAsCanBe_62 : decode cX6_asManyAsCanBe 62 = .ok (.goto (-47), 3) := by decide +kernel
theorem dX6_asManyAsCanBe_65 : decode cX6_asManyAsCanBe 65 = .ok (.aload_n 0, 1) := by decide +kernel
theorem dX6_asManyAsCanBe_66 : decode cX6_asManyAsCanBe 66 = .ok (.iload_n 1, 1) := by decide +kernel
theorem dX6_asManyAsCanBe_67 : decode cX6_asManyAsCanBe 67 = .ok (.bipush 8, 2) := by decide +kernel
theorem dX6_asManyAsCanBe_69 : decode cX6_asManyAsCanBe 69 = .ok (.iconst 1, 1) := by decide +kernel
theorem dX6_asManyAsCanBe_70 : decode cX6_asManyAsCanBe 70 = .ok (.invokevirtual 40, 3) := by decide +kernel
theorem dX6_asManyAsCanBe_73 : decode cX6_asManyAsCanBe 73 = .ok (.iinc 1 1, 3) := by decide +kernel
theorem dX6_asManyAsCanBe_76 : decode cX6_asManyAsCanBe 76 = .ok (.goto (-74), 3) := by decide +kernel
theorem dX6_asManyAsCanBe_79 : decode cX6_asManyAsCanBe 79 = .ok (.aload_n 0, 1) := by decide +kernel
theorem dX6_asManyAsCanBe_80 : decode cX6_asManyAsCanBe 80 = .ok (.invokevirtual 44, 3) := by decide +kernel
theorem dX6_asManyAsCanBe_83 : decode cX6_asManyAsCanBe 83 = .ok (.return_, 1) := by decide +kernel
theorem dX6_atLeastHarm_0 : decode cX6_atLeastHarm 0 = .ok (.iconst 0, 1) := by decide +kernel
theorem dX6_atLeastHarm_1 : decode cX6_atLeastHarm 1 = .ok (.istore_n 1, 1) := by decide +kernel
theorem dX6_atLeastHarm_2 : decode cX6_atLeastHarm 2 = .ok (.iload_n 1, 1) := by decide +kernel
theorem dX6_atLeastHarm_3 : decode cX6_atLeastHarm 3 = .ok (.aload_n 0, 1) := by decide +kernel
theorem dX6_atLeastHarm_4 : decode cX6_atLeastHarm 4 = .ok (.getfield 21, 3) := by decide +kernel
theorem dX6_atLeastHarm_7 : decode cX6_atLeastHarm 7 = .ok (.getfield 25, 3) := by decide +kernel
theorem dX6_atLeastHarm_10 : decode cX6_atLeastHarm 10 = .ok (.if_icmp .ge 82, 3) := by decide +kernel
theorem dX6_atLeastHarm_13 : decode cX6_atLeastHarm 13 = .ok (.iconst 0, 1) := by decide +kernel
theorem dX6_atLeastHarm_14 : decode cX6_atLeastHarm 14 = .ok (.istore_n 2, 1) := by decide +kernel
theorem dX6_atLeastHarm_15 : decode cX6_atLeastHarm 15 = .ok (.iload_n 2, 1) := by decide +kernel
theorem dX6_atLeastHarm_16 : decode cX6_atLeastHarm 16 = .ok (.aload_n 0, 1) := by decide +kernel
theorem dX6_atLeastHarm_17 : decode cX6_atLeastHarm 17 = .ok (.getfield 21, 3) := by decide +kernel
theorem dX6_atLeastHarm_20 : decode cX6_atLeastHarm 20 = .ok (.getfield 25, 3) := by decide +kernel
theorem dX6_atLeastHarm_23 : decode cX6_atLeastHarm 23 = .ok (.if_icmp .ge 54, 3) := by decide +kernel
theorem dX6_atLeastHarm_26 : decode cX6_atLeastHarm 26 = .ok (.aload_n 0, 1) := by decide +kernel
theorem dX6_atLeastHarm_27 : decode cX6_atLeastHarm 27 = .ok (.getfield 21, 3) := by decide +kernel
theorem dX6_atLeastHarm_30 : decode cX6_atLeastHarm 30 = .ok (.iload_n 2, 1) := by decide +kernel
theorem dX6_atLeastHarm_31 : decode cX6_atLeastHarm 31 = .ok (.iload_n 1, 1) := by decide +kernel
theorem dX6_atLeastHarm_32 : decode cX6_atLeastHarm 32 = .ok (.invokevirtual 31, 3) := by decide +kernel
theorem dX6_atLeastHarm_35 : decode cX6_atLeastHarm 35 = .ok (.istore_n 3, 1) := by decide +kernel
theorem dX6_atLeastHarm_36 : decode cX6_atLeastHarm 36 = .ok (.iload_n 3, 1) := by decide +kernel
theorem dX6_atLeastHarm_37 : decode cX6_atLeastHarm 37 = .ok (.ifCond .ge 7, 3) := by decide +kernel
theorem dX6_atLeastHarm_40 : decode cX6_atLeastHarm 40 = .ok (.iconst 0, 1) := by decide +kernel
theorem dX6_atLeastHarm_41 : decode cX6_atLeastHarm 41 = .ok (.goto 6, 3) := by decide +kernel
theorem dX6_atLeastHarm_44 : decode cX6_atLeastHarm 44 = .ok (.iconst 1, 1) := by decide +kernel
theorem dX6_atLeastHarm_45 : decode cX6_atLeastHarm 45 = .ok (.iload_n 3, 1) := by decide +kernel
theorem dX6_atLeastHarm_46 : decode cX6_atLeastHarm 46 = .ok (.iadd, 1) := by decide +kernel
theorem dX6_atLeastHarm_47 : decode cX6_atLeastHarm 47 = .ok (.istore 4, 2) := by decide +kernel
theorem dX6_atLeastHarm_49 : decode cX6_atLeastHarm 49 = .ok (.aload_n 0, 1) := by decide +kernel
theorem dX6_atLeastHarm_50 : decode cX6_atLeastHarm 50 = .ok (.iload_n 1, 1) := by decide +kernel
theorem dX6_atLeastHarm_51 : decode cX6_atLeastHarm 51 = .ok (.iload_n 2, 1) := by decide +kernel
theorem dX6_atLeastHarm_52 : decode cX6_atLeastHarm 52 = .ok (.aload_n 0, 1) := by decide +kernel
theorem dX6_atLeastHarm_53 : decode cX6_atLeastHarm 53 = .ok (.iload_n 2, 1) := by decide +kernel
theorem dX6_atLeastHarm_54 : decode cX6_atLeastHarm 54 = .ok (.iload_n 1, 1) := by decide +kernel
theorem dX6_atLeastHarm_55 : decode cX6_atLeastHarm 55 = .ok (.invokevirtual 35, 3) := by decide +kernel
theorem dX6_atLeastHarm_58 : decode cX6_atLeastHarm 58 = .ok (.ifCond .eq 8, 3) := by decide +kernel
theorem dX6_atLeastHarm_61 : decode cX6_atLeastHarm 61 = .ok (.iload 4, 2) := by decide +kernel
theorem dX6_atLeastHarm_63 : decode cX6_atLeastHarm 63 = .ok (.goto 5, 3) := by decide +kernel
theorem dX6_atLeastHarm_66 : decode cX6_atLeastHarm 66 = .ok (.ldc 39, 2) := by decide +kernel
theorem dX6_atLeastHarm_68 : decode cX6_atLeastHarm 68 = .ok (.invokevirtual 40, 3) := by decide +kernel
theorem dX6_atLeastHarm_71 : decode cX6_atLeastHarm 71 = .ok (.iinc 2 1, 3) := by decide +kernel
theorem dX6_atLeastHarm_74 : decode cX6_atLeastHarm 74 = .ok (.goto (-59), 3) := by decide +kernel
theorem dX6_atLeastHarm_77 : decode cX6_atLeastHarm 77 = .ok (.aload_n 0, 1) := by decide +kernel
theorem dX6_atLeastHarm_78 : decode cX6_atLeastHarm 78 = .ok (.iload_n 1, 1) := by decide +kernel
theorem dX6_atLeastHarm_79 : decode cX6_atLeastHarm 79 = .ok (.bipush 8, 2) := by decide +kernel
theorem dX6_atLeastHarm_81 : decode cX6_atLeastHarm 81 = .ok (.ldc 39, 2) := by decide +kernel
theorem dX6_atLeastHarm_83 : decode cX6_atLeastHarm 83 = .ok (.invokevirtual 40, 3) := by decide +kernel
theorem dX6_atLeastHarm_86 : decode cX6_atLeastHarm 86 = .ok (.iinc 1 1, 3) := by decide +kernel
theorem dX6_atLeastHarm_89 : decode cX6_atLeastHarm 89 = .ok (.goto (-87), 3) := by decide +kernel
theorem dX6_atLeastHarm_92 : decode cX6_atLeastHarm 92 = .ok (.aload_n 0, 1) := by decide +kernel
theorem dX6_atLeastHarm_93 : decode cX6_atLeastHarm 93 = .ok (.invokevirtual 44, 3) := by decide +kernel
theorem dX6_atLeastHarm_96 : decode cX6_atLeastHarm 96 = .ok (.return_, 1) := by decide +kernel
theorem dX6_isThereAWay_0 : decode cX6_isThereAWay 0 = .ok (.aload_n 0, 1) := by decide +kernel
theorem dX6_isThereAWay_1 : decode cX6_isThereAWay 1 = .ok (.invokevirtual 47, 3) := by decide +kernel
theorem dX6_isThereAWay_4 : decode cX6_isThereAWay 4 = .ok (.ldc 39, 2) := by decide +kernel
theorem dX6_isThereAWay_6 : decode cX6_isThereAWay 6 = .ok (.if_icmp .ge 7, 3) := by decide +kernel
theorem dX6_isThereAWay_9 : decode cX6_isThereAWay 9 = .ok (.iconst 1, 1) := by decide +kernel
theorem dX6_isThereAWay_10 : decode cX6_isThereAWay 10 = .ok (.goto 4, 3) := by decide +kernel
theorem dX6_isThereAWay_13 : decode cX6_isThereAWay 13 = .ok (.iconst 0, 1) := by decide +kernel
theorem dX6_isThereAWay_14 : decode cX6_isThereAWay 14 = .ok (.ireturn, 1) := by decide +kernel
theorem dX6_price_0 : decode cX6_price 0 = .ok (.aload_n 0, 1) := by decide +kernel
theorem dX6_price_1 : decode cX6_price 1 = .ok (.getfield 15, 3) := by decide +kernel
theorem dX6_price_4 : decode cX6_price 4 = .ok (.iconst 0, 1) := by decide +kernel
theorem dX6_price_5 : decode cX6_price 5 = .ok (.iaload, 1) := by decide +kernel
theorem dX6_price_6 : decode cX6_price 6 = .ok (.ireturn, 1) := by decide +kernel
theorem dX6_weigherOf_0 : decode cX6_weigherOf 0 = .ok (.iload_n 1, 1) := by decide +kernel
theorem dX6_weigherOf_1 : decode cX6_weigherOf 1 = .ok (.ifCond .lt 18, 3) := by decide +kernel
theorem dX6_weigherOf_4 : decode cX6_weigherOf 4 = .ok (.iload_n 1, 1) := by decide +kernel
theorem dX6_weigherOf_5 : decode cX6_weigherOf 5 = .ok (.bipush 8, 2) := by decide +kernel
theorem dX6_weigherOf_7 : decode cX6_weigherOf 7 = .ok (.if_icmp .ge 12, 3) := by decide +kernel
theorem dX6_weigherOf_10 : decode cX6_weigherOf 10 = .ok (.aload_n 0, 1) := by decide +kernel
theorem dX6_weigherOf_11 : decode cX6_weigherOf 11 = .ok (.getfield 18, 3) := by decide +kernel
theorem dX6_weigherOf_14 : decode cX6_weigherOf 14 = .ok (.iload_n 1, 1) := by decide +kernel
theorem dX6_weigherOf_15 : decode cX6_weigherOf 15 = .ok (.iaload, 1) := by decide +kernel
theorem dX6_weigherOf_16 : decode cX6_weigherOf 16 = .ok (.goto 5, 3) := by decide +kernel
theorem dX6_weigherOf_19 : decode cX6_weigherOf 19 = .ok (.bipush 8, 2) := by decide +kernel
theorem dX6_weigherOf_21 : decode cX6_weigherOf 21 = .ok (.ireturn, 1) := by decide +kernel
theorem dX6_mayWeigh_0 : decode cX6_mayWeigh 0 = .ok (.iload_n 1, 1) := by decide +kernel
theorem dX6_mayWeigh_1 : decode cX6_mayWeigh 1 = .ok (.iload_n 2, 1) := by decide +kernel
theorem dX6_mayWeigh_2 : decode cX6_mayWeigh 2 = .ok (.if_icmp .eq 21, 3) := by decide +kernel
theorem dX6_mayWeigh_5 : decode cX6_mayWeigh 5 = .ok (.aload_n 0, 1) := by decide +kernel
theorem dX6_mayWeigh_6 : decode cX6_mayWeigh 6 = .ok (.getfield 21, 3) := by decide +kernel
theorem dX6_mayWeigh_9 : decode cX6_mayWeigh 9 = .ok (.iload_n 2, 1) := by decide +kernel
theorem dX6_mayWeigh_10 : decode cX6_mayWeigh 10 = .ok (.iload_n 1, 1) := by decide +kernel
theorem dX6_mayWeigh_11 : decode cX6_mayWeigh 11 = .ok (.invokevirtual 51, 3) := by decide +kernel
theorem dX6_mayWeigh_14 : decode cX6_mayWeigh 14 = .ok (.bipush 8, 2) := by decide +kernel
theorem dX6_mayWeigh_16 : decode cX6_mayWeigh 16 = .ok (.if_icmp .eq 7, 3) := by decide +kernel
theorem dX6_mayWeigh_19 : decode cX6_mayWeigh 19 = .ok (.iconst 1, 1) := by decide +kernel
theorem dX6_mayWeigh_20 : decode cX6_mayWeigh 20 = .ok (.goto 4, 3) := by decide +kernel
theorem dX6_mayWeigh_23 : decode cX6_mayWeigh 23 = .ok (.iconst 0, 1) := by decide +kernel
theorem dX6_mayWeigh_24 : decode cX6_mayWeigh 24 = .ok (.ireturn, 1) := by decide +kernel
theorem dX6_setPrice_0 : decode cX6_setPrice 0 = .ok (.iload_n 1, 1) := by decide +kernel
theorem dX6_setPrice_1 : decode cX6_setPrice 1 = .ok (.bipush 9, 2) := by decide +kernel
theorem dX6_setPrice_3 : decode cX6_setPrice 3 = .ok (.imul, 1) := by decide +kernel
theorem dX6_setPrice_4 : decode cX6_setPrice 4 = .ok (.iload_n 2, 1) := by decide +kernel
theorem dX6_setPrice_5 : decode cX6_setPrice 5 = .ok (.iadd, 1) := by decide +kernel
theorem dX6_setPrice_6 : decode cX6_setPrice 6 = .ok (.istore 4, 2) := by decide +kernel
theorem dX6_setPrice_8 : decode cX6_setPrice 8 = .ok (.iload 4, 2) := by decide +kernel
theorem dX6_setPrice_10 : decode cX6_setPrice 10 = .ok (.ifCond .lt 21, 3) := by decide +kernel
theorem dX6_setPrice_13 : decode cX6_setPrice 13 = .ok (.iload 4, 2) := by decide +kernel
theorem dX6_setPrice_15 : decode cX6_setPrice 15 = .ok (.aload_n 0, 1) := by decide +kernel
theorem dX6_setPrice_16 : decode cX6_setPrice 16 = .ok (.getfield 11, 3) := by decide +kernel
theorem dX6_setPrice_19 : decode cX6_setPrice 19 = .ok (.arraylength, 1) := by decide +kernel
theorem dX6_setPrice_20 : decode cX6_setPrice 20 = .ok (.if_icmp .ge 11, 3) := by decide +kernel
theorem dX6_setPrice_23 : decode cX6_setPrice 23 = .ok (.aload_n 0, 1) := by decide +kernel
theorem dX6_setPrice_24 : decode cX6_setPrice 24 = .ok (.getfield 11, 3) := by decide +kernel
theorem dX6_setPrice_27 : decode cX6_setPrice 27 = .ok (.iload 4, 2) := by decide +kernel
theorem dX6_setPrice_29 : decode cX6_setPrice 29 = .ok (.iload_n 3, 1) := by decide +kernel
theorem dX6_setPrice_30 : decode cX6_setPrice 30 = .ok (.iastore, 1) := by decide +kernel
theorem dX6_setPrice_31 : decode cX6_setPrice 31 = .ok (.return_, 1) := by decide +kernel
theorem dX6_settle_0 : decode cX6_settle 0 = .ok (.aload_n 0, 1) := by decide +kernel
theorem dX6_settle_1 : decode cX6_settle 1 = .ok (.getfield 21, 3) := by decide +kernel
theorem dX6_settle_4 : decode cX6_settle 4 = .ok (.getfield 25, 3) := by decide +kernel
theorem dX6_settle_7 : decode cX6_settle 7 = .ok (.istore_n 1, 1) := by decide +kernel
theorem dX6_settle_8 : decode cX6_settle 8 = .ok (.iconst 1, 1) := by decide +kernel
theorem dX6_settle_9 : decode cX6_settle 9 = .ok (.iload_n 1, 1) := by decide +kernel
theorem dX6_settle_10 : decode cX6_settle 10 = .ok (.ishl, 1) := by decide +kernel
theorem dX6_settle_11 : decode cX6_settle 11 = .ok (.istore_n 2, 1) := by decide +kernel
theorem dX6_settle_12 : decode cX6_settle 12 = .ok (.iconst 0, 1) := by decide +kernel
theorem dX6_settle_13 : decode cX6_settle 13 = .ok (.istore_n 3, 1) := by decide +kernel
theorem dX6_settle_14 : decode cX6_settle 14 = .ok (.iload_n 3, 1) := by decide +kernel
theorem dX6_settle_15 : decode cX6_settle 15 = .ok (.iload_n 2, 1) := by decide +kernel
theorem dX6_settle_16 : decode cX6_settle 16 = .ok (.if_icmp .ge 16, 3) := by decide +kernel
theorem dX6_settle_19 : decode cX6_settle 19 = .ok (.aload_n 0, 1) := by decide +kernel
theorem dX6_settle_20 : decode cX6_settle 20 = .ok (.iload_n 1, 1) := by decide +kernel
theorem dX6_settle_21 : decode cX6_settle 21 = .ok (.iload_n 3, 1) := by decide +kernel
theorem dX6_settle_22 : decode cX6_settle 22 = .ok (.iconst 0, 1) := by decide +kernel
theorem dX6_settle_23 : decode cX6_settle 23 = .ok (.invokevirtual 54, 3) := by decide +kernel
theorem dX6_settle_26 : decode cX6_settle 26 = .ok (.iinc 3 1, 3) := by decide +kernel
theorem dX6_settle_29 : decode cX6_settle 29 = .ok (.goto (-15), 3) := by decide +kernel
theorem dX6_settle_32 : decode cX6_settle 32 = .ok (.iload_n 1, 1) := by decide +kernel
theorem dX6_settle_33 : decode cX6_settle 33 = .ok (.iconst 1, 1) := by decide +kernel
theorem dX6_settle_34 : decode cX6_settle 34 = .ok (.isub, 1) := by decide +kernel
theorem dX6_settle_35 : decode cX6_settle 35 = .ok (.istore_n 3, 1) := by decide +kernel
theorem dX6_settle_36 : decode cX6_settle 36 = .ok (.iload_n 3, 1) := by decide +kernel
theorem dX6_settle_37 : decode cX6_settle 37 = .ok (.ifCond .lt 45, 3) := by decide +kernel
theorem dX6_settle_40 : decode cX6_settle 40 = .ok (.iconst 0, 1) := by decide +kernel
theorem dX6_settle_41 : decode cX6_settle 41 = .ok (.istore 4, 2) := by decide +kernel
theorem dX6_settle_43 : decode cX6_settle 43 = .ok (.iload 4, 2) := by decide +kernel
theorem dX6_settle_45 : decode cX6_settle 45 = .ok (.iload_n 2, 1) := by decide +kernel
theorem dX6_settle_46 : decode cX6_settle 46 = .ok (.if_icmp .ge 30, 3) := by decide +kernel
theorem dX6_settle_49 : decode cX6_settle 49 = .ok (.aload_n 0, 1) := by decide +kernel
theorem dX6_settle_50 : decode cX6_settle 50 = .ok (.iload_n 3, 1) := by decide +kernel
theorem dX6_settle_51 : decode cX6_settle 51 = .ok (.iload 4, 2) := by decide +kernel
theorem dX6_settle_53 : decode cX6_settle 53 = .ok (.aload_n 0, 1) := by decide +kernel
theorem dX6_settle_54 : decode cX6_settle 54 = .ok (.iload_n 3, 1) := by decide +kernel
theorem dX6_settle_55 : decode cX6_settle 55 = .ok (.iload 4, 2) := by decide +kernel
theorem dX6_settle_57 : decode cX6_settle 57 = .ok (.aload_n 0, 1) := by decide +kernel
theorem dX6_settle_58 : decode cX6_settle 58 = .ok (.iload_n 3, 1) := by decide +kernel
theorem dX6_settle_59 : decode cX6_settle 59 = .ok (.iload 4, 2) := by decide +kernel
theorem dX6_settle_61 : decode cX6_settle 61 = .ok (.invokevirtual 57, 3) := by decide +kernel
theorem dX6_settle_64 : decode cX6_settle 64 = .ok (.invokevirtual 60, 3) := by decide +kernel
theorem dX6_settle_67 : decode cX6_settle 67 = .ok (.invokevirtual 54, 3) := by decide +kernel
theorem dX6_settle_70 : decode cX6_settle 70 = .ok (.iinc 4 1, 3) := by decide +kernel
theorem dX6_settle_73 : decode cX6_settle 73 = .ok (.goto (-30), 3) := by decide +kernel
theorem dX6_settle_76 : decode cX6_settle 76 = .ok (.iinc 3 (-1), 3) := by decide +kernel
theorem dX6_settle_79 : decode cX6_settle 79 = .ok (.goto (-43), 3) := by decide +kernel
theorem dX6_settle_82 : decode cX6_settle 82 = .ok (.iconst 0, 1) := by decide +kernel
theorem dX6_settle_83 : decode cX6_settle 83 = .ok (.istore_n 3, 1) := by decide +kernel
theorem dX6_settle_84 : decode cX6_settle 84 = .ok (.iconst 0, 1) := by decide +kernel
theorem dX6_settle_85 : decode cX6_settle 85 = .ok (.istore 4, 2) := by decide +kernel
theorem dX6_settle_87 : decode cX6_settle 87 = .ok (.iload 4, 2) := by decide +kernel
theorem dX6_settle_89 : decode cX6_settle 89 = .ok (.iload_n 1, 1) := by decide +kernel
theorem dX6_settle_90 : decode cX6_settle 90 = .ok (.if_icmp .ge 52, 3) := by decide +kernel
theorem dX6_settle_93 : decode cX6_settle 93 = .ok (.iload 4, 2) := by decide +kernel
theorem dX6_settle_95 : decode cX6_settle 95 = .ok (.bipush 8, 2) := by decide +kernel
theorem dX6_settle_97 : decode cX6_settle 97 = .ok (.if_icmp .ge 45, 3) := by decide +kernel
theorem dX6_settle_100 : decode cX6_settle 100 = .ok (.aload_n 0, 1) := by decide +kernel
theorem dX6_settle_101 : decode cX6_settle 101 = .ok (.iload 4, 2) := by decide +kernel
theorem dX6_settle_103 : decode cX6_settle 103 = .ok (.iload_n 3, 1) := by decide +kernel
theorem dX6_settle_104 : decode cX6_settle 104 = .ok (.invokevirtual 57, 3) := by decide +kernel
theorem dX6_settle_107 : decode cX6_settle 107 = .ok (.istore 5, 2) := by decide +kernel
theorem dX6_settle_109 : decode cX6_settle 109 = .ok (.aload_n 0, 1) := by decide +kernel
theorem dX6_settle_110 : decode cX6_settle 110 = .ok (.getfield 18, 3) := by decide +kernel
theorem dX6_settle_113 : decode cX6_settle 113 = .ok (.iload 4, 2) := by decide +kernel
theorem dX6_settle_115 : decode cX6_settle 115 = .ok (.iload 5, 2) := by decide +kernel
theorem dX6_settle_117 : decode cX6_settle 117 = .ok (.iastore, 1) := by decide +kernel
theorem dX6_settle_118 : decode cX6_settle 118 = .ok (.iload_n 3, 1) := by decide +kernel
theorem dX6_settle_119 : decode cX6_settle 119 = .ok (.iload 5, 2) := by decide +kernel
theorem dX6_settle_121 : decode cX6_settle 121 = .ok (.bipush 8, 2) := by decide +kernel
theorem dX6_settle_123 : decode cX6_settle 123 = .ok (.if_icmp .ne 7, 3) := by decide +kernel
theorem dX6_settle_126 : decode cX6_settle 126 = .ok (.iconst 0, 1) := by decide +kernel
theorem dX6_settle_127 : decode cX6_settle 127 = .ok (.goto 7, 3) := by decide +kernel
theorem dX6_settle_130 : decode cX6_settle 130 = .ok (.iconst 1, 1) := by decide +kernel
theorem dX6_settle_131 : decode cX6_settle 131 = .ok (.iload 5, 2) := by decide +kernel
theorem dX6_settle_133 : decode cX6_settle 133 = .ok (.ishl, 1) := by decide +kernel
theorem dX6_settle_134 : decode cX6_settle 134 = .ok (.ior, 1) := by decide +kernel
theorem dX6_settle_135 : decode cX6_settle 135 = .ok (.istore_n 3, 1) := by decide +kernel
theorem dX6_settle_136 : decode cX6_settle 136 = .ok (.iinc 4 1, 3) := by decide +kernel
theorem dX6_settle_139 : decode cX6_settle 139 = .ok (.goto (-52), 3) := by decide +kernel
theorem dX6_settle_142 : decode cX6_settle 142 = .ok (.return_, 1) := by decide +kernel
theorem dX6_cheapest_0 : decode cX6_cheapest 0 = .ok (.bipush 8, 2) := by decide +kernel
theorem dX6_cheapest_2 : decode cX6_cheapest 2 = .ok (.istore_n 3, 1) := by decide +kernel
theorem dX6_cheapest_3 : decode cX6_cheapest 3 = .ok (.ldc 64, 2) := by decide +kernel
theorem dX6_cheapest_5 : decode cX6_cheapest 5 = .ok (.istore 4, 2) := by decide +kernel
theorem dX6_cheapest_7 : decode cX6_cheapest 7 = .ok (.iconst 0, 1) := by decide +kernel
theorem dX6_cheapest_8 : decode cX6_cheapest 8 = .ok (.istore 5, 2) := by decide +kernel
theorem dX6_cheapest_10 : decode cX6_cheapest 10 = .ok (.iload 5, 2) := by decide +kernel
theorem dX6_cheapest_12 : decode cX6_cheapest 12 = .ok (.aload_n 0, 1) := by decide +kernel
theorem dX6_cheapest_13 : decode cX6_cheapest 13 = .ok (.getfield 21, 3) := by decide +kernel
theorem dX6_cheapest_16 : decode cX6_cheapest 16 = .ok (.getfield 25, 3) := by decide +kernel
theorem dX6_cheapest_19 : decode cX6_cheapest 19 = .ok (.if_icmp .ge 33, 3) := by decide +kernel
theorem dX6_cheapest_22 : decode cX6_cheapest 22 = .ok (.aload_n 0, 1) := by decide +kernel
theorem dX6_cheapest_23 : decode cX6_cheapest 23 = .ok (.iload_n 1, 1) := by decide +kernel
theorem dX6_cheapest_24 : decode cX6_cheapest 24 = .ok (.iload_n 2, 1) := by decide +kernel
theorem dX6_cheapest_25 : decode cX6_cheapest 25 = .ok (.iload 5, 2) := by decide +kernel
theorem dX6_cheapest_27 : decode cX6_cheapest 27 = .ok (.invokevirtual 60, 3) := by decide +kernel
theorem dX6_cheapest_30 : decode cX6_cheapest 30 = .ok (.istore 6, 2) := by decide +kernel
theorem dX6_cheapest_32 : decode cX6_cheapest 32 = .ok (.iload 6, 2) := by decide +kernel
theorem dX6_cheapest_34 : decode cX6_cheapest 34 = .ok (.iload 4, 2) := by decide +kernel
theorem dX6_cheapest_36 : decode cX6_cheapest 36 = .ok (.if_icmp .ge 10, 3) := by decide +kernel
theorem dX6_cheapest_39 : decode cX6_cheapest 39 = .ok (.iload 5, 2) := by decide +kernel
theorem dX6_cheapest_41 : decode cX6_cheapest 41 = .ok (.istore_n 3, 1) := by decide +kernel
theorem dX6_cheapest_42 : decode cX6_cheapest 42 = .ok (.iload 6, 2) := by decide +kernel
theorem dX6_cheapest_44 : decode cX6_cheapest 44 = .ok (.istore 4, 2) := by decide +kernel
theorem dX6_cheapest_46 : decode cX6_cheapest 46 = .ok (.iinc 5 1, 3) := by decide +kernel
theorem dX6_cheapest_49 : decode cX6_cheapest 49 = .ok (.goto (-39), 3) := by decide +kernel
theorem dX6_cheapest_52 : decode cX6_cheapest 52 = .ok (.aload_n 0, 1) := by decide +kernel
theorem dX6_cheapest_53 : decode cX6_cheapest 53 = .ok (.iload_n 1, 1) := by decide +kernel
theorem dX6_cheapest_54 : decode cX6_cheapest 54 = .ok (.iload_n 2, 1) := by decide +kernel
theorem dX6_cheapest_55 : decode cX6_cheapest 55 = .ok (.bipush 8, 2) := by decide +kernel
theorem dX6_cheapest_57 : decode cX6_cheapest 57 = .ok (.invokevirtual 60, 3) := by decide +kernel
theorem dX6_cheapest_60 : decode cX6_cheapest 60 = .ok (.iload 4, 2) := by decide +kernel
theorem dX6_cheapest_62 : decode cX6_cheapest 62 = .ok (.if_icmp .ge 8, 3) := by decide +kernel
theorem dX6_cheapest_65 : decode cX6_cheapest 65 = .ok (.bipush 8, 2) := by decide +kernel
theorem dX6_cheapest_67 : decode cX6_cheapest 67 = .ok (.goto 4, 3) := by decide +kernel
theorem dX6_cheapest_70 : decode cX6_cheapest 70 = .ok (.iload_n 3, 1) := by decide +kernel
theorem dX6_cheapest_71 : decode cX6_cheapest 71 = .ok (.ireturn, 1) := by decide +kernel
theorem dX6_priceBy_0 : decode cX6_priceBy 0 = .ok (.iload_n 1, 1) := by decide +kernel
theorem dX6_priceBy_1 : decode cX6_priceBy 1 = .ok (.bipush 9, 2) := by decide +kernel
theorem dX6_priceBy_3 : decode cX6_priceBy 3 = .ok (.imul, 1) := by decide +kernel
theorem dX6_priceBy_4 : decode cX6_priceBy 4 = .ok (.iload_n 3, 1) := by decide +kernel
theorem dX6_priceBy_5 : decode cX6_priceBy 5 = .ok (.iadd, 1) := by decide +kernel
theorem dX6_priceBy_6 : decode cX6_priceBy 6 = .ok (.istore 4, 2) := by decide +kernel
theorem dX6_priceBy_8 : decode cX6_priceBy 8 = .ok (.iload_n 3, 1) := by decide +kernel
theorem dX6_priceBy_9 : decode cX6_priceBy 9 = .ok (.bipush 8, 2) := by decide +kernel
theorem dX6_priceBy_11 : decode cX6_priceBy 11 = .ok (.if_icmp .eq 16, 3) := by decide +kernel
theorem dX6_priceBy_14 : decode cX6_priceBy 14 = .ok (.iload_n 2, 1) := by decide +kernel
theorem dX6_priceBy_15 : decode cX6_priceBy 15 = .ok (.iload_n 3, 1) := by decide +kernel
theorem dX6_priceBy_16 : decode cX6_priceBy 16 = .ok (.ishr, 1) := by decide +kernel
theorem dX6_priceBy_17 : decode cX6_priceBy 17 = .ok (.iconst 1, 1) := by decide +kernel
theorem dX6_priceBy_18 : decode cX6_priceBy 18 = .ok (.iand, 1) := by decide +kernel
theorem dX6_priceBy_19 : decode cX6_priceBy 19 = .ok (.iconst 1, 1) := by decide +kernel
theorem dX6_priceBy_20 : decode cX6_priceBy 20 = .ok (.if_icmp .ne 7, 3) := by decide +kernel
theorem dX6_priceBy_23 : decode cX6_priceBy 23 = .ok (.iconst 1, 1) := by decide +kernel
theorem dX6_priceBy_24 : decode cX6_priceBy 24 = .ok (.goto 4, 3) := by decide +kernel
theorem dX6_priceBy_27 : decode cX6_priceBy 27 = .ok (.iconst 0, 1) := by decide +kernel
theorem dX6_priceBy_28 : decode cX6_priceBy 28 = .ok (.istore 5, 2) := by decide +kernel
theorem dX6_priceBy_30 : decode cX6_priceBy 30 = .ok (.iload 5, 2) := by decide +kernel
theorem dX6_priceBy_32 : decode cX6_priceBy 32 = .ok (.ifCond .ne 18, 3) := by decide +kernel
theorem dX6_priceBy_35 : decode cX6_priceBy 35 = .ok (.iload 4, 2) := by decide +kernel
theorem dX6_priceBy_37 : decode cX6_priceBy 37 = .ok (.ifCond .lt 13, 3) := by decide +kernel
theorem dX6_priceBy_40 : decode cX6_priceBy 40 = .ok (.iload 4, 2) := by decide +kernel
theorem dX6_priceBy_42 : decode cX6_priceBy 42 = .ok (.aload_n 0, 1) := by decide +kernel
theorem dX6_priceBy_43 : decode cX6_priceBy 43 = .ok (.getfield 11, 3) := by decide +kernel
theorem dX6_priceBy_46 : decode cX6_priceBy 46 = .ok (.arraylength, 1) := by decide +kernel
theorem dX6_priceBy_47 : decode cX6_priceBy 47 = .ok (.if_icmp .lt 6, 3) := by decide +kernel
theorem dX6_priceBy_50 : decode cX6_priceBy 50 = .ok (.ldc 39, 2) := by decide +kernel
theorem dX6_priceBy_52 : decode cX6_priceBy 52 = .ok (.ireturn, 1) := by decide +kernel
theorem dX6_priceBy_53 : decode cX6_priceBy 53 = .ok (.iload_n 1, 1) := by decide +kernel
theorem dX6_priceBy_54 : decode cX6_priceBy 54 = .ok (.iconst 1, 1) := by decide +kernel
theorem dX6_priceBy_55 : decode cX6_priceBy 55 = .ok (.iadd, 1) := by decide +kernel
theorem dX6_priceBy_56 : decode cX6_priceBy 56 = .ok (.sipush 256, 3) := by decide +kernel
theorem dX6_priceBy_59 : decode cX6_priceBy 59 = .ok (.imul, 1) := by decide +kernel
theorem dX6_priceBy_60 : decode cX6_priceBy 60 = .ok (.iload_n 3, 1) := by decide +kernel
theorem dX6_priceBy_61 : decode cX6_priceBy 61 = .ok (.bipush 8, 2) := by decide +kernel
theorem dX6_priceBy_63 : decode cX6_priceBy 63 = .ok (.if_icmp .ne 7, 3) := by decide +kernel
theorem dX6_priceBy_66 : decode cX6_priceBy 66 = .ok (.iload_n 2, 1) := by decide +kernel
theorem dX6_priceBy_67 : decode cX6_priceBy 67 = .ok (.goto 8, 3) := by decide +kernel
theorem dX6_priceBy_70 : decode cX6_priceBy 70 = .ok (.iload_n 2, 1) := by decide +kernel
theorem dX6_priceBy_71 : decode cX6_priceBy 71 = .ok (.iconst 1, 1) := by decide +kernel
theorem dX6_priceBy_72 : decode cX6_priceBy 72 = .ok (.iload_n 3, 1) := by decide +kernel
theorem dX6_priceBy_73 : decode cX6_priceBy 73 = .ok (.ishl, 1) := by decide +kernel
theorem dX6_priceBy_74 : decode cX6_priceBy 74 = .ok (.ior, 1) := by decide +kernel
theorem dX6_priceBy_75 : decode cX6_priceBy 75 = .ok (.iadd, 1) := by decide +kernel
theorem dX6_priceBy_76 : decode cX6_priceBy 76 = .ok (.istore 6, 2) := by decide +kernel
theorem dX6_priceBy_78 : decode cX6_priceBy 78 = .ok (.iload 6, 2) := by decide +kernel
theorem dX6_priceBy_80 : decode cX6_priceBy 80 = .ok (.ifCond .lt 23, 3) := by decide +kernel
theorem dX6_priceBy_83 : decode cX6_priceBy 83 = .ok (.iload 6, 2) := by decide +kernel
theorem dX6_priceBy_85 : decode cX6_priceBy 85 = .ok (.aload_n 0, 1) := by decide +kernel
theorem dX6_priceBy_86 : decode cX6_priceBy 86 = .ok (.getfield 15, 3) := by decide +kernel
theorem dX6_priceBy_89 : decode cX6_priceBy 89 = .ok (.arraylength, 1) := by decide +kernel
theorem dX6_priceBy_90 : decode cX6_priceBy 90 = .ok (.if_icmp .ge 13, 3) := by decide +kernel
theorem dX6_priceBy_93 : decode cX6_priceBy 93 = .ok (.aload_n 0, 1) := by decide +kernel
theorem dX6_priceBy_94 : decode cX6_priceBy 94 = .ok (.getfield 15, 3) := by decide +kernel
theorem dX6_priceBy_97 : decode cX6_priceBy 97 = .ok (.iload 6, 2) := by decide +kernel
theorem dX6_priceBy_99 : decode cX6_priceBy 99 = .ok (.iaload, 1) := by decide +kernel
theorem dX6_priceBy_100 : decode cX6_priceBy 100 = .ok (.goto 5, 3) := by decide +kernel
theorem dX6_priceBy_103 : decode cX6_priceBy 103 = .ok (.ldc 39, 2) := by decide +kernel
theorem dX6_priceBy_105 : decode cX6_priceBy 105 = .ok (.istore 7, 2) := by decide +kernel
theorem dX6_priceBy_107 : decode cX6_priceBy 107 = .ok (.aload_n 0, 1) := by decide +kernel
theorem dX6_priceBy_108 : decode cX6_priceBy 108 = .ok (.getfield 11, 3) := by decide +kernel
theorem dX6_priceBy_111 : decode cX6_priceBy 111 = .ok (.iload 4, 2) := by decide +kernel
theorem dX6_priceBy_113 : decode cX6_priceBy 113 = .ok (.iaload, 1) := by decide +kernel
theorem dX6_priceBy_114 : decode cX6_priceBy 114 = .ok (.iload 7, 2) := by decide +kernel
theorem dX6_priceBy_116 : decode cX6_priceBy 116 = .ok (.iadd, 1) := by decide +kernel
theorem dX6_priceBy_117 : decode cX6_priceBy 117 = .ok (.ldc 39, 2) := by decide +kernel
theorem dX6_priceBy_119 : decode cX6_priceBy 119 = .ok (.invokestatic 65, 3) := by decide +kernel
theorem dX6_priceBy_122 : decode cX6_priceBy 122 = .ok (.ireturn, 1) := by decide +kernel
theorem dX6_setLeast_0 : decode cX6_setLeast 0 = .ok (.iload_n 1, 1) := by decide +kernel
theorem dX6_setLeast_1 : decode cX6_setLeast 1 = .ok (.sipush 256, 3) := by decide +kernel
theorem dX6_setLeast_4 : decode cX6_setLeast 4 = .ok (.imul, 1) := by decide +kernel
theorem dX6_setLeast_5 : decode cX6_setLeast 5 = .ok (.iload_n 2, 1) := by decide +kernel
theorem dX6_setLeast_6 : decode cX6_setLeast 6 = .ok (.iadd, 1) := by decide +kernel
theorem dX6_setLeast_7 : decode cX6_setLeast 7 = .ok (.istore 4, 2) := by decide +kernel
theorem dX6_setLeast_9 : decode cX6_setLeast 9 = .ok (.iload 4, 2) := by decide +kernel
theorem dX6_setLeast_11 : decode cX6_setLeast 11 = .ok (.ifCond .lt 21, 3) := by decide +kernel
theorem dX6_setLeast_14 : decode cX6_setLeast 14 = .ok (.iload 4, 2) := by decide +kernel
theorem dX6_setLeast_16 : decode cX6_setLeast 16 = .ok (.aload_n 0, 1) := by decide +kernel
theorem dX6_setLeast_17 : decode cX6_setLeast 17 = .ok (.getfield 15, 3) := by decide +kernel
theorem dX6_setLeast_20 : decode cX6_setLeast 20 = .ok (.arraylength, 1) := by decide +kernel
theorem dX6_setLeast_21 : decode cX6_setLeast 21 = .ok (.if_icmp .ge 11, 3) := by decide +kernel
theorem dX6_setLeast_24 : decode cX6_setLeast 24 = .ok (.aload_n 0, 1) := by decide +kernel
theorem dX6_setLeast_25 : decode cX6_setLeast 25 = .ok (.getfield 15, 3) := by decide +kernel
theorem dX6_setLeast_28 : decode cX6_setLeast 28 = .ok (.iload 4, 2) := by decide +kernel
theorem dX6_setLeast_30 : decode cX6_setLeast 30 = .ok (.iload_n 3, 1) := by decide +kernel
theorem dX6_setLeast_31 : decode cX6_setLeast 31 = .ok (.iastore, 1) := by decide +kernel
theorem dX6_setLeast_32 : decode cX6_setLeast 32 = .ok (.return_, 1) := by decide +kernel
theorem dX7_init_0 : decode cX7_init 0 = .ok (.aload_n 0, 1) := by decide +kernel
theorem dX7_init_1 : decode cX7_init 1 = .ok (.invokespecial 3, 3) := by decide +kernel
theorem dX7_init_4 : decode cX7_init 4 = .ok (.aload_n 0, 1) := by decide +kernel
theorem dX7_init_5 : decode cX7_init 5 = .ok (.iconst 0, 1) := by decide +kernel
theorem dX7_init_6 : decode cX7_init 6 = .ok (.putfield 9, 3) := by decide +kernel
theorem dX7_init_9 : decode cX7_init 9 = .ok (.aload_n 0, 1) := by decide +kernel
theorem dX7_init_10 : decode cX7_init 10 = .ok (.bipush 8, 2) := by decide +kernel
theorem dX7_init_12 : decode cX7_init 12 = .ok (.newarray .int, 2) := by decide +kernel
theorem dX7_init_14 : decode cX7_init 14 = .ok (.putfield 15, 3) := by decide +kernel
theorem dX7_init_17 : decode cX7_init 17 = .ok (.aload_n 0, 1) := by decide +kernel
theorem dX7_init_18 : decode cX7_init 18 = .ok (.bipush 8, 2) := by decide +kernel
theorem dX7_init_20 : decode cX7_init 20 = .ok (.newarray .int, 2) := by decide +kernel
theorem dX7_init_22 : decode cX7_init 22 = .ok (.putfield 19, 3) := by decide +kernel
theorem dX7_init_25 : decode cX7_init 25 = .ok (.aload_n 0, 1) := by decide +kernel
theorem dX7_init_26 : decode cX7_init 26 = .ok (.bipush 8, 2) := by decide +kernel
theorem dX7_init_28 : decode cX7_init 28 = .ok (.newarray .int, 2) := by decide +kernel
theorem dX7_init_30 : decode cX7_init 30 = .ok (.putfield 22, 3) := by decide +kernel
theorem dX7_init_33 : decode cX7_init 33 = .ok (.aload_n 0, 1) := by decide +kernel
theorem dX7_init_34 : decode cX7_init 34 = .ok (.bipush 8, 2) := by decide +kernel
theorem dX7_init_36 : decode cX7_init 36 = .ok (.newarray .int, 2) := by decide +kernel
theorem dX7_init_38 : decode cX7_init 38 = .ok (.putfield 25, 3) := by decide +kernel
theorem dX7_init_41 : decode cX7_init 41 = .ok (.aload_n 0, 1) := by decide +kernel
theorem dX7_init_42 : decode cX7_init 42 = .ok (.iconst 0, 1) := by decide +kernel
theorem dX7_init_43 : decode cX7_init 43 = .ok (.putfield 28, 3) := by decide +kernel
theorem dX7_init_46 : decode cX7_init 46 = .ok (.aload_n 0, 1) := by decide +kernel
theorem dX7_init_47 : decode cX7_init 47 = .ok (.iconst 0, 1) := by decide +kernel
theorem dX7_init_48 : decode cX7_init 48 = .ok (.putfield 31, 3) := by decide +kernel
theorem dX7_init_51 : decode cX7_init 51 = .ok (.return_, 1) := by decide +kernel
theorem dX7_goBy_0 : decode cX7_goBy 0 = .ok (.aload_n 0, 1) := by decide +kernel
theorem dX7_goBy_1 : decode cX7_goBy 1 = .ok (.iconst 0, 1) := by decide +kernel
theorem dX7_goBy_2 : decode cX7_goBy 2 = .ok (.putfield 9, 3) := by decide +kernel
theorem dX7_goBy_5 : decode cX7_goBy 5 = .ok (.aload_n 0, 1) := by decide +kernel
theorem dX7_goBy_6 : decode cX7_goBy 6 = .ok (.iconst 0, 1) := by decide +kernel
theorem dX7_goBy_7 : decode cX7_goBy 7 = .ok (.putfield 28, 3) := by decide +kernel
theorem dX7_goBy_10 : decode cX7_goBy 10 = .ok (.aload_n 0, 1) := by decide +kernel
theorem dX7_goBy_11 : decode cX7_goBy 11 = .ok (.iconst 0, 1) := by decide +kernel
theorem dX7_goBy_12 : decode cX7_goBy 12 = .ok (.putfield 31, 3) := by decide +kernel
theorem dX7_goBy_15 : decode cX7_goBy 15 = .ok (.iconst 0, 1) := by decide +kernel
theorem dX7_goBy_16 : decode cX7_goBy 16 = .ok (.istore_n 3, 1) := by decide +kernel
theorem dX7_goBy_17 : decode cX7_goBy 17 = .ok (.iconst 0, 1) := by decide +kernel
theorem dX7_goBy_18 : decode cX7_goBy 18 = .ok (.istore 4, 2) := by decide +kernel
theorem dX7_goBy_20 : decode cX7_goBy 20 = .ok (.iload 4, 2) := by decide +kernel
theorem dX7_goBy_22 : decode cX7_goBy 22 = .ok (.aload_n 1, 1) := by decide +kernel
theorem dX7_goBy_23 : decode cX7_goBy 23 = .ok (.getfield 34, 3) := by decide +kernel
theorem dX7_goBy_26 : decode cX7_goBy 26 = .ok (.if_icmp .ge 31, 3) := by decide +kernel
theorem dX7_goBy_29 : decode cX7_goBy 29 = .ok (.aload_n 1, 1) := by decide +kernel
theorem dX7_goBy_30 : decode cX7_goBy 30 = .ok (.iload_n 3, 1) := by decide +kernel
theorem dX7_goBy_31 : decode cX7_goBy 31 = .ok (.invokestatic 39, 3) := by decide +kernel
theorem dX7_goBy_34 : decode cX7_goBy 34 = .ok (.istore 5, 2) := by decide +kernel
theorem dX7_goBy_36 : decode cX7_goBy 36 = .ok (.iload_n 3, 1) := by decide +kernel
theorem dX7_goBy_37 : decode cX7_goBy 37 = .ok (.iconst 1, 1) := by decide +kernel
theorem dX7_goBy_38 : decode cX7_goBy 38 = .ok (.iload 5, 2) := by decide +kernel
theorem dX7_goBy_40 : decode cX7_goBy 40 = .ok (.ishl, 1) := by decide +kernel
theorem dX7_goBy_41 : decode cX7_goBy 41 = .ok (.ior, 1) := by decide +kernel
theorem dX7_goBy_42 : decode cX7_goBy 42 = .ok (.istore_n 3, 1) := by decide +kernel
theorem dX7_goBy_43 : decode cX7_goBy 43 = .ok (.aload_n 0, 1) := by decide +kernel
theorem dX7_goBy_44 : decode cX7_goBy 44 = .ok (.aload_n 1, 1) := by decide +kernel
theorem dX7_goBy_45 : decode cX7_goBy 45 = .ok (.aload_n 2, 1) := by decide +kernel
theorem dX7_goBy_46 : decode cX7_goBy 46 = .ok (.iload 5, 2) := by decide +kernel
theorem dX7_goBy_48 : decode cX7_goBy 48 = .ok (.invokevirtual 43, 3) := by decide +kernel
theorem dX7_goBy_51 : decode cX7_goBy 51 = .ok (.iinc 4 1, 3) := by decide +kernel
theorem dX7_goBy_54 : decode cX7_goBy 54 = .ok (.goto (-34), 3) := by decide +kernel
theorem dX7_goBy_57 : decode cX7_goBy 57 = .ok (.aload_n 1, 1) := by decide +kernel
theorem dX7_goBy_58 : decode cX7_goBy 58 = .ok (.aload_n 0, 1) := by decide +kernel
theorem dX7_goBy_59 : decode cX7_goBy 59 = .ok (.getfield 28, 3) := by decide +kernel
theorem dX7_goBy_62 : decode cX7_goBy 62 = .ok (.invokevirtual 47, 3) := by decide +kernel
theorem dX7_goBy_65 : decode cX7_goBy 65 = .ok (.aload_n 0, 1) := by decide +kernel
theorem dX7_goBy_66 : decode cX7_goBy 66 = .ok (.getfield 9, 3) := by decide +kernel
theorem dX7_goBy_69 : decode cX7_goBy 69 = .ok (.ireturn, 1) := by decide +kernel
theorem dX7_hungriest_0 : decode cX7_hungriest 0 = .ok (.bipush 8, 2) := by decide +kernel
theorem dX7_hungriest_2 : decode cX7_hungriest 2 = .ok (.istore_n 2, 1) := by decide +kernel
theorem dX7_hungriest_3 : decode cX7_hungriest 3 = .ok (.iconst (-1), 1) := by decide +kernel
theorem dX7_hungriest_4 : decode cX7_hungriest 4 = .ok (.istore_n 3, 1) := by decide +kernel
theorem dX7_hungriest_5 : decode cX7_hungriest 5 = .ok (.iconst 0, 1) := by decide +kernel
theorem dX7_hungriest_6 : decode cX7_hungriest 6 = .ok (.istore 4, 2) := by decide +kernel
theorem dX7_hungriest_8 : decode cX7_hungriest 8 = .ok (.iload 4, 2) := by decide +kernel
theorem dX7_hungriest_10 : decode cX7_hungriest 10 = .ok (.aload_n 0, 1) := by decide +kernel
theorem dX7_hungriest_11 : decode cX7_hungriest 11 = .ok (.getfield 34, 3) := by decide +kernel
theorem dX7_hungriest_14 : decode cX7_hungriest 14 = .ok (.if_icmp .ge 38, 3) := by decide +kernel
theorem dX7_hungriest_17 : decode cX7_hungriest 17 = .ok (.aload_n 0, 1) := by decide +kernel
theorem dX7_hungriest_18 : decode cX7_hungriest 18 = .ok (.iload 4, 2) := by decide +kernel
theorem dX7_hungriest_20 : decode cX7_hungriest 20 = .ok (.invokevirtual 51, 3) := by decide +kernel
theorem dX7_hungriest_23 : decode cX7_hungriest 23 = .ok (.istore 5, 2) := by decide +kernel
theorem dX7_hungriest_25 : decode cX7_hungriest 25 = .ok (.iload_n 1, 1) := by decide +kernel
theorem dX7_hungriest_26 : decode cX7_hungriest 26 = .ok (.iload 4, 2) := by decide +kernel
theorem dX7_hungriest_28 : decode cX7_hungriest 28 = .ok (.ishr, 1) := by decide +kernel
theorem dX7_hungriest_29 : decode cX7_hungriest 29 = .ok (.iconst 1, 1) := by decide +kernel
theorem dX7_hungriest_30 : decode cX7_hungriest 30 = .ok (.iand, 1) := by decide +kernel
theorem dX7_hungriest_31 : decode cX7_hungriest 31 = .ok (.ifCond .ne 15, 3) := by decide +kernel
theorem dX7_hungriest_34 : decode cX7_hungriest 34 = .ok (.iload 5, 2) := by decide +kernel
theorem dX7_hungriest_36 : decode cX7_hungriest 36 = .ok (.iload_n 3, 1) := by decide +kernel
theorem dX7_hungriest_37 : decode cX7_hungriest 37 = .ok (.if_icmp .le 9, 3) := by decide +kernel
theorem dX7_hungriest_40 : decode cX7_hungriest 40 = .ok (.iload 4, 2) := by decide +kernel
theorem dX7_hungriest_42 : decode cX7_hungriest 42 = .ok (.istore_n 2, 1) := by decide +kernel
theorem dX7_hungriest_43 : decode cX7_hungriest 43 = .ok (.iload 5, 2) := by decide +kernel
theorem dX7_hungriest_45 : decode cX7_hungriest 45 = .ok (.istore_n 3, 1) := by decide +kernel
theorem dX7_hungriest_46 : decode cX7_hungriest 46 = .ok (.iinc 4 1, 3) := by decide +kernel
theorem dX7_hungriest_49 : decode cX7_hungriest 49 = .ok (.goto (-41), 3) := by decide +kernel
theorem dX7_hungriest_52 : decode cX7_hungriest 52 = .ok (.iload_n 2, 1) := by decide +kernel
theorem dX7_hungriest_53 : decode cX7_hungriest 53 = .ok (.ireturn, 1) := by decide +kernel
theorem dX7_serve_0 : decode cX7_serve 0 = .ok (.aload_n 1, 1) := by decide +kernel
theorem dX7_serve_1 : decode cX7_serve 1 = .ok (.iload_n 3, 1) := by decide +kernel
theorem dX7_serve_2 : decode cX7_serve 2 = .ok (.bipush 8, 2) := by decide +kernel
theorem dX7_serve_4 : decode cX7_serve 4 = .ok (.invokevirtual 55, 3) := by decide +kernel
theorem dX7_serve_7 : decode cX7_serve 7 = .ok (.istore 4, 2) := by decide +kernel
theorem dX7_serve_9 : decode cX7_serve 9 = .ok (.iload 4, 2) := by decide +kernel
theorem dX7_serve_11 : decode cX7_serve 11 = .ok (.bipush 8, 2) := by decide +kernel
theorem dX7_serve_13 : decode cX7_serve 13 = .ok (.if_icmp .eq 12, 3) := by decide +kernel
theorem dX7_serve_16 : decode cX7_serve 16 = .ok (.aload_n 0, 1) := by decide +kernel
theorem dX7_serve_17 : decode cX7_serve 17 = .ok (.getfield 9, 3) := by decide +kernel
theorem dX7_serve_20 : decode cX7_serve 20 = .ok (.bipush 8, 2) := by decide +kernel
theorem dX7_serve_22 : decode cX7_serve 22 = .ok (.if_icmp .lt 4, 3) := by decide +kernel
theorem dX7_serve_25 : decode cX7_serve 25 = .ok (.return_, 1) := by decide +kernel
theorem dX7_serve_26 : decode cX7_serve 26 = .ok (.aload_n 2, 1) := by decide +kernel
theorem dX7_serve_27 : decode cX7_serve 27 = .ok (.aload_n 1, 1) := by decide +kernel
theorem dX7_serve_28 : decode cX7_serve 28 = .ok (.iload 4, 2) := by decide +kernel
theorem dX7_serve_30 : decode cX7_serve 30 = .ok (.iload_n 3, 1) := by decide +kernel
theorem dX7_serve_31 : decode cX7_serve 31 = .ok (.invokevirtual 59, 3) := by decide +kernel
theorem dX7_serve_34 : decode cX7_serve 34 = .ok (.aload_n 1, 1) := by decide +kernel
theorem dX7_serve_35 : decode cX7_serve 35 = .ok (.iload_n 3, 1) := by decide +kernel
theorem dX7_serve_36 : decode cX7_serve 36 = .ok (.invokevirtual 51, 3) := by decide +kernel
theorem dX7_serve_39 : decode cX7_serve 39 = .ok (.aload_n 1, 1) := by decide +kernel
theorem dX7_serve_40 : decode cX7_serve 40 = .ok (.bipush 8, 2) := by decide +kernel
theorem dX7_serve_42 : decode cX7_serve 42 = .ok (.iload_n 3, 1) := by decide +kernel
theorem dX7_serve_43 : decode cX7_serve 43 = .ok (.iadd, 1) := by decide +kernel
theorem dX7_serve_44 : decode cX7_serve 44 = .ok (.invokevirtual 62, 3) := by decide +kernel
theorem dX7_serve_47 : decode cX7_serve 47 = .ok (.aload_n 1, 1) := by decide +kernel
theorem dX7_serve_48 : decode cX7_serve 48 = .ok (.bipush 19, 2) := by decide +kernel
theorem dX7_serve_50 : decode cX7_serve 50 = .ok (.invokevirtual 62, 3) := by decide +kernel
theorem dX7_serve_53 : decode cX7_serve 53 = .ok (.aload_n 0, 1) := by decide +kernel
theorem dX7_serve_54 : decode cX7_serve 54 = .ok (.getfield 9, 3) := by decide +kernel
theorem dX7_serve_57 : decode cX7_serve 57 = .ok (.invokevirtual 65, 3) := by decide +kernel
theorem dX7_serve_60 : decode cX7_serve 60 = .ok (.bipush 8, 2) := by decide +kernel
theorem dX7_serve_62 : decode cX7_serve 62 = .ok (.istore 5, 2) := by decide +kernel
theorem dX7_serve_64 : decode cX7_serve 64 = .ok (.iconst (-1), 1) := by decide +kernel
theorem dX7_serve_65 : decode cX7_serve 65 = .ok (.istore 6, 2) := by decide +kernel
theorem dX7_serve_67 : decode cX7_serve 67 = .ok (.iconst 0, 1) := by decide +kernel
theorem dX7_serve_68 : decode cX7_serve 68 = .ok (.istore 7, 2) := by decide +kernel
theorem dX7_serve_70 : decode cX7_serve 70 = .ok (.iload 7, 2) := by decide +kernel
theorem dX7_serve_72 : decode cX7_serve 72 = .ok (.aload_n 1, 1) := by decide +kernel
theorem dX7_serve_73 : decode cX7_serve 73 = .ok (.getfield 34, 3) := by decide +kernel
theorem dX7_serve_76 : decode cX7_serve 76 = .ok (.if_icmp .ge 59, 3) := by decide +kernel
theorem dX7_serve_79 : decode cX7_serve 79 = .ok (.aload_n 1, 1) := by decide +kernel
theorem dX7_serve_80 : decode cX7_serve 80 = .ok (.iload 7, 2) := by decide +kernel
theorem dX7_serve_82 : decode cX7_serve 82 = .ok (.iload_n 3, 1) := by decide +kernel
theorem dX7_serve_83 : decode cX7_serve 83 = .ok (.invokevirtual 59, 3) := by decide +kernel
