theorem dX4_termsOver_0 : decode cX4_termsOver 0 = .ok (.iconst 0, 1) := by decide +kernel
theorem dX4_termsOver_1 : decode cX4_termsOver 1 = .ok (.istore_n 2, 1) := by decide +kernel
theorem dX4_termsOver_2 : decode cX4_termsOver 2 = .ok (.iconst 0, 1) := by decide +kernel
theorem dX4_termsOver_3 : decode cX4_termsOver 3 = .ok (.istore_n 3, 1) := by decide +kernel
theorem dX4_termsOver_4 : decode cX4_termsOver 4 = .ok (.iload_n 3, 1) := by decide +kernel
theorem dX4_termsOver_5 : decode cX4_termsOver 5 = .ok (.aload_n 0, 1) := by decide +kernel
theorem dX4_termsOver_6 : decode cX4_termsOver 6 = .ok (.getfield 9, 3) := by decide +kernel
theorem dX4_termsOver_9 : decode cX4_termsOver 9 = .ok (.getfield 82, 3) := by decide +kernel
theorem dX4_termsOver_12 : decode cX4_termsOver 12 = .ok (.if_icmp .ge 56, 3) := by decide +kernel
theorem dX4_termsOver_15 : decode cX4_termsOver 15 = .ok (.iconst 0, 1) := by decide +kernel
theorem dX4_termsOver_16 : decode cX4_termsOver 16 = .ok (.istore 4, 2) := by decide +kernel
theorem dX4_termsOver_18 : decode cX4_termsOver 18 = .ok (.iload 4, 2) := by decide +kernel
theorem dX4_termsOver_20 : decode cX4_termsOver 20 = .ok (.aload_n 0, 1) := by decide +kernel
theorem dX4_termsOver_21 : decode cX4_termsOver 21 = .ok (.getfield 9, 3) := by decide +kernel
theorem dX4_termsOver_24 : decode cX4_termsOver 24 = .ok (.getfield 85, 3) := by decide +kernel
theorem dX4_termsOver_27 : decode cX4_termsOver 27 = .ok (.iload_n 3, 1) := by decide +kernel
theorem dX4_termsOver_28 : decode cX4_termsOver 28 = .ok (.iaload, 1) := by decide +kernel
theorem dX4_termsOver_29 : decode cX4_termsOver 29 = .ok (.if_icmp .ge 33, 3) := by decide +kernel
theorem dX4_termsOver_32 : decode cX4_termsOver 32 = .ok (.iload 4, 2) := by decide +kernel
theorem dX4_termsOver_34 : decode cX4_termsOver 34 = .ok (.iload_n 1, 1) := by decide +kernel
theorem dX4_termsOver_35 : decode cX4_termsOver 35 = .ok (.if_icmp .gt 27, 3) := by decide +kernel
theorem dX4_termsOver_38 : decode cX4_termsOver 38 = .ok (.aload_n 0, 1) := by decide +kernel
theorem dX4_termsOver_39 : decode cX4_termsOver 39 = .ok (.iload_n 1, 1) := by decide +kernel
theorem dX4_termsOver_40 : decode cX4_termsOver 40 = .ok (.iload 4, 2) := by decide +kernel
theorem dX4_termsOver_42 : decode cX4_termsOver 42 = .ok (.isub, 1) := by decide +kernel
theorem dX4_termsOver_43 : decode cX4_termsOver 43 = .ok (.iload_n 3, 1) := by decide +kernel
theorem dX4_termsOver_44 : decode cX4_termsOver 44 = .ok (.invokevirtual 136, 3) := by decide +kernel
theorem dX4_termsOver_47 : decode cX4_termsOver 47 = .ok (.ifCond .eq 9, 3) := by decide +kernel
theorem dX4_termsOver_50 : decode cX4_termsOver 50 = .ok (.iload_n 2, 1) := by decide +kernel
theorem dX4_termsOver_51 : decode cX4_termsOver 51 = .ok (.iconst 1, 1) := by decide +kernel
theorem dX4_termsOver_52 : decode cX4_termsOver 52 = .ok (.iload_n 3, 1) := by decide +kernel
theorem dX4_termsOver_53 : decode cX4_termsOver 53 = .ok (.ishl, 1) := by decide +kernel
theorem dX4_termsOver_54 : decode cX4_termsOver 54 = .ok (.ior, 1) := by decide +kernel
theorem dX4_termsOver_55 : decode cX4_termsOver 55 = .ok (.istore_n 2, 1) := by decide +kernel
theorem dX4_termsOver_56 : decode cX4_termsOver 56 = .ok (.iinc 4 1, 3) := by decide +kernel
theorem dX4_termsOver_59 : decode cX4_termsOver 59 = .ok (.goto (-41), 3) := by decide +kernel
theorem dX4_termsOver_62 : decode cX4_termsOver 62 = .ok (.iinc 3 1, 3) := by decide +kernel
theorem dX4_termsOver_65 : decode cX4_termsOver 65 = .ok (.goto (-61), 3) := by decide +kernel
theorem dX4_termsOver_68 : decode cX4_termsOver 68 = .ok (.iload_n 2, 1) := by decide +kernel
theorem dX4_termsOver_69 : decode cX4_termsOver 69 = .ok (.ireturn, 1) := by decide +kernel
theorem dX4_longestAt_0 : decode cX4_longestAt 0 = .ok (.iconst (-1), 1) := by decide +kernel
theorem dX4_longestAt_1 : decode cX4_longestAt 1 = .ok (.istore_n 2, 1) := by decide +kernel
theorem dX4_longestAt_2 : decode cX4_longestAt 2 = .ok (.iconst 0, 1) := by decide +kernel
theorem dX4_longestAt_3 : decode cX4_longestAt 3 = .ok (.istore_n 3, 1) := by decide +kernel
theorem dX4_longestAt_4 : decode cX4_longestAt 4 = .ok (.iload_n 3, 1) := by decide +kernel
theorem dX4_longestAt_5 : decode cX4_longestAt 5 = .ok (.aload_n 0, 1) := by decide +kernel
theorem dX4_longestAt_6 : decode cX4_longestAt 6 = .ok (.getfield 9, 3) := by decide +kernel
theorem dX4_longestAt_9 : decode cX4_longestAt 9 = .ok (.getfield 82, 3) := by decide +kernel
theorem dX4_longestAt_12 : decode cX4_longestAt 12 = .ok (.if_icmp .ge 34, 3) := by decide +kernel
theorem dX4_longestAt_15 : decode cX4_longestAt 15 = .ok (.aload_n 0, 1) := by decide +kernel
theorem dX4_longestAt_16 : decode cX4_longestAt 16 = .ok (.iload_n 1, 1) := by decide +kernel
theorem dX4_longestAt_17 : decode cX4_longestAt 17 = .ok (.iload_n 3, 1) := by decide +kernel
theorem dX4_longestAt_18 : decode cX4_longestAt 18 = .ok (.invokevirtual 136, 3) := by decide +kernel
theorem dX4_longestAt_21 : decode cX4_longestAt 21 = .ok (.ifCond .eq 19, 3) := by decide +kernel
theorem dX4_longestAt_24 : decode cX4_longestAt 24 = .ok (.iload_n 2, 1) := by decide +kernel
theorem dX4_longestAt_25 : decode cX4_longestAt 25 = .ok (.iconst (-1), 1) := by decide +kernel
theorem dX4_longestAt_26 : decode cX4_longestAt 26 = .ok (.if_icmp .eq 12, 3) := by decide +kernel
theorem dX4_longestAt_29 : decode cX4_longestAt 29 = .ok (.aload_n 0, 1) := by decide +kernel
theorem dX4_longestAt_30 : decode cX4_longestAt 30 = .ok (.iload_n 3, 1) := by decide +kernel
theorem dX4_longestAt_31 : decode cX4_longestAt 31 = .ok (.iload_n 2, 1) := by decide +kernel
theorem dX4_longestAt_32 : decode cX4_longestAt 32 = .ok (.invokevirtual 161, 3) := by decide +kernel
theorem dX4_longestAt_35 : decode cX4_longestAt 35 = .ok (.ifCond .eq 5, 3) := by decide +kernel
theorem dX4_longestAt_38 : decode cX4_longestAt 38 = .ok (.iload_n 3, 1) := by decide +kernel
theorem dX4_longestAt_39 : decode cX4_longestAt 39 = .ok (.istore_n 2, 1) := by decide +kernel
theorem dX4_longestAt_40 : decode cX4_longestAt 40 = .ok (.iinc 3 1, 3) := by decide +kernel
theorem dX4_longestAt_43 : decode cX4_longestAt 43 = .ok (.goto (-39), 3) := by decide +kernel
theorem dX4_longestAt_46 : decode cX4_longestAt 46 = .ok (.iload_n 2, 1) := by decide +kernel
theorem dX4_longestAt_47 : decode cX4_longestAt 47 = .ok (.ireturn, 1) := by decide +kernel
theorem dX4_isLonger_0 : decode cX4_isLonger 0 = .ok (.aload_n 0, 1) := by decide +kernel
theorem dX4_isLonger_1 : decode cX4_isLonger 1 = .ok (.getfield 9, 3) := by decide +kernel
theorem dX4_isLonger_4 : decode cX4_isLonger 4 = .ok (.getfield 85, 3) := by decide +kernel
theorem dX4_isLonger_7 : decode cX4_isLonger 7 = .ok (.iload_n 1, 1) := by decide +kernel
theorem dX4_isLonger_8 : decode cX4_isLonger 8 = .ok (.iaload, 1) := by decide +kernel
theorem dX4_isLonger_9 : decode cX4_isLonger 9 = .ok (.aload_n 0, 1) := by decide +kernel
theorem dX4_isLonger_10 : decode cX4_isLonger 10 = .ok (.getfield 9, 3) := by decide +kernel
theorem dX4_isLonger_13 : decode cX4_isLonger 13 = .ok (.getfield 85, 3) := by decide +kernel
theorem dX4_isLonger_16 : decode cX4_isLonger 16 = .ok (.iload_n 2, 1) := by decide +kernel
theorem dX4_isLonger_17 : decode cX4_isLonger 17 = .ok (.iaload, 1) := by decide +kernel
theorem dX4_isLonger_18 : decode cX4_isLonger 18 = .ok (.if_icmp .eq 30, 3) := by decide +kernel
theorem dX4_isLonger_21 : decode cX4_isLonger 21 = .ok (.aload_n 0, 1) := by decide +kernel
theorem dX4_isLonger_22 : decode cX4_isLonger 22 = .ok (.getfield 9, 3) := by decide +kernel
theorem dX4_isLonger_25 : decode cX4_isLonger 25 = .ok (.getfield 85, 3) := by decide +kernel
theorem dX4_isLonger_28 : decode cX4_isLonger 28 = .ok (.iload_n 1, 1) := by decide +kernel
theorem dX4_isLonger_29 : decode cX4_isLonger 29 = .ok (.iaload, 1) := by decide +kernel
theorem dX4_isLonger_30 : decode cX4_isLonger 30 = .ok (.aload_n 0, 1) := by decide +kernel
theorem dX4_isLonger_31 : decode cX4_isLonger 31 = .ok (.getfield 9, 3) := by decide +kernel
theorem dX4_isLonger_34 : decode cX4_isLonger 34 = .ok (.getfield 85, 3) := by decide +kernel
theorem dX4_isLonger_37 : decode cX4_isLonger 37 = .ok (.iload_n 2, 1) := by decide +kernel
theorem dX4_isLonger_38 : decode cX4_isLonger 38 = .ok (.iaload, 1) := by decide +kernel
theorem dX4_isLonger_39 : decode cX4_isLonger 39 = .ok (.if_icmp .le 7, 3) := by decide +kernel
theorem dX4_isLonger_42 : decode cX4_isLonger 42 = .ok (.iconst 1, 1) := by decide +kernel
theorem dX4_isLonger_43 : decode cX4_isLonger 43 = .ok (.goto 4, 3) := by decide +kernel
theorem dX4_isLonger_46 : decode cX4_isLonger 46 = .ok (.iconst 0, 1) := by decide +kernel
theorem dX4_isLonger_47 : decode cX4_isLonger 47 = .ok (.ireturn, 1) := by decide +kernel
theorem dX4_isLonger_48 : decode cX4_isLonger 48 = .ok (.aload_n 0, 1) := by decide +kernel
theorem dX4_isLonger_49 : decode cX4_isLonger 49 = .ok (.getfield 9, 3) := by decide +kernel
theorem dX4_isLonger_52 : decode cX4_isLonger 52 = .ok (.getfield 164, 3) := by decide +kernel
theorem dX4_isLonger_55 : decode cX4_isLonger 55 = .ok (.iload_n 1, 1) := by decide +kernel
theorem dX4_isLonger_56 : decode cX4_isLonger 56 = .ok (.iaload, 1) := by decide +kernel
theorem dX4_isLonger_57 : decode cX4_isLonger 57 = .ok (.aload_n 0, 1) := by decide +kernel
theorem dX4_isLonger_58 : decode cX4_isLonger 58 = .ok (.getfield 9, 3) := by decide +kernel
theorem dX4_isLonger_61 : decode cX4_isLonger 61 = .ok (.getfield 164, 3) := by decide +kernel
theorem dX4_isLonger_64 : decode cX4_isLonger 64 = .ok (.iload_n 2, 1) := by decide +kernel
theorem dX4_isLonger_65 : decode cX4_isLonger 65 = .ok (.iaload, 1) := by decide +kernel
theorem dX4_isLonger_66 : decode cX4_isLonger 66 = .ok (.if_icmp .le 7, 3) := by decide +kernel
theorem dX4_isLonger_69 : decode cX4_isLonger 69 = .ok (.iconst 1, 1) := by decide +kernel
theorem dX4_isLonger_70 : decode cX4_isLonger 70 = .ok (.goto 4, 3) := by decide +kernel
theorem dX4_isLonger_73 : decode cX4_isLonger 73 = .ok (.iconst 0, 1) := by decide +kernel
theorem dX4_isLonger_74 : decode cX4_isLonger 74 = .ok (.ireturn, 1) := by decide +kernel
theorem dX5_init_0 : decode cX5_init 0 = .ok (.aload_n 0, 1) := by decide +kernel
theorem dX5_init_1 : decode cX5_init 1 = .ok (.invokespecial 3, 3) := by decide +kernel
theorem dX5_init_4 : decode cX5_init 4 = .ok (.aload_n 0, 1) := by decide +kernel
theorem dX5_init_5 : decode cX5_init 5 = .ok (.bipush 50, 2) := by decide +kernel
theorem dX5_init_7 : decode cX5_init 7 = .ok (.newarray .int, 2) := by decide +kernel
theorem dX5_init_9 : decode cX5_init 9 = .ok (.putfield 11, 3) := by decide +kernel
theorem dX5_init_12 : decode cX5_init 12 = .ok (.aload_n 0, 1) := by decide +kernel
theorem dX5_init_13 : decode cX5_init 13 = .ok (.iconst 4, 1) := by decide +kernel
theorem dX5_init_14 : decode cX5_init 14 = .ok (.newarray .long, 2) := by decide +kernel
theorem dX5_init_16 : decode cX5_init 16 = .ok (.putfield 17, 3) := by decide +kernel
theorem dX5_init_19 : decode cX5_init 19 = .ok (.return_, 1) := by decide +kernel
theorem dX5_add_0 : decode cX5_add 0 = .ok (.aload_n 0, 1) := by decide +kernel
theorem dX5_add_1 : decode cX5_add 1 = .ok (.getfield 21, 3) := by decide +kernel
theorem dX5_add_4 : decode cX5_add 4 = .ok (.bipush 50, 2) := by decide +kernel
theorem dX5_add_6 : decode cX5_add 6 = .ok (.if_icmp .lt 5, 3) := by decide +kernel
theorem dX5_add_9 : decode cX5_add 9 = .ok (.iconst 0, 1) := by decide +kernel
theorem dX5_add_10 : decode cX5_add 10 = .ok (.ireturn, 1) := by decide +kernel
theorem dX5_add_11 : decode cX5_add 11 = .ok (.aload_n 0, 1) := by decide +kernel
theorem dX5_add_12 : decode cX5_add 12 = .ok (.getfield 11, 3) := by decide +kernel
theorem dX5_add_15 : decode cX5_add 15 = .ok (.aload_n 0, 1) := by decide +kernel
theorem dX5_add_16 : decode cX5_add 16 = .ok (.getfield 21, 3) := by decide +kernel
theorem dX5_add_19 : decode cX5_add 19 = .ok (.iload_n 1, 1) := by decide +kernel
theorem dX5_add_20 : decode cX5_add 20 = .ok (.iastore, 1) := by decide +kernel
theorem dX5_add_21 : decode cX5_add 21 = .ok (.aload_n 0, 1) := by decide +kernel
theorem dX5_add_22 : decode cX5_add 22 = .ok (.dup, 1) := by decide +kernel
theorem dX5_add_23 : decode cX5_add 23 = .ok (.getfield 21, 3) := by decide +kernel
theorem dX5_add_26 : decode cX5_add 26 = .ok (.iconst 1, 1) := by decide +kernel
theorem dX5_add_27 : decode cX5_add 27 = .ok (.iadd, 1) := by decide +kernel
theorem dX5_add_28 : decode cX5_add 28 = .ok (.putfield 21, 3) := by decide +kernel
theorem dX5_add_31 : decode cX5_add 31 = .ok (.iconst 1, 1) := by decide +kernel
theorem dX5_add_32 : decode cX5_add 32 = .ok (.ireturn, 1) := by decide +kernel
theorem dX5_takeWords_0 : decode cX5_takeWords 0 = .ok (.iconst 0, 1) := by decide +kernel
theorem dX5_takeWords_1 : decode cX5_takeWords 1 = .ok (.istore_n 1, 1) := by decide +kernel
theorem dX5_takeWords_2 : decode cX5_takeWords 2 = .ok (.iconst 0, 1) := by decide +kernel
theorem dX5_takeWords_3 : decode cX5_takeWords 3 = .ok (.istore_n 2, 1) := by decide +kernel
theorem dX5_takeWords_4 : decode cX5_takeWords 4 = .ok (.iconst 1, 1) := by decide +kernel
theorem dX5_takeWords_5 : decode cX5_takeWords 5 = .ok (.istore_n 3, 1) := by decide +kernel
theorem dX5_takeWords_6 : decode cX5_takeWords 6 = .ok (.iconst 0, 1) := by decide +kernel
theorem dX5_takeWords_7 : decode cX5_takeWords 7 = .ok (.istore 4, 2) := by decide +kernel
theorem dX5_takeWords_9 : decode cX5_takeWords 9 = .ok (.iload 4, 2) := by decide +kernel
theorem dX5_takeWords_11 : decode cX5_takeWords 11 = .ok (.aload_n 0, 1) := by decide +kernel
theorem dX5_takeWords_12 : decode cX5_takeWords 12 = .ok (.getfield 21, 3) := by decide +kernel
theorem dX5_takeWords_15 : decode cX5_takeWords 15 = .ok (.if_icmp .ge 108, 3) := by decide +kernel
theorem dX5_takeWords_18 : decode cX5_takeWords 18 = .ok (.aload_n 0, 1) := by decide +kernel
theorem dX5_takeWords_19 : decode cX5_takeWords 19 = .ok (.getfield 11, 3) := by decide +kernel
theorem dX5_takeWords_22 : decode cX5_takeWords 22 = .ok (.iload 4, 2) := by decide +kernel
theorem dX5_takeWords_24 : decode cX5_takeWords 24 = .ok (.iaload, 1) := by decide +kernel
theorem dX5_takeWords_25 : decode cX5_takeWords 25 = .ok (.bipush 32, 2) := by decide +kernel
theorem dX5_takeWords_27 : decode cX5_takeWords 27 = .ok (.if_icmp .ne 8, 3) := by decide +kernel
theorem dX5_takeWords_30 : decode cX5_takeWords 30 = .ok (.iconst 0, 1) := by decide +kernel
theorem dX5_takeWords_31 : decode cX5_takeWords 31 = .ok (.istore_n 2, 1) := by decide +kernel
theorem dX5_takeWords_32 : decode cX5_takeWords 32 = .ok (.goto 85, 3) := by decide +kernel
theorem dX5_takeWords_35 : decode cX5_takeWords 35 = .ok (.iload_n 2, 1) := by decide +kernel
theorem dX5_takeWords_36 : decode cX5_takeWords 36 = .ok (.ifCond .ne 9, 3) := by decide +kernel
theorem dX5_takeWords_39 : decode cX5_takeWords 39 = .ok (.iload_n 1, 1) := by decide +kernel
theorem dX5_takeWords_40 : decode cX5_takeWords 40 = .ok (.iconst 1, 1) := by decide +kernel
theorem dX5_takeWords_41 : decode cX5_takeWords 41 = .ok (.iadd, 1) := by decide +kernel
theorem dX5_takeWords_42 : decode cX5_takeWords 42 = .ok (.goto 4, 3) := by decide +kernel
theorem dX5_takeWords_45 : decode cX5_takeWords 45 = .ok (.iload_n 1, 1) := by decide +kernel
theorem dX5_takeWords_46 : decode cX5_takeWords 46 = .ok (.istore_n 1, 1) := by decide +kernel
theorem dX5_takeWords_47 : decode cX5_takeWords 47 = .ok (.iinc 2 1, 3) := by decide +kernel
theorem dX5_takeWords_50 : decode cX5_takeWords 50 = .ok (.iload_n 3, 1) := by decide +kernel
theorem dX5_takeWords_51 : decode cX5_takeWords 51 = .ok (.ifCond .eq 18, 3) := by decide +kernel
theorem dX5_takeWords_54 : decode cX5_takeWords 54 = .ok (.iload_n 2, 1) := by decide +kernel
theorem dX5_takeWords_55 : decode cX5_takeWords 55 = .ok (.bipush 12, 2) := by decide +kernel
theorem dX5_takeWords_57 : decode cX5_takeWords 57 = .ok (.if_icmp .gt 12, 3) := by decide +kernel
theorem dX5_takeWords_60 : decode cX5_takeWords 60 = .ok (.iload_n 1, 1) := by decide +kernel
theorem dX5_takeWords_61 : decode cX5_takeWords 61 = .ok (.iconst 4, 1) := by decide +kernel
theorem dX5_takeWords_62 : decode cX5_takeWords 62 = .ok (.if_icmp .gt 7, 3) := by decide +kernel
theorem dX5_takeWords_65 : decode cX5_takeWords 65 = .ok (.iconst 1, 1) := by decide +kernel
theorem dX5_takeWords_66 : decode cX5_takeWords 66 = .ok (.goto 4, 3) := by decide +kernel
theorem dX5_takeWords_69 : decode cX5_takeWords 69 = .ok (.iconst 0, 1) := by decide +kernel
theorem dX5_takeWords_70 : decode cX5_takeWords 70 = .ok (.istore_n 3, 1) := by decide +kernel
theorem dX5_takeWords_71 : decode cX5_takeWords 71 = .ok (.iload_n 3, 1) := by decide +kernel
theorem dX5_takeWords_72 : decode cX5_takeWords 72 = .ok (.ifCond .eq 45, 3) := by decide +kernel
theorem dX5_takeWords_75 : decode cX5_takeWords 75 = .ok (.iload_n 2, 1) := by decide +kernel
theorem dX5_takeWords_76 : decode cX5_takeWords 76 = .ok (.iconst 1, 1) := by decide +kernel
theorem dX5_takeWords_77 : decode cX5_takeWords 77 = .ok (.if_icmp .ne 7, 3) := by decide +kernel
theorem dX5_takeWords_80 : decode cX5_takeWords 80 = .ok (.lconst 0, 1) := by decide +kernel
theorem dX5_takeWords_81 : decode cX5_takeWords 81 = .ok (.goto 11, 3) := by decide +kernel
theorem dX5_takeWords_84 : decode cX5_takeWords 84 = .ok (.aload_n 0, 1) := by decide +kernel
theorem dX5_takeWords_85 : decode cX5_takeWords 85 = .ok (.getfield 17, 3) := by decide +kernel
theorem dX5_takeWords_88 : decode cX5_takeWords 88 = .ok (.iload_n 1, 1) := by decide +kernel
theorem dX5_takeWords_89 : decode cX5_takeWords 89 = .ok (.iconst 1, 1) := by decide +kernel
theorem dX5_takeWords_90 : decode cX5_takeWords 90 = .ok (.isub, 1) := by decide +kernel
theorem dX5_takeWords_91 : decode cX5_takeWords 91 = .ok (.laload, 1) := by decide +kernel
theorem dX5_takeWords_92 : decode cX5_takeWords 92 = .ok (.lstore 5, 2) := by decide +kernel
theorem dX5_takeWords_94 : decode cX5_takeWords 94 = .ok (.aload_n 0, 1) := by decide +kernel
theorem dX5_takeWords_95 : decode cX5_takeWords 95 = .ok (.getfield 17, 3) := by decide +kernel
theorem dX5_takeWords_98 : decode cX5_takeWords 98 = .ok (.iload_n 1, 1) := by decide +kernel
theorem dX5_takeWords_99 : decode cX5_takeWords 99 = .ok (.iconst 1, 1) := by decide +kernel
theorem dX5_takeWords_100 : decode cX5_takeWords 100 = .ok (.isub, 1) := by decide +kernel
theorem dX5_takeWords_101 : decode cX5_takeWords 101 = .ok (.lload 5, 2) := by decide +kernel
theorem dX5_takeWords_103 : decode cX5_takeWords 103 = .ok (.iload_n 2, 1) := by decide +kernel
theorem dX5_takeWords_104 : decode cX5_takeWords 104 = .ok (.iconst 1, 1) := by decide +kernel
theorem dX5_takeWords_105 : decode cX5_takeWords 105 = .ok (.isub, 1) := by decide +kernel
theorem dX5_takeWords_106 : decode cX5_takeWords 106 = .ok (.aload_n 0, 1) := by decide +kernel
theorem dX5_takeWords_107 : decode cX5_takeWords 107 = .ok (.getfield 11, 3) := by decide +kernel
theorem dX5_takeWords_110 : decode cX5_takeWords 110 = .ok (.iload 4, 2) := by decide +kernel
theorem dX5_takeWords_112 : decode cX5_takeWords 112 = .ok (.iaload, 1) := by decide +kernel
theorem dX5_takeWords_113 : decode cX5_takeWords 113 = .ok (.invokestatic 27, 3) := by decide +kernel
theorem dX5_takeWords_116 : decode cX5_takeWords 116 = .ok (.lastore, 1) := by decide +kernel
theorem dX5_takeWords_117 : decode cX5_takeWords 117 = .ok (.iinc 4 1, 3) := by decide +kernel
theorem dX5_takeWords_120 : decode cX5_takeWords 120 = .ok (.goto (-111), 3) := by decide +kernel
theorem dX5_takeWords_123 : decode cX5_takeWords 123 = .ok (.aload_n 0, 1) := by decide +kernel
theorem dX5_takeWords_124 : decode cX5_takeWords 124 = .ok (.iconst 0, 1) := by decide +kernel
theorem dX5_takeWords_125 : decode cX5_takeWords 125 = .ok (.putfield 21, 3) := by decide +kernel
theorem dX5_takeWords_128 : decode cX5_takeWords 128 = .ok (.iload_n 3, 1) := by decide +kernel
theorem dX5_takeWords_129 : decode cX5_takeWords 129 = .ok (.ifCond .eq 7, 3) := by decide +kernel
theorem dX5_takeWords_132 : decode cX5_takeWords 132 = .ok (.iload_n 1, 1) := by decide +kernel
theorem dX5_takeWords_133 : decode cX5_takeWords 133 = .ok (.goto 4, 3) := by decide +kernel
theorem dX5_takeWords_136 : decode cX5_takeWords 136 = .ok (.iconst 0, 1) := by decide +kernel
theorem dX5_takeWords_137 : decode cX5_takeWords 137 = .ok (.ireturn, 1) := by decide +kernel
theorem dX6_init_0 : decode cX6_init 0 = .ok (.aload_n 0, 1) := by decide +kernel
theorem dX6_init_1 : decode cX6_init 1 = .ok (.invokespecial 3, 3) := by decide +kernel
theorem dX6_init_4 : decode cX6_init 4 = .ok (.aload_n 0, 1) := by decide +kernel
theorem dX6_init_5 : decode cX6_init 5 = .ok (.bipush 60, 2) := by decide +kernel
theorem dX6_init_7 : decode cX6_init 7 = .ok (.newarray .long, 2) := by decide +kernel
theorem dX6_init_9 : decode cX6_init 9 = .ok (.putfield 11, 3) := by decide +kernel
theorem dX6_init_12 : decode cX6_init 12 = .ok (.aload_n 0, 1) := by decide +kernel
theorem dX6_init_13 : decode cX6_init 13 = .ok (.bipush 60, 2) := by decide +kernel
theorem dX6_init_15 : decode cX6_init 15 = .ok (.newarray .boolean, 2) := by decide +kernel
theorem dX6_init_17 : decode cX6_init 17 = .ok (.putfield 15, 3) := by decide +kernel
theorem dX6_init_20 : decode cX6_init 20 = .ok (.aload_n 0, 1) := by decide +kernel
theorem dX6_init_21 : decode cX6_init 21 = .ok (.bipush 60, 2) := by decide +kernel
theorem dX6_init_23 : decode cX6_init 23 = .ok (.newarray .int, 2) := by decide +kernel
theorem dX6_init_25 : decode cX6_init 25 = .ok (.putfield 19, 3) := by decide +kernel
theorem dX6_init_28 : decode cX6_init 28 = .ok (.return_, 1) := by decide +kernel
theorem dX6_hasRoom_0 : decode cX6_hasRoom 0 = .ok (.aload_n 0, 1) := by decide +kernel
theorem dX6_hasRoom_1 : decode cX6_hasRoom 1 = .ok (.getfield 23, 3) := by decide +kernel
theorem dX6_hasRoom_4 : decode cX6_hasRoom 4 = .ok (.bipush 60, 2) := by decide +kernel
theorem dX6_hasRoom_6 : decode cX6_hasRoom 6 = .ok (.if_icmp .ge 7, 3) := by decide +kernel
theorem dX6_hasRoom_9 : decode cX6_hasRoom 9 = .ok (.iconst 1, 1) := by decide +kernel
theorem dX6_hasRoom_10 : decode cX6_hasRoom 10 = .ok (.goto 4, 3) := by decide +kernel
theorem dX6_hasRoom_13 : decode cX6_hasRoom 13 = .ok (.iconst 0, 1) := by decide +kernel
theorem dX6_hasRoom_14 : decode cX6_hasRoom 14 = .ok (.ireturn, 1) := by decide +kernel
theorem dX6_isWord_0 : decode cX6_isWord 0 = .ok (.iload_n 1, 1) := by decide +kernel
theorem dX6_isWord_1 : decode cX6_isWord 1 = .ok (.ifCond .lt 15, 3) := by decide +kernel
theorem dX6_isWord_4 : decode cX6_isWord 4 = .ok (.iload_n 1, 1) := by decide +kernel
theorem dX6_isWord_5 : decode cX6_isWord 5 = .ok (.aload_n 0, 1) := by decide +kernel
theorem dX6_isWord_6 : decode cX6_isWord 6 = .ok (.getfield 23, 3) := by decide +kernel
theorem dX6_isWord_9 : decode cX6_isWord 9 = .ok (.if_icmp .ge 7, 3) := by decide +kernel
theorem dX6_isWord_12 : decode cX6_isWord 12 = .ok (.iconst 1, 1) := by decide +kernel
theorem dX6_isWord_13 : decode cX6_isWord 13 = .ok (.goto 4, 3) := by decide +kernel
theorem dX6_isWord_16 : decode cX6_isWord 16 = .ok (.iconst 0, 1) := by decide +kernel
theorem dX6_isWord_17 : decode cX6_isWord 17 = .ok (.ireturn, 1) := by decide +kernel
theorem dX6_clear_0 : decode cX6_clear 0 = .ok (.aload_n 0, 1) := by decide +kernel
theorem dX6_clear_1 : decode cX6_clear 1 = .ok (.iconst 0, 1) := by decide +kernel
theorem dX6_clear_2 : decode cX6_clear 2 = .ok (.putfield 23, 3) := by decide +kernel
theorem dX6_clear_5 : decode cX6_clear 5 = .ok (.aload_n 0, 1) := by decide +kernel
theorem dX6_clear_6 : decode cX6_clear 6 = .ok (.iconst 0, 1) := by decide +kernel
theorem dX6_clear_7 : decode cX6_clear 7 = .ok (.putfield 27, 3) := by decide +kernel
theorem dX6_clear_10 : decode cX6_clear 10 = .ok (.aload_n 0, 1) := by decide +kernel
theorem dX6_clear_11 : decode cX6_clear 11 = .ok (.lconst 0, 1) := by decide +kernel
theorem dX6_clear_12 : decode cX6_clear 12 = .ok (.putfield 30, 3) := by decide +kernel
theorem dX6_clear_15 : decode cX6_clear 15 = .ok (.aload_n 0, 1) := by decide +kernel
theorem dX6_clear_16 : decode cX6_clear 16 = .ok (.iconst 0, 1) := by decide +kernel
theorem dX6_clear_17 : decode cX6_clear 17 = .ok (.putfield 34, 3) := by decide +kernel
theorem dX6_clear_20 : decode cX6_clear 20 = .ok (.return_, 1) := by decide +kernel
theorem dX6_take_0 : decode cX6_take 0 = .ok (.iload_n 1, 1) := by decide +kernel
theorem dX6_take_1 : decode cX6_take 1 = .ok (.invokestatic 38, 3) := by decide +kernel
theorem dX6_take_4 : decode cX6_take 4 = .ok (.ifCond .eq 11, 3) := by decide +kernel
theorem dX6_take_7 : decode cX6_take 7 = .ok (.aload_n 0, 1) := by decide +kernel
theorem dX6_take_8 : decode cX6_take 8 = .ok (.iload_n 1, 1) := by decide +kernel
theorem dX6_take_9 : decode cX6_take 9 = .ok (.invokevirtual 44, 3) := by decide +kernel
theorem dX6_take_12 : decode cX6_take 12 = .ok (.goto 17, 3) := by decide +kernel
theorem dX6_take_15 : decode cX6_take 15 = .ok (.aload_n 0, 1) := by decide +kernel
theorem dX6_take_16 : decode cX6_take 16 = .ok (.invokevirtual 48, 3) := by decide +kernel
theorem dX6_take_19 : decode cX6_take 19 = .ok (.iload_n 1, 1) := by decide +kernel
theorem dX6_take_20 : decode cX6_take 20 = .ok (.bipush 46, 2) := by decide +kernel
theorem dX6_take_22 : decode cX6_take 22 = .ok (.if_icmp .ne 7, 3) := by decide +kernel
theorem dX6_take_25 : decode cX6_take 25 = .ok (.aload_n 0, 1) := by decide +kernel
theorem dX6_take_26 : decode cX6_take 26 = .ok (.invokevirtual 51, 3) := by decide +kernel
theorem dX6_take_29 : decode cX6_take 29 = .ok (.return_, 1) := by decide +kernel
theorem dX6_takeLetters_0 : decode cX6_takeLetters 0 = .ok (.lload_n 1, 1) := by decide +kernel
theorem dX6_takeLetters_1 : decode cX6_takeLetters 1 = .ok (.invokestatic 54, 3) := by decide +kernel
theorem dX6_takeLetters_4 : decode cX6_takeLetters 4 = .ok (.istore_n 3, 1) := by decide +kernel
theorem dX6_takeLetters_5 : decode cX6_takeLetters 5 = .ok (.iconst 0, 1) := by decide +kernel
theorem dX6_takeLetters_6 : decode cX6_takeLetters 6 = .ok (.istore 4, 2) := by decide +kernel
theorem dX6_takeLetters_8 : decode cX6_takeLetters 8 = .ok (.iload 4, 2) := by decide +kernel
theorem dX6_takeLetters_10 : decode cX6_takeLetters 10 = .ok (.iload_n 3, 1) := by decide +kernel
theorem dX6_takeLetters_11 : decode cX6_takeLetters 11 = .ok (.if_icmp .ge 19, 3) := by decide +kernel
theorem dX6_takeLetters_14 : decode cX6_takeLetters 14 = .ok (.aload_n 0, 1) := by decide +kernel
theorem dX6_takeLetters_15 : decode cX6_takeLetters 15 = .ok (.lload_n 1, 1) := by decide +kernel
theorem dX6_takeLetters_16 : decode cX6_takeLetters 16 = .ok (.iload 4, 2) := by decide +kernel
theorem dX6_takeLetters_18 : decode cX6_takeLetters 18 = .ok (.invokestatic 58, 3) := by decide +kernel
theorem dX6_takeLetters_21 : decode cX6_takeLetters 21 = .ok (.invokevirtual 44, 3) := by decide +kernel
theorem dX6_takeLetters_24 : decode cX6_takeLetters 24 = .ok (.iinc 4 1, 3) := by decide +kernel
theorem dX6_takeLetters_27 : decode cX6_takeLetters 27 = .ok (.goto (-19), 3) := by decide +kernel
theorem dX6_takeLetters_30 : decode cX6_takeLetters 30 = .ok (.return_, 1) := by decide +kernel
theorem dX6_addLetter_0 : decode cX6_addLetter 0 = .ok (.aload_n 0, 1) := by decide +kernel
theorem dX6_addLetter_1 : decode cX6_addLetter 1 = .ok (.getfield 30, 3) := by decide +kernel
theorem dX6_addLetter_4 : decode cX6_addLetter 4 = .ok (.invokestatic 54, 3) := by decide +kernel
theorem dX6_addLetter_7 : decode cX6_addLetter 7 = .ok (.istore_n 2, 1) := by decide +kernel
theorem dX6_addLetter_8 : decode cX6_addLetter 8 = .ok (.iload_n 2, 1) := by decide +kernel
theorem dX6_addLetter_9 : decode cX6_addLetter 9 = .ok (.bipush 12, 2) := by decide +kernel
theorem dX6_addLetter_11 : decode cX6_addLetter 11 = .ok (.if_icmp .ge 19, 3) := by decide +kernel
theorem dX6_addLetter_14 : decode cX6_addLetter 14 = .ok (.aload_n 0, 1) := by decide +kernel
theorem dX6_addLetter_15 : decode cX6_addLetter 15 = .ok (.aload_n 0, 1) := by decide +kernel
theorem dX6_addLetter_16 : decode cX6_addLetter 16 = .ok (.getfield 30, 3) := by decide +kernel
theorem dX6_addLetter_19 : decode cX6_addLetter 19 = .ok (.iload_n 2, 1) := by decide +kernel
theorem dX6_addLetter_20 : decode cX6_addLetter 20 = .ok (.iload_n 1, 1) := by decide +kernel
theorem dX6_addLetter_21 : decode cX6_addLetter 21 = .ok (.invokestatic 62, 3) := by decide +kernel
theorem dX6_addLetter_24 : decode cX6_addLetter 24 = .ok (.putfield 30, 3) := by decide +kernel
theorem dX6_addLetter_27 : decode cX6_addLetter 27 = .ok (.goto 8, 3) := by decide +kernel
theorem dX6_addLetter_30 : decode cX6_addLetter 30 = .ok (.aload_n 0, 1) := by decide +kernel
theorem dX6_addLetter_31 : decode cX6_addLetter 31 = .ok (.iconst 1, 1) := by decide +kernel
theorem dX6_addLetter_32 : decode cX6_addLetter 32 = .ok (.putfield 34, 3) := by decide +kernel
theorem dX6_addLetter_35 : decode cX6_addLetter 35 = .ok (.return_, 1) := by decide +kernel
theorem dX6_endWord_0 : decode cX6_endWord 0 = .ok (.aload_n 0, 1) := by decide +kernel
theorem dX6_endWord_1 : decode cX6_endWord 1 = .ok (.getfield 30, 3) := by decide +kernel
theorem dX6_endWord_4 : decode cX6_endWord 4 = .ok (.lconst 0, 1) := by decide +kernel
theorem dX6_endWord_5 : decode cX6_endWord 5 = .ok (.lcmp, 1) := by decide +kernel
theorem dX6_endWord_6 : decode cX6_endWord 6 = .ok (.ifCond .eq 12, 3) := by decide +kernel
theorem dX6_endWord_9 : decode cX6_endWord 9 = .ok (.aload_n 0, 1) := by decide +kernel
theorem dX6_endWord_10 : decode cX6_endWord 10 = .ok (.getfield 23, 3) := by decide +kernel
theorem dX6_endWord_13 : decode cX6_endWord 13 = .ok (.bipush 60, 2) := by decide +kernel
theorem dX6_endWord_15 : decode cX6_endWord 15 = .ok (.if_icmp .lt 4, 3) := by decide +kernel
theorem dX6_endWord_18 : decode cX6_endWord 18 = .ok (.return_, 1) := by decide +kernel
theorem dX6_endWord_19 : decode cX6_endWord 19 = .ok (.aload_n 0, 1) := by decide +kernel
theorem dX6_endWord_20 : decode cX6_endWord 20 = .ok (.getfield 11, 3) := by decide +kernel
theorem dX6_endWord_23 : decode cX6_endWord 23 = .ok (.aload_n 0, 1) := by decide +kernel
theorem dX6_endWord_24 : decode cX6_endWord 24 = .ok (.getfield 23, 3) := by decide +kernel
theorem dX6_endWord_27 : decode cX6_endWord 27 = .ok (.aload_n 0, 1) := by decide +kernel
theorem dX6_endWord_28 : decode cX6_endWord 28 = .ok (.getfield 30, 3) := by decide +kernel
theorem dX6_endWord_31 : decode cX6_endWord 31 = .ok (.lastore, 1) := by decide +kernel
theorem dX6_endWord_32 : decode cX6_endWord 32 = .ok (.aload_n 0, 1) := by decide +kernel
theorem dX6_endWord_33 : decode cX6_endWord 33 = .ok (.getfield 15, 3) := by decide +kernel
theorem dX6_endWord_36 : decode cX6_endWord 36 = .ok (.aload_n 0, 1) := by decide +kernel
theorem dX6_endWord_37 : decode cX6_endWord 37 = .ok (.getfield 23, 3) := by decide +kernel
theorem dX6_endWord_40 : decode cX6_endWord 40 = .ok (.aload_n 0, 1) := by decide +kernel
theorem dX6_endWord_41 : decode cX6_endWord 41 = .ok (.getfield 34, 3) := by decide +kernel
theorem dX6_endWord_44 : decode cX6_endWord 44 = .ok (.bastore, 1) := by decide +kernel
theorem dX6_endWord_45 : decode cX6_endWord 45 = .ok (.aload_n 0, 1) := by decide +kernel
theorem dX6_endWord_46 : decode cX6_endWord 46 = .ok (.getfield 19, 3) := by decide +kernel
theorem dX6_endWord_49 : decode cX6_endWord 49 = .ok (.aload_n 0, 1) := by decide +kernel
theorem dX6_endWord_50 : decode cX6_endWord 50 = .ok (.getfield 23, 3) := by decide +kernel
theorem dX6_endWord_53 : decode cX6_endWord 53 = .ok (.aload_n 0, 1) := by decide +kernel
theorem dX6_endWord_54 : decode cX6_endWord 54 = .ok (.getfield 27, 3) := by decide +kernel
theorem dX6_endWord_57 : decode cX6_endWord 57 = .ok (.iastore, 1) := by decide +kernel
theorem dX6_endWord_58 : decode cX6_endWord 58 = .ok (.aload_n 0, 1) := by decide +kernel
theorem dX6_endWord_59 : decode cX6_endWord 59 = .ok (.dup, 1) := by decide +kernel
theorem dX6_endWord_60 : decode cX6_endWord 60 = .ok (.getfield 23, 3) := by decide +kernel
theorem dX6_endWord_63 : decode cX6_endWord 63 = .ok (.iconst 1, 1) := by decide +kernel
theorem dX6_endWord_64 : decode cX6_endWord 64 = .ok (.iadd, 1) := by decide +kernel
theorem dX6_endWord_65 : decode cX6_endWord 65 = .ok (.putfield 23, 3) := by decide +kernel
theorem dX6_endWord_68 : decode cX6_endWord 68 = .ok (.aload_n 0, 1) := by decide +kernel
theorem dX6_endWord_69 : decode cX6_endWord 69 = .ok (.lconst 0, 1) := by decide +kernel
theorem dX6_endWord_70 : decode cX6_endWord 70 = .ok (.putfield 30, 3) := by decide +kernel
theorem dX6_endWord_73 : decode cX6_endWord 73 = .ok (.aload_n 0, 1) := by decide +kernel
theorem dX6_endWord_74 : decode cX6_endWord 74 = .ok (.iconst 0, 1) := by decide +kernel
theorem dX6_endWord_75 : decode cX6_endWord 75 = .ok (.putfield 34, 3) := by decide +kernel
theorem dX6_endWord_78 : decode cX6_endWord 78 = .ok (.return_, 1) := by decide +kernel
theorem dX6_endSentence_0 : decode cX6_endSentence 0 = .ok (.aload_n 0, 1) := by decide +kernel
theorem dX6_endSentence_1 : decode cX6_endSentence 1 = .ok (.getfield 23, 3) := by decide +kernel
theorem dX6_endSentence_4 : decode cX6_endSentence 4 = .ok (.ifCond .le 31, 3) := by decide +kernel
theorem dX6_endSentence_7 : decode cX6_endSentence 7 = .ok (.aload_n 0, 1) := by decide +kernel
theorem dX6_endSentence_8 : decode cX6_endSentence 8 = .ok (.getfield 19, 3) := by decide +kernel
theorem dX6_endSentence_11 : decode cX6_endSentence 11 = .ok (.aload_n 0, 1) := by decide +kernel
theorem dX6_endSentence_12 : decode cX6_endSentence 12 = .ok (.getfield 23, 3) := by decide +kernel
theorem dX6_endSentence_15 : decode cX6_endSentence 15 = .ok (.iconst 1, 1) := by decide +kernel
theorem dX6_endSentence_16 : decode cX6_endSentence 16 = .ok (.isub, 1) := by decide +kernel
theorem dX6_endSentence_17 : decode cX6_endSentence 17 = .ok (.iaload, 1) := by decide +kernel
theorem dX6_endSentence_18 : decode cX6_endSentence 18 = .ok (.aload_n 0, 1) := by decide +kernel
theorem dX6_endSentence_19 : decode cX6_endSentence 19 = .ok (.getfield 27, 3) := by decide +kernel
theorem dX6_endSentence_22 : decode cX6_endSentence 22 = .ok (.if_icmp .ne 13, 3) := by decide +kernel
theorem dX6_endSentence_25 : decode cX6_endSentence 25 = .ok (.aload_n 0, 1) := by decide +kernel
theorem dX6_endSentence_26 : decode cX6_endSentence 26 = .ok (.dup, 1) := by decide +kernel
theorem dX6_endSentence_27 : decode cX6_endSentence 27 = .ok (.getfield 27, 3) := by decide +kernel
theorem dX6_endSentence_30 : decode cX6_endSentence 30 = .ok (.iconst 1, 1) := by decide +kernel
theorem dX6_endSentence_31 : decode cX6_endSentence 31 = .ok (.iadd, 1) := by decide +kernel
theorem dX6_endSentence_32 : decode cX6_endSentence 32 = .ok (.putfield 27, 3) := by decide +kernel
theorem dX6_endSentence_35 : decode cX6_endSentence 35 = .ok (.return_, 1) := by decide +kernel
theorem dX6_beginsSentence_0 : decode cX6_beginsSentence 0 = .ok (.iload_n 1, 1) := by decide +kernel
theorem dX6_beginsSentence_1 : decode cX6_beginsSentence 1 = .ok (.ifCond .eq 20, 3) := by decide +kernel
theorem dX6_beginsSentence_4 : decode cX6_beginsSentence 4 = .ok (.aload_n 0, 1) := by decide +kernel
theorem dX6_beginsSentence_5 : decode cX6_beginsSentence 5 = .ok (.getfield 19, 3) := by decide +kernel
theorem dX6_beginsSentence_8 : decode cX6_beginsSentence 8 = .ok (.iload_n 1, 1) := by decide +kernel
theorem dX6_beginsSentence_9 : decode cX6_beginsSentence 9 = .ok (.iconst 1, 1) := by decide +kernel
theorem dX6_beginsSentence_10 : decode cX6_beginsSentence 10 = .ok (.isub, 1) := by decide +kernel
theorem dX6_beginsSentence_11 : decode cX6_beginsSentence 11 = .ok (.iaload, 1) := by decide +kernel
theorem dX6_beginsSentence_12 : decode cX6_beginsSentence 12 = .ok (.aload_n 0, 1) := by decide +kernel
theorem dX6_beginsSentence_13 : decode cX6_beginsSentence 13 = .ok (.getfield 19, 3) := by decide +kernel
theorem dX6_beginsSentence_16 : decode cX6_beginsSentence 16 = .ok (.iload_n 1, 1) := by decide +kernel
theorem dX6_beginsSentence_17 : decode cX6_beginsSentence 17 = .ok (.iaload, 1) := by decide +kernel
theorem dX6_beginsSentence_18 : decode cX6_beginsSentence 18 = .ok (.if_icmp .eq 7, 3) := by decide +kernel
theorem dX6_beginsSentence_21 : decode cX6_beginsSentence 21 = .ok (.iconst 1, 1) := by decide +kernel
theorem dX6_beginsSentence_22 : decode cX6_beginsSentence 22 = .ok (.goto 4, 3) := by decide +kernel
theorem dX6_beginsSentence_25 : decode cX6_beginsSentence 25 = .ok (.iconst 0, 1) := by decide +kernel
theorem dX6_beginsSentence_26 : decode cX6_beginsSentence 26 = .ok (.ireturn, 1) := by decide +kernel
theorem dX6_endsSentence_0 : decode cX6_endsSentence 0 = .ok (.iload_n 1, 1) := by decide +kernel
theorem dX6_endsSentence_1 : decode cX6_endsSentence 1 = .ok (.iconst 1, 1) := by decide +kernel
theorem dX6_endsSentence_2 : decode cX6_endsSentence 2 = .ok (.iadd, 1) := by decide +kernel
theorem dX6_endsSentence_3 : decode cX6_endsSentence 3 = .ok (.aload_n 0, 1) := by decide +kernel
theorem dX6_endsSentence_4 : decode cX6_endsSentence 4 = .ok (.getfield 23, 3) := by decide +kernel
theorem dX6_endsSentence_7 : decode cX6_endsSentence 7 = .ok (.if_icmp .eq 20, 3) := by decide +kernel
theorem dX6_endsSentence_10 : decode cX6_endsSentence 10 = .ok (.aload_n 0, 1) := by decide +kernel
theorem dX6_endsSentence_11 : decode cX6_endsSentence 11 = .ok (.getfield 19, 3) := by decide +kernel
theorem dX6_endsSentence_14 : decode cX6_endsSentence 14 = .ok (.iload_n 1, 1) := by decide +kernel
theorem dX6_endsSentence_15 : decode cX6_endsSentence 15 = .ok (.iconst 1, 1) := by decide +kernel
theorem dX6_endsSentence_16 : decode cX6_endsSentence 16 = .ok (.iadd, 1) := by decide +kernel
theorem dX6_endsSentence_17 : decode cX6_endsSentence 17 = .ok (.iaload, 1) := by decide +kernel
theorem dX6_endsSentence_18 : decode cX6_endsSentence 18 = .ok (.aload_n 0, 1) := by decide +kernel
theorem dX6_endsSentence_19 : decode cX6_endsSentence 19 = .ok (.getfield 19, 3) := by decide +kernel
theorem dX6_endsSentence_22 : decode cX6_endsSentence 22 = .ok (.iload_n 1, 1) := by decide +kernel
theorem dX6_endsSentence_23 : decode cX6_endsSentence 23 = .ok (.iaload, 1) := by decide +kernel
theorem dX6_endsSentence_24 : decode cX6_endsSentence 24 = .ok (.if_icmp .eq 7, 3) := by decide +kernel
theorem dX6_endsSentence_27 : decode cX6_endsSentence 27 = .ok (.iconst 1, 1) := by decide +kernel
theorem dX6_endsSentence_28 : decode cX6_endsSentence 28 = .ok (.goto 4, 3) := by decide +kernel
theorem dX6_endsSentence_31 : decode cX6_endsSentence 31 = .ok (.iconst 0, 1) := by decide +kernel
theorem dX6_endsSentence_32 : decode cX6_endsSentence 32 = .ok (.istore_n 2, 1) := by decide +kernel
theorem dX6_endsSentence_33 : decode cX6_endsSentence 33 = .ok (.iload_n 2, 1) := by decide +kernel
theorem dX6_endsSentence_34 : decode cX6_endsSentence 34 = .ok (.ifCond .eq 20, 3) := by decide +kernel
theorem dX6_endsSentence_37 : decode cX6_endsSentence 37 = .ok (.aload_n 0, 1) := by decide +kernel
theorem dX6_endsSentence_38 : decode cX6_endsSentence 38 = .ok (.getfield 19, 3) := by decide +kernel
theorem dX6_endsSentence_41 : decode cX6_endsSentence 41 = .ok (.iload_n 1, 1) := by decide +kernel
theorem dX6_endsSentence_42 : decode cX6_endsSentence 42 = .ok (.iaload, 1) := by decide +kernel
theorem dX6_endsSentence_43 : decode cX6_endsSentence 43 = .ok (.aload_n 0, 1) := by decide +kernel
theorem dX6_endsSentence_44 : decode cX6_endsSentence 44 = .ok (.getfield 27, 3) := by decide +kernel
theorem dX6_endsSentence_47 : decode cX6_endsSentence 47 = .ok (.if_icmp .ge 7, 3) := by decide +kernel
theorem dX6_endsSentence_50 : decode cX6_endsSentence 50 = .ok (.iconst 1, 1) := by decide +kernel
theorem dX6_endsSentence_51 : decode cX6_endsSentence 51 = .ok (.goto 4, 3) := by decide +kernel
theorem dX6_endsSentence_54 : decode cX6_endsSentence 54 = .ok (.iconst 0, 1) := by decide +kernel
theorem dX6_endsSentence_55 : decode cX6_endsSentence 55 = .ok (.ireturn, 1) := by decide +kernel
theorem dX7_init_0 : decode cX7_init 0 = .ok (.aload_n 0, 1) := by decide +kernel
theorem dX7_init_1 : decode cX7_init 1 = .ok (.invokespecial 1, 3) := by decide +kernel
theorem dX7_init_4 : decode cX7_init 4 = .ok (.aload_n 0, 1) := by decide +kernel
theorem dX7_init_5 : decode cX7_init 5 = .ok (.new 7, 3) := by decide +kernel
theorem dX7_init_8 : decode cX7_init 8 = .ok (.dup, 1) := by decide +kernel
theorem dX7_init_9 : decode cX7_init 9 = .ok (.invokespecial 9, 3) := by decide +kernel
theorem dX7_init_12 : decode cX7_init 12 = .ok (.putfield 10, 3) := by decide +kernel
theorem dX7_init_15 : decode cX7_init 15 = .ok (.aload_n 0, 1) := by decide +kernel
theorem dX7_init_16 : decode cX7_init 16 = .ok (.new 16, 3) := by decide +kernel
theorem dX7_init_19 : decode cX7_init 19 = .ok (.dup, 1) := by decide +kernel
theorem dX7_init_20 : decode cX7_init 20 = .ok (.invokespecial 18, 3) := by decide +kernel
theorem dX7_init_23 : decode cX7_init 23 = .ok (.putfield 19, 3) := by decide +kernel
theorem dX7_init_26 : decode cX7_init 26 = .ok (.aload_n 0, 1) := by decide +kernel
theorem dX7_init_27 : decode cX7_init 27 = .ok (.iconst 2, 1) := by decide +kernel
theorem dX7_init_28 : decode cX7_init 28 = .ok (.anewarray 16, 3) := by decide +kernel
theorem dX7_init_31 : decode cX7_init 31 = .ok (.putfield 23, 3) := by decide +kernel
theorem dX7_init_34 : decode cX7_init 34 = .ok (.iconst 0, 1) := by decide +kernel
theorem dX7_init_35 : decode cX7_init 35 = .ok (.istore_n 1, 1) := by decide +kernel
theorem dX7_init_36 : decode cX7_init 36 = .ok (.iload_n 1, 1) := by decide +kernel
theorem dX7_init_37 : decode cX7_init 37 = .ok (.iconst 2, 1) := by decide +kernel
theorem dX7_init_38 : decode cX7_init 38 = .ok (.if_icmp .ge 22, 3) := by decide +kernel
theorem dX7_init_41 : decode cX7_init 41 = .ok (.aload_n 0, 1) := by decide +kernel
theorem dX7_init_42 : decode cX7_init 42 = .ok (.getfield 23, 3) := by decide +kernel
theorem dX7_init_45 : decode cX7_init 45 = .ok (.iload_n 1, 1) := by decide +kernel
theorem dX7_init_46 : decode cX7_init 46 = .ok (.new 16, 3) := by decide +kernel
theorem dX7_init_49 : decode cX7_init 49 = .ok (.dup, 1) := by decide +kernel
theorem dX7_init_50 : decode cX7_init 50 = .ok (.invokespecial 18, 3) := by decide +kernel
theorem dX7_init_53 : decode cX7_init 53 = .ok (.aastore, 1) := by decide +kernel
theorem dX7_init_54 : decode cX7_init 54 = .ok (.iinc 1 1, 3) := by decide +kernel
theorem dX7_init_57 : decode cX7_init 57 = .ok (.goto (-21), 3) := by decide +kernel
theorem dX7_init_60 : decode cX7_init 60 = .ok (.aload_n 0, 1) := by decide +kernel
theorem dX7_init_61 : decode cX7_init 61 = .ok (.new 27, 3) := by decide +kernel
theorem dX7_init_64 : decode cX7_init 64 = .ok (.dup, 1) := by decide +kernel
theorem dX7_init_65 : decode cX7_init 65 = .ok (.invokespecial 29, 3) := by decide +kernel
theorem dX7_init_68 : decode cX7_init 68 = .ok (.putfield 30, 3) := by decide +kernel
theorem dX7_init_71 : decode cX7_init 71 = .ok (.aload_n 0, 1) := by decide +kernel
theorem dX7_init_72 : decode cX7_init 72 = .ok (.new 34, 3) := by decide +kernel
theorem dX7_init_75 : decode cX7_init 75 = .ok (.dup, 1) := by decide +kernel
theorem dX7_init_76 : decode cX7_init 76 = .ok (.aload_n 0, 1) := by decide +kernel
theorem dX7_init_77 : decode cX7_init 77 = .ok (.getfield 19, 3) := by decide +kernel
theorem dX7_init_80 : decode cX7_init 80 = .ok (.aload_n 0, 1) := by decide +kernel
theorem dX7_init_81 : decode cX7_init 81 = .ok (.getfield 30, 3) := by decide +kernel
theorem dX7_init_84 : decode cX7_init 84 = .ok (.invokespecial 36, 3) := by decide +kernel
theorem dX7_init_87 : decode cX7_init 87 = .ok (.putfield 39, 3) := by decide +kernel
theorem dX7_init_90 : decode cX7_init 90 = .ok (.aload_n 0, 1) := by decide +kernel
theorem dX7_init_91 : decode cX7_init 91 = .ok (.new 43, 3) := by decide +kernel
theorem dX7_init_94 : decode cX7_init 94 = .ok (.dup, 1) := by decide +kernel
theorem dX7_init_95 : decode cX7_init 95 = .ok (.aload_n 0, 1) := by decide +kernel
theorem dX7_init_96 : decode cX7_init 96 = .ok (.getfield 19, 3) := by decide +kernel
theorem dX7_init_99 : decode cX7_init 99 = .ok (.aload_n 0, 1) := by decide +kernel
theorem dX7_init_100 : decode cX7_init 100 = .ok (.getfield 30, 3) := by decide +kernel
theorem dX7_init_103 : decode cX7_init 103 = .ok (.aload_n 0, 1) := by decide +kernel
theorem dX7_init_104 : decode cX7_init 104 = .ok (.getfield 39, 3) := by decide +kernel
theorem dX7_init_107 : decode cX7_init 107 = .ok (.invokespecial 45, 3) := by decide +kernel
theorem dX7_init_110 : decode cX7_init 110 = .ok (.putfield 48, 3) := by decide +kernel
theorem dX7_init_113 : decode cX7_init 113 = .ok (.aload_n 0, 1) := by decide +kernel
theorem dX7_init_114 : decode cX7_init 114 = .ok (.new 52, 3) := by decide +kernel
theorem dX7_init_117 : decode cX7_init 117 = .ok (.dup, 1) := by decide +kernel
theorem dX7_init_118 : decode cX7_init 118 = .ok (.invokespecial 54, 3) := by decide +kernel
theorem dX7_init_121 : decode cX7_init 121 = .ok (.putfield 55, 3) := by decide +kernel
theorem dX7_init_124 : decode cX7_init 124 = .ok (.return_, 1) := by decide +kernel
theorem dX7_spell_0 : decode cX7_spell 0 = .ok (.iload_n 1, 1) := by decide +kernel
theorem dX7_spell_1 : decode cX7_spell 1 = .ok (.invokestatic 59, 3) := by decide +kernel
theorem dX7_spell_4 : decode cX7_spell 4 = .ok (.ifCond .ne 12, 3) := by decide +kernel
theorem dX7_spell_7 : decode cX7_spell 7 = .ok (.iload_n 1, 1) := by decide +kernel
theorem dX7_spell_8 : decode cX7_spell 8 = .ok (.bipush 32, 2) := by decide +kernel
theorem dX7_spell_10 : decode cX7_spell 10 = .ok (.if_icmp .eq 6, 3) := by decide +kernel
theorem dX7_spell_13 : decode cX7_spell 13 = .ok (.ldc 65, 2) := by decide +kernel
theorem dX7_spell_15 : decode cX7_spell 15 = .ok (.ireturn, 1) := by decide +kernel
theorem dX7_spell_16 : decode cX7_spell 16 = .ok (.aload_n 0, 1) := by decide +kernel
theorem dX7_spell_17 : decode cX7_spell 17 = .ok (.getfield 10, 3) := by decide +kernel
theorem dX7_spell_20 : decode cX7_spell 20 = .ok (.iload_n 1, 1) := by decide +kernel
theorem dX7_spell_21 : decode cX7_spell 21 = .ok (.invokevirtual 66, 3) := by decide +kernel
theorem dX7_spell_24 : decode cX7_spell 24 = .ok (.ifCond .eq 13, 3) := by decide +kernel
theorem dX7_spell_27 : decode cX7_spell 27 = .ok (.aload_n 0, 1) := by decide +kernel
theorem dX7_spell_28 : decode cX7_spell 28 = .ok (.getfield 10, 3) := by decide +kernel
theorem dX7_spell_31 : decode cX7_spell 31 = .ok (.getfield 69, 3) := by decide +kernel
theorem dX7_spell_34 : decode cX7_spell 34 = .ok (.goto 5, 3) := by decide +kernel
theorem dX7_spell_37 : decode cX7_spell 37 = .ok (.ldc 73, 2) := by decide +kernel
theorem dX7_spell_39 : decode cX7_spell 39 = .ok (.ireturn, 1) := by decide +kernel
theorem dX7_term_0 : decode cX7_term 0 = .ok (.iload_n 1, 1) := by decide +kernel
theorem dX7_term_1 : decode cX7_term 1 = .ok (.invokestatic 74, 3) := by decide +kernel
theorem dX7_term_4 : decode cX7_term 4 = .ok (.ifCond .eq 10, 3) := by decide +kernel
theorem dX7_term_7 : decode cX7_term 7 = .ok (.iload_n 2, 1) := by decide +kernel
theorem dX7_term_8 : decode cX7_term 8 = .ok (.invokestatic 77, 3) := by decide +kernel
theorem dX7_term_11 : decode cX7_term 11 = .ok (.ifCond .ne 6, 3) := by decide +kernel
theorem dX7_term_14 : decode cX7_term 14 = .ok (.ldc 65, 2) := by decide +kernel
theorem dX7_term_16 : decode cX7_term 16 = .ok (.ireturn, 1) := by decide +kernel
theorem dX7_term_17 : decode cX7_term 17 = .ok (.aload_n 0, 1) := by decide +kernel
theorem dX7_term_18 : decode cX7_term 18 = .ok (.getfield 10, 3) := by decide +kernel
theorem dX7_term_21 : decode cX7_term 21 = .ok (.invokevirtual 80, 3) := by decide +kernel
theorem dX7_term_24 : decode cX7_term 24 = .ok (.istore_n 3, 1) := by decide +kernel
theorem dX7_term_25 : decode cX7_term 25 = .ok (.iload_n 3, 1) := by decide +kernel
theorem dX7_term_26 : decode cX7_term 26 = .ok (.ifCond .eq 21, 3) := by decide +kernel
theorem dX7_term_29 : decode cX7_term 29 = .ok (.aload_n 0, 1) := by decide +kernel
theorem dX7_term_30 : decode cX7_term 30 = .ok (.getfield 19, 3) := by decide +kernel
theorem dX7_term_33 : decode cX7_term 33 = .ok (.aload_n 0, 1) := by decide +kernel
theorem dX7_term_34 : decode cX7_term 34 = .ok (.getfield 10, 3) := by decide +kernel
theorem dX7_term_37 : decode cX7_term 37 = .ok (.getfield 84, 3) := by decide +kernel
theorem dX7_term_40 : decode cX7_term 40 = .ok (.iload_n 3, 1) := by decide +kernel
theorem dX7_term_41 : decode cX7_term 41 = .ok (.invokevirtual 88, 3) := by decide +kernel
theorem dX7_term_44 : decode cX7_term 44 = .ok (.ifCond .eq 6, 3) := by decide +kernel
theorem dX7_term_47 : decode cX7_term 47 = .ok (.ldc 92, 2) := by decide +kernel
theorem dX7_term_49 : decode cX7_term 49 = .ok (.ireturn, 1) := by decide +kernel
theorem dX7_term_50 : decode cX7_term 50 = .ok (.aload_n 0, 1) := by decide +kernel
theorem dX7_term_51 : decode cX7_term 51 = .ok (.getfield 19, 3) := by decide +kernel
theorem dX7_term_54 : decode cX7_term 54 = .ok (.aload_n 0, 1) := by decide +kernel
theorem dX7_term_55 : decode cX7_term 55 = .ok (.getfield 10, 3) := by decide +kernel
theorem dX7_term_58 : decode cX7_term 58 = .ok (.getfield 84, 3) := by decide +kernel
theorem dX7_term_61 : decode cX7_term 61 = .ok (.iload_n 3, 1) := by decide +kernel
theorem dX7_term_62 : decode cX7_term 62 = .ok (.iload_n 1, 1) := by decide +kernel
theorem dX7_term_63 : decode cX7_term 63 = .ok (.iload_n 2, 1) := by decide +kernel
theorem dX7_term_64 : decode cX7_term 64 = .ok (.invokevirtual 93, 3) := by decide +kernel
theorem dX7_term_67 : decode cX7_term 67 = .ok (.istore 4, 2) := by decide +kernel
theorem dX7_term_69 : decode cX7_term 69 = .ok (.iload 4, 2) := by decide +kernel
theorem dX7_term_71 : decode cX7_term 71 = .ok (.iconst (-1), 1) := by decide +kernel
theorem dX7_term_72 : decode cX7_term 72 = .ok (.if_icmp .ne 6, 3) := by decide +kernel
theorem dX7_term_75 : decode cX7_term 75 = .ok (.ldc 73, 2) := by decide +kernel
theorem dX7_term_77 : decode cX7_term 77 = .ok (.ireturn, 1) := by decide +kernel
theorem dX7_term_78 : decode cX7_term 78 = .ok (.aload_n 0, 1) := by decide +kernel
theorem dX7_term_79 : decode cX7_term 79 = .ok (.invokevirtual 97, 3) := by decide +kernel
theorem dX7_term_82 : decode cX7_term 82 = .ok (.iload 4, 2) := by decide +kernel
theorem dX7_term_84 : decode cX7_term 84 = .ok (.ireturn, 1) := by decide +kernel
theorem dX7_ending_0 : decode cX7_ending 0 = .ok (.aload_n 0, 1) := by decide +kernel
theorem dX7_ending_1 : decode cX7_ending 1 = .ok (.getfield 10, 3) := by decide +kernel
theorem dX7_ending_4 : decode cX7_ending 4 = .ok (.invokevirtual 80, 3) := by decide +kernel
theorem dX7_ending_7 : decode cX7_ending 7 = .ok (.istore_n 1, 1) := by decide +kernel
theorem dX7_ending_8 : decode cX7_ending 8 = .ok (.aload_n 0, 1) := by decide +kernel
theorem dX7_ending_9 : decode cX7_ending 9 = .ok (.getfield 10, 3) := by decide +kernel
theorem dX7_ending_12 : decode cX7_ending 12 = .ok (.getfield 84, 3) := by decide +kernel
theorem dX7_ending_15 : decode cX7_ending 15 = .ok (.iconst 0, 1) := by decide +kernel
theorem dX7_ending_16 : decode cX7_ending 16 = .ok (.laload, 1) := by decide +kernel
theorem dX7_ending_17 : decode cX7_ending 17 = .ok (.lstore_n 2, 1) := by decide +kernel
theorem dX7_ending_18 : decode cX7_ending 18 = .ok (.iload_n 1, 1) := by decide +kernel
theorem dX7_ending_19 : decode cX7_ending 19 = .ok (.iconst 1, 1) := by decide +kernel
theorem dX7_ending_20 : decode cX7_ending 20 = .ok (.if_icmp .ne 22, 3) := by decide +kernel
theorem dX7_ending_23 : decode cX7_ending 23 = .ok (.lload_n 2, 1) := by decide +kernel
theorem dX7_ending_24 : decode cX7_ending 24 = .ok (.invokestatic 100, 3) := by decide +kernel
theorem dX7_ending_27 : decode cX7_ending 27 = .ok (.iconst 4, 1) := by decide +kernel
theorem dX7_ending_28 : decode cX7_ending 28 = .ok (.if_icmp .gt 14, 3) := by decide +kernel
theorem dX7_ending_31 : decode cX7_ending 31 = .ok (.aload_n 0, 1) := by decide +kernel
theorem dX7_ending_32 : decode cX7_ending 32 = .ok (.getfield 19, 3) := by decide +kernel
theorem dX7_ending_35 : decode cX7_ending 35 = .ok (.lload_n 2, 1) := by decide +kernel
theorem dX7_ending_36 : decode cX7_ending 36 = .ok (.invokevirtual 104, 3) := by decide +kernel
theorem dX7_ending_39 : decode cX7_ending 39 = .ok (.ifCond .eq 6, 3) := by decide +kernel
theorem dX7_ending_42 : decode cX7_ending 42 = .ok (.ldc 92, 2) := by decide +kernel
theorem dX7_ending_44 : decode cX7_ending 44 = .ok (.ireturn, 1) := by decide +kernel
theorem dX7_ending_45 : decode cX7_ending 45 = .ok (.aload_n 0, 1) := by decide +kernel
theorem dX7_ending_46 : decode cX7_ending 46 = .ok (.getfield 19, 3) := by decide +kernel
theorem dX7_ending_49 : decode cX7_ending 49 = .ok (.lload_n 2, 1) := by decide +kernel
theorem dX7_ending_50 : decode cX7_ending 50 = .ok (.invokevirtual 108, 3) := by decide +kernel
theorem dX7_ending_53 : decode cX7_ending 53 = .ok (.istore 4, 2) := by decide +kernel
theorem dX7_ending_55 : decode cX7_ending 55 = .ok (.iload 4, 2) := by decide +kernel
theorem dX7_ending_57 : decode cX7_ending 57 = .ok (.iconst (-1), 1) := by decide +kernel
theorem dX7_ending_58 : decode cX7_ending 58 = .ok (.if_icmp .ne 6, 3) := by decide +kernel
theorem dX7_ending_61 : decode cX7_ending 61 = .ok (.ldc 73, 2) := by decide +kernel
theorem dX7_ending_63 : decode cX7_ending 63 = .ok (.ireturn, 1) := by decide +kernel
theorem dX7_ending_64 : decode cX7_ending 64 = .ok (.aload_n 0, 1) := by decide +kernel
theorem dX7_ending_65 : decode cX7_ending 65 = .ok (.invokevirtual 97, 3) := by decide +kernel
theorem dX7_ending_68 : decode cX7_ending 68 = .ok (.iload 4, 2) := by decide +kernel
theorem dX7_ending_70 : decode cX7_ending 70 = .ok (.ireturn, 1) := by decide +kernel
theorem dX7_dropTerm_0 : decode cX7_dropTerm 0 = .ok (.aload_n 0, 1) := by decide +kernel
theorem dX7_dropTerm_1 : decode cX7_dropTerm 1 = .ok (.getfield 19, 3) := by decide +kernel
theorem dX7_dropTerm_4 : decode cX7_dropTerm 4 = .ok (.iload_n 1, 1) := by decide +kernel
theorem dX7_dropTerm_5 : decode cX7_dropTerm 5 = .ok (.invokevirtual 111, 3) := by decide +kernel
theorem dX7_dropTerm_8 : decode cX7_dropTerm 8 = .ok (.ifCond .ne 6, 3) := by decide +kernel
theorem dX7_dropTerm_11 : decode cX7_dropTerm 11 = .ok (.ldc 114, 2) := by decide +kernel
theorem dX7_dropTerm_13 : decode cX7_dropTerm 13 = .ok (.ireturn, 1) := by decide +kernel
theorem dX7_dropTerm_14 : decode cX7_dropTerm 14 = .ok (.aload_n 0, 1) := by decide +kernel
theorem dX7_dropTerm_15 : decode cX7_dropTerm 15 = .ok (.getfield 19, 3) := by decide +kernel
theorem dX7_dropTerm_18 : decode cX7_dropTerm 18 = .ok (.iload_n 1, 1) := by decide +kernel
theorem dX7_dropTerm_19 : decode cX7_dropTerm 19 = .ok (.invokevirtual 115, 3) := by decide +kernel
theorem dX7_dropTerm_22 : decode cX7_dropTerm 22 = .ok (.ifCond .eq 6, 3) := by decide +kernel
theorem dX7_dropTerm_25 : decode cX7_dropTerm 25 = .ok (.ldc 92, 2) := by decide +kernel
theorem dX7_dropTerm_27 : decode cX7_dropTerm 27 = .ok (.ireturn, 1) := by decide +kernel
theorem dX7_dropTerm_28 : decode cX7_dropTerm 28 = .ok (.aload_n 0, 1) := by decide +kernel
theorem dX7_dropTerm_29 : decode cX7_dropTerm 29 = .ok (.getfield 19, 3) := by decide +kernel
theorem dX7_dropTerm_32 : decode cX7_dropTerm 32 = .ok (.iload_n 1, 1) := by decide +kernel
theorem dX7_dropTerm_33 : decode cX7_dropTerm 33 = .ok (.invokevirtual 118, 3) := by decide +kernel
theorem dX7_dropTerm_36 : decode cX7_dropTerm 36 = .ok (.aload_n 0, 1) := by decide +kernel
theorem dX7_dropTerm_37 : decode cX7_dropTerm 37 = .ok (.invokevirtual 97, 3) := by decide +kernel
theorem dX7_dropTerm_40 : decode cX7_dropTerm 40 = .ok (.aload_n 0, 1) := by decide +kernel
theorem dX7_dropTerm_41 : decode cX7_dropTerm 41 = .ok (.getfield 19, 3) := by decide +kernel
theorem dX7_dropTerm_44 : decode cX7_dropTerm 44 = .ok (.getfield 122, 3) := by decide +kernel
theorem dX7_dropTerm_47 : decode cX7_dropTerm 47 = .ok (.ireturn, 1) := by decide +kernel
theorem dX7_dropEnding_0 : decode cX7_dropEnding 0 = .ok (.aload_n 0, 1) := by decide +kernel
theorem dX7_dropEnding_1 : decode cX7_dropEnding 1 = .ok (.getfield 19, 3) := by decide +kernel
theorem dX7_dropEnding_4 : decode cX7_dropEnding 4 = .ok (.iload_n 1, 1) := by decide +kernel
theorem dX7_dropEnding_5 : decode cX7_dropEnding 5 = .ok (.invokevirtual 125, 3) := by decide +kernel
theorem dX7_dropEnding_8 : decode cX7_dropEnding 8 = .ok (.ifCond .ne 6, 3) := by decide +kernel
theorem dX7_dropEnding_11 : decode cX7_dropEnding 11 = .ok (.ldc 114, 2) := by decide +kernel
theorem dX7_dropEnding_13 : decode cX7_dropEnding 13 = .ok (.ireturn, 1) := by decide +kernel
theorem dX7_dropEnding_14 : decode cX7_dropEnding 14 = .ok (.aload_n 0, 1) := by decide +kernel
theorem dX7_dropEnding_15 : decode cX7_dropEnding 15 = .ok (.getfield 19, 3) := by decide +kernel
theorem dX7_dropEnding_18 : decode cX7_dropEnding 18 = .ok (.iload_n 1, 1) := by decide +kernel
theorem dX7_dropEnding_19 : decode cX7_dropEnding 19 = .ok (.invokevirtual 128, 3) := by decide +kernel
theorem dX7_dropEnding_22 : decode cX7_dropEnding 22 = .ok (.aload_n 0, 1) := by decide +kernel
theorem dX7_dropEnding_23 : decode cX7_dropEnding 23 = .ok (.invokevirtual 97, 3) := by decide +kernel
theorem dX7_dropEnding_26 : decode cX7_dropEnding 26 = .ok (.aload_n 0, 1) := by decide +kernel
theorem dX7_dropEnding_27 : decode cX7_dropEnding 27 = .ok (.getfield 19, 3) := by decide +kernel
theorem dX7_dropEnding_30 : decode cX7_dropEnding 30 = .ok (.getfield 131, 3) := by decide +kernel
theorem dX7_dropEnding_33 : decode cX7_dropEnding 33 = .ok (.ireturn, 1) := by decide +kernel
theorem dX7_forbid_0 : decode cX7_forbid 0 = .ok (.aload_n 0, 1) := by decide +kernel
theorem dX7_forbid_1 : decode cX7_forbid 1 = .ok (.getfield 19, 3) := by decide +kernel
theorem dX7_forbid_4 : decode cX7_forbid 4 = .ok (.iload_n 1, 1) := by decide +kernel
theorem dX7_forbid_5 : decode cX7_forbid 5 = .ok (.invokevirtual 111, 3) := by decide +kernel
theorem dX7_forbid_8 : decode cX7_forbid 8 = .ok (.ifCond .eq 19, 3) := by decide +kernel
theorem dX7_forbid_11 : decode cX7_forbid 11 = .ok (.aload_n 0, 1) := by decide +kernel
theorem dX7_forbid_12 : decode cX7_forbid 12 = .ok (.getfield 19, 3) := by decide +kernel
theorem dX7_forbid_15 : decode cX7_forbid 15 = .ok (.iload_n 2, 1) := by decide +kernel
theorem dX7_forbid_16 : decode cX7_forbid 16 = .ok (.invokevirtual 111, 3) := by decide +kernel
theorem dX7_forbid_19 : decode cX7_forbid 19 = .ok (.ifCond .eq 8, 3) := by decide +kernel
theorem dX7_forbid_22 : decode cX7_forbid 22 = .ok (.iload_n 1, 1) := by decide +kernel
theorem dX7_forbid_23 : decode cX7_forbid 23 = .ok (.iload_n 2, 1) := by decide +kernel
theorem dX7_forbid_24 : decode cX7_forbid 24 = .ok (.if_icmp .ne 6, 3) := by decide +kernel
theorem dX7_forbid_27 : decode cX7_forbid 27 = .ok (.ldc 114, 2) := by decide +kernel
theorem dX7_forbid_29 : decode cX7_forbid 29 = .ok (.ireturn, 1) := by decide +kernel
theorem dX7_forbid_30 : decode cX7_forbid 30 = .ok (.aload_n 0, 1) := by decide +kernel
theorem dX7_forbid_31 : decode cX7_forbid 31 = .ok (.getfield 19, 3) := by decide +kernel
theorem dX7_forbid_34 : decode cX7_forbid 34 = .ok (.iload_n 1, 1) := by decide +kernel
theorem dX7_forbid_35 : decode cX7_forbid 35 = .ok (.invokevirtual 115, 3) := by decide +kernel
theorem dX7_forbid_38 : decode cX7_forbid 38 = .ok (.ifCond .ne 14, 3) := by decide +kernel
theorem dX7_forbid_41 : decode cX7_forbid 41 = .ok (.aload_n 0, 1) := by decide +kernel
theorem dX7_forbid_42 : decode cX7_forbid 42 = .ok (.getfield 19, 3) := by decide +kernel
theorem dX7_forbid_45 : decode cX7_forbid 45 = .ok (.iload_n 2, 1) := by decide +kernel
theorem dX7_forbid_46 : decode cX7_forbid 46 = .ok (.invokevirtual 134, 3) := by decide +kernel
theorem dX7_forbid_49 : decode cX7_forbid 49 = .ok (.ifCond .eq 6, 3) := by decide +kernel
theorem dX7_forbid_52 : decode cX7_forbid 52 = .ok (.ldc 92, 2) := by decide +kernel
theorem dX7_forbid_54 : decode cX7_forbid 54 = .ok (.ireturn, 1) := by decide +kernel
theorem dX7_forbid_55 : decode cX7_forbid 55 = .ok (.aload_n 0, 1) := by decide +kernel
theorem dX7_forbid_56 : decode cX7_forbid 56 = .ok (.getfield 19, 3) := by decide +kernel
theorem dX7_forbid_59 : decode cX7_forbid 59 = .ok (.getfield 137, 3) := by decide +kernel
theorem dX7_forbid_62 : decode cX7_forbid 62 = .ok (.iload_n 1, 1) := by decide +kernel
theorem dX7_forbid_63 : decode cX7_forbid 63 = .ok (.iload_n 2, 1) := by decide +kernel
theorem dX7_forbid_64 : decode cX7_forbid 64 = .ok (.iastore, 1) := by decide +kernel
theorem dX7_forbid_65 : decode cX7_forbid 65 = .ok (.aload_n 0, 1) := by decide +kernel
theorem dX7_forbid_66 : decode cX7_forbid 66 = .ok (.invokevirtual 97, 3) := by decide +kernel
theorem dX7_forbid_69 : decode cX7_forbid 69 = .ok (.aload_n 0, 1) := by decide +kernel
theorem dX7_forbid_70 : decode cX7_forbid 70 = .ok (.getfield 19, 3) := by decide +kernel
theorem dX7_forbid_73 : decode cX7_forbid 73 = .ok (.invokevirtual 141, 3) := by decide +kernel
theorem dX7_forbid_76 : decode cX7_forbid 76 = .ok (.invokestatic 144, 3) := by decide +kernel
theorem dX7_forbid_79 : decode cX7_forbid 79 = .ok (.ireturn, 1) := by decide +kernel
theorem dX7_allow_0 : decode cX7_allow 0 = .ok (.aload_n 0, 1) := by decide +kernel
theorem dX7_allow_1 : decode cX7_allow 1 = .ok (.getfield 19, 3) := by decide +kernel
theorem dX7_allow_4 : decode cX7_allow 4 = .ok (.iload_n 1, 1) := by decide +kernel
theorem dX7_allow_5 : decode cX7_allow 5 = .ok (.invokevirtual 111, 3) := by decide +kernel
theorem dX7_allow_8 : decode cX7_allow 8 = .ok (.ifCond .ne 6, 3) := by decide +kernel
theorem dX7_allow_11 : decode cX7_allow 11 = .ok (.ldc 114, 2) := by decide +kernel
theorem dX7_allow_13 : decode cX7_allow 13 = .ok (.ireturn, 1) := by decide +kernel
theorem dX7_allow_14 : decode cX7_allow 14 = .ok (.aload_n 0, 1) := by decide +kernel
theorem dX7_allow_15 : decode cX7_allow 15 = .ok (.getfield 19, 3) := by decide +kernel
theorem dX7_allow_18 : decode cX7_allow 18 = .ok (.iload_n 1, 1) := by decide +kernel
theorem dX7_allow_19 : decode cX7_allow 19 = .ok (.invokevirtual 134, 3) := by decide +kernel
theorem dX7_allow_22 : decode cX7_allow 22 = .ok (.ifCond .ne 6, 3) := by decide +kernel
theorem dX7_allow_25 : decode cX7_allow 25 = .ok (.ldc 92, 2) := by decide +kernel
theorem dX7_allow_27 : decode cX7_allow 27 = .ok (.ireturn, 1) := by decide +kernel
theorem dX7_allow_28 : decode cX7_allow 28 = .ok (.aload_n 0, 1) := by decide +kernel
theorem dX7_allow_29 : decode cX7_allow 29 = .ok (.getfield 19, 3) := by decide +kernel
theorem dX7_allow_32 : decode cX7_allow 32 = .ok (.getfield 137, 3) := by decide +kernel
theorem dX7_allow_35 : decode cX7_allow 35 = .ok (.iload_n 1, 1) := by decide +kernel
theorem dX7_allow_36 : decode cX7_allow 36 = .ok (.iconst (-1), 1) := by decide +kernel
theorem dX7_allow_37 : decode cX7_allow 37 = .ok (.iastore, 1) := by decide +kernel
theorem dX7_allow_38 : decode cX7_allow 38 = .ok (.aload_n 0, 1) := by decide +kernel
theorem dX7_allow_39 : decode cX7_allow 39 = .ok (.invokevirtual 97, 3) := by decide +kernel
theorem dX7_allow_42 : decode cX7_allow 42 = .ok (.aload_n 0, 1) := by decide +kernel
theorem dX7_allow_43 : decode cX7_allow 43 = .ok (.getfield 19, 3) := by decide +kernel
theorem dX7_allow_46 : decode cX7_allow 46 = .ok (.invokevirtual 141, 3) := by decide +kernel
theorem dX7_allow_49 : decode cX7_allow 49 = .ok (.invokestatic 144, 3) := by decide +kernel
theorem dX7_allow_52 : decode cX7_allow 52 = .ok (.ireturn, 1) := by decide +kernel
theorem dX7_change_0 : decode cX7_change 0 = .ok (.aload_n 0, 1) := by decide +kernel
theorem dX7_change_1 : decode cX7_change 1 = .ok (.getfield 19, 3) := by decide +kernel
theorem dX7_change_4 : decode cX7_change 4 = .ok (.iload_n 1, 1) := by decide +kernel
theorem dX7_change_5 : decode cX7_change 5 = .ok (.invokevirtual 111, 3) := by decide +kernel
theorem dX7_change_8 : decode cX7_change 8 = .ok (.ifCond .ne 6, 3) := by decide +kernel
theorem dX7_change_11 : decode cX7_change 11 = .ok (.ldc 114, 2) := by decide +kernel
theorem dX7_change_13 : decode cX7_change 13 = .ok (.ireturn, 1) := by decide +kernel
theorem dX7_change_14 : decode cX7_change 14 = .ok (.iload_n 2, 1) := by decide +kernel
theorem dX7_change_15 : decode cX7_change 15 = .ok (.ifCond .ne 38, 3) := by decide +kernel
theorem dX7_change_18 : decode cX7_change 18 = .ok (.iload_n 3, 1) := by decide +kernel
theorem dX7_change_19 : decode cX7_change 19 = .ok (.invokestatic 74, 3) := by decide +kernel
theorem dX7_change_22 : decode cX7_change 22 = .ok (.ifCond .eq 31, 3) := by decide +kernel
theorem dX7_change_25 : decode cX7_change 25 = .ok (.aload_n 0, 1) := by decide +kernel
theorem dX7_change_26 : decode cX7_change 26 = .ok (.getfield 19, 3) := by decide +kernel
theorem dX7_change_29 : decode cX7_change 29 = .ok (.getfield 150, 3) := by decide +kernel
theorem dX7_change_32 : decode cX7_change 32 = .ok (.iload_n 1, 1) := by decide +kernel
theorem dX7_change_33 : decode cX7_change 33 = .ok (.iaload, 1) := by decide +kernel
theorem dX7_change_34 : decode cX7_change 34 = .ok (.istore 4, 2) := by decide +kernel
theorem dX7_change_36 : decode cX7_change 36 = .ok (.aload_n 0, 1) := by decide +kernel
theorem dX7_change_37 : decode cX7_change 37 = .ok (.getfield 19, 3) := by decide +kernel
theorem dX7_change_40 : decode cX7_change 40 = .ok (.getfield 150, 3) := by decide +kernel
theorem dX7_change_43 : decode cX7_change 43 = .ok (.iload_n 1, 1) := by decide +kernel
theorem dX7_change_44 : decode cX7_change 44 = .ok (.iload_n 3, 1) := by decide +kernel
theorem dX7_change_45 : decode cX7_change 45 = .ok (.iastore, 1) := by decide +kernel
theorem dX7_change_46 : decode cX7_change 46 = .ok (.aload_n 0, 1) := by decide +kernel
theorem dX7_change_47 : decode cX7_change 47 = .ok (.invokevirtual 97, 3) := by decide +kernel
theorem dX7_change_50 : decode cX7_change 50 = .ok (.iload 4, 2) := by decide +kernel
theorem dX7_change_52 : decode cX7_change 52 = .ok (.ireturn, 1) := by decide +kernel
theorem dX7_change_53 : decode cX7_change 53 = .ok (.iload_n 2, 1) := by decide +kernel
theorem dX7_change_54 : decode cX7_change 54 = .ok (.iconst 1, 1) := by decide +kernel
theorem dX7_change_55 : decode cX7_change 55 = .ok (.if_icmp .ne 38, 3) := by decide +kernel
theorem dX7_change_58 : decode cX7_change 58 = .ok (.iload_n 3, 1) := by decide +kernel
theorem dX7_change_59 : decode cX7_change 59 = .ok (.invokestatic 77, 3) := by decide +kernel
theorem dX7_change_62 : decode cX7_change 62 = .ok (.ifCond .eq 31, 3) := by decide +kernel
theorem dX7_change_65 : decode cX7_change 65 = .ok (.aload_n 0, 1) := by decide +kernel
theorem dX7_change_66 : decode cX7_change 66 = .ok (.getfield 19, 3) := by decide +kernel
theorem dX7_change_69 : decode cX7_change 69 = .ok (.getfield 153, 3) := by decide +kernel
theorem dX7_change_72 : decode cX7_change 72 = .ok (.iload_n 1, 1) := by decide +kernel
theorem dX7_change_73 : decode cX7_change 73 = .ok (.iaload, 1) := by decide +kernel
theorem dX7_change_74 : decode cX7_change 74 = .ok (.istore 4, 2) := by decide +kernel
theorem dX7_change_76 : decode cX7_change 76 = .ok (.aload_n 0, 1) := by decide +kernel
theorem dX7_change_77 : decode cX7_change 77 = .ok (.getfield 19, 3) := by decide +kernel
theorem dX7_change_80 : decode cX7_change 80 = .ok (.getfield 153, 3) := by decide +kernel
theorem dX7_change_83 : decode cX7_change 83 = .ok (.iload_n 1, 1) := by decide +kernel
theorem dX7_change_84 : decode cX7_change 84 = .ok (.iload_n 3, 1) := by decide +kernel
theorem dX7_change_85 : decode cX7_change 85 = .ok (.iastore, 1) := by decide +kernel
theorem dX7_change_86 : decode cX7_change 86 = .ok (.aload_n 0, 1) := by decide +kernel
theorem dX7_change_87 : decode cX7_change 87 = .ok (.invokevirtual 97, 3) := by decide +kernel
theorem dX7_change_90 : decode cX7_change 90 = .ok (.iload 4, 2) := by decide +kernel
theorem dX7_change_92 : decode cX7_change 92 = .ok (.ireturn, 1) := by decide +kernel
theorem dX7_change_93 : decode cX7_change 93 = .ok (.ldc 65, 2) := by decide +kernel
theorem dX7_change_95 : decode cX7_change 95 = .ok (.ireturn, 1) := by decide +kernel
theorem dX7_termOf_0 : decode cX7_termOf 0 = .ok (.aload_n 0, 1) := by decide +kernel
theorem dX7_termOf_1 : decode cX7_termOf 1 = .ok (.getfield 19, 3) := by decide +kernel
theorem dX7_termOf_4 : decode cX7_termOf 4 = .ok (.iload_n 1, 1) := by decide +kernel
theorem dX7_termOf_5 : decode cX7_termOf 5 = .ok (.invokevirtual 111, 3) := by decide +kernel
theorem dX7_termOf_8 : decode cX7_termOf 8 = .ok (.ifCond .ne 6, 3) := by decide +kernel
theorem dX7_termOf_11 : decode cX7_termOf 11 = .ok (.ldc 114, 2) := by decide +kernel
theorem dX7_termOf_13 : decode cX7_termOf 13 = .ok (.ireturn, 1) := by decide +kernel
theorem dX7_termOf_14 : decode cX7_termOf 14 = .ok (.iload_n 2, 1) := by decide +kernel
theorem dX7_termOf_15 : decode cX7_termOf 15 = .ok (.tableswitch 95 0 5 #[37, 47, 57, 67, 77, 86], 37) := by decide +kernel
theorem dX7_termOf_52 : decode cX7_termOf 52 = .ok (.aload_n 0, 1) := by decide +kernel
theorem dX7_termOf_53 : decode cX7_termOf 53 = .ok (.getfield 19, 3) := by decide +kernel
theorem dX7_termOf_56 : decode cX7_termOf 56 = .ok (.getfield 156, 3) := by decide +kernel
theorem dX7_termOf_59 : decode cX7_termOf 59 = .ok (.iload_n 1, 1) := by decide +kernel
theorem dX7_termOf_60 : decode cX7_termOf 60 = .ok (.iaload, 1) := by decide +kernel
theorem dX7_termOf_61 : decode cX7_termOf 61 = .ok (.ireturn, 1) := by decide +kernel
theorem dX7_termOf_62 : decode cX7_termOf 62 = .ok (.aload_n 0, 1) := by decide +kernel
theorem dX7_termOf_63 : decode cX7_termOf 63 = .ok (.getfield 19, 3) := by decide +kernel
theorem dX7_termOf_66 : decode cX7_termOf 66 = .ok (.getfield 150, 3) := by decide +kernel
theorem dX7_termOf_69 : decode cX7_termOf 69 = .ok (.iload_n 1, 1) := by decide +kernel
theorem dX7_termOf_70 : decode cX7_termOf 70 = .ok (.iaload, 1) := by decide +kernel
theorem dX7_termOf_71 : decode cX7_termOf 71 = .ok (.ireturn, 1) := by decide +kernel
theorem dX7_termOf_72 : decode cX7_termOf 72 = .ok (.aload_n 0, 1) := by decide +kernel
theorem dX7_termOf_73 : decode cX7_termOf 73 = .ok (.getfield 19, 3) := by decide +kernel
theorem dX7_termOf_76 : decode cX7_termOf 76 = .ok (.getfield 153, 3) := by decide +kernel
theorem dX7_termOf_79 : decode cX7_termOf 79 = .ok (.iload_n 1, 1) := by decide +kernel
theorem dX7_termOf_80 : decode cX7_termOf 80 = .ok (.iaload, 1) := by decide +kernel
theorem dX7_termOf_81 : decode cX7_termOf 81 = .ok (.ireturn, 1) := by decide +kernel
theorem dX7_termOf_82 : decode cX7_termOf 82 = .ok (.aload_n 0, 1) := by decide +kernel
theorem dX7_termOf_83 : decode cX7_termOf 83 = .ok (.getfield 19, 3) := by decide +kernel
theorem dX7_termOf_86 : decode cX7_termOf 86 = .ok (.getfield 137, 3) := by decide +kernel
theorem dX7_termOf_89 : decode cX7_termOf 89 = .ok (.iload_n 1, 1) := by decide +kernel
theorem dX7_termOf_90 : decode cX7_termOf 90 = .ok (.iaload, 1) := by decide +kernel
theorem dX7_termOf_91 : decode cX7_termOf 91 = .ok (.ireturn, 1) := by decide +kernel
theorem dX7_termOf_92 : decode cX7_termOf 92 = .ok (.aload_n 0, 1) := by decide +kernel
theorem dX7_termOf_93 : decode cX7_termOf 93 = .ok (.invokevirtual 159, 3) := by decide +kernel
theorem dX7_termOf_96 : decode cX7_termOf 96 = .ok (.iload_n 1, 1) := by decide +kernel
theorem dX7_termOf_97 : decode cX7_termOf 97 = .ok (.invokevirtual 163, 3) := by decide +kernel
theorem dX7_termOf_100 : decode cX7_termOf 100 = .ok (.ireturn, 1) := by decide +kernel
theorem dX7_termOf_101 : decode cX7_termOf 101 = .ok (.aload_n 0, 1) := by decide +kernel
theorem dX7_termOf_102 : decode cX7_termOf 102 = .ok (.invokevirtual 159, 3) := by decide +kernel
theorem dX7_termOf_105 : decode cX7_termOf 105 = .ok (.iload_n 1, 1) := by decide +kernel
theorem dX7_termOf_106 : decode cX7_termOf 106 = .ok (.invokevirtual 166, 3) := by decide +kernel
theorem dX7_termOf_109 : decode cX7_termOf 109 = .ok (.ireturn, 1) := by decide +kernel
theorem dX7_termOf_110 : decode cX7_termOf 110 = .ok (.ldc 65, 2) := by decide +kernel
theorem dX7_termOf_112 : decode cX7_termOf 112 = .ok (.ireturn, 1) := by decide +kernel
theorem dX7_letter_0 : decode cX7_letter 0 = .ok (.iload_n 2, 1) := by decide +kernel
theorem dX7_letter_1 : decode cX7_letter 1 = .ok (.iconst (-1), 1) := by decide +kernel
theorem dX7_letter_2 : decode cX7_letter 2 = .ok (.if_icmp .ne 14, 3) := by decide +kernel
theorem dX7_letter_5 : decode cX7_letter 5 = .ok (.aload_n 0, 1) := by decide +kernel
theorem dX7_letter_6 : decode cX7_letter 6 = .ok (.getfield 19, 3) := by decide +kernel
theorem dX7_letter_9 : decode cX7_letter 9 = .ok (.iload_n 1, 1) := by decide +kernel
theorem dX7_letter_10 : decode cX7_letter 10 = .ok (.invokevirtual 125, 3) := by decide +kernel
theorem dX7_letter_13 : decode cX7_letter 13 = .ok (.goto 11, 3) := by decide +kernel
theorem dX7_letter_16 : decode cX7_letter 16 = .ok (.aload_n 0, 1) := by decide +kernel
theorem dX7_letter_17 : decode cX7_letter 17 = .ok (.getfield 19, 3) := by decide +kernel
theorem dX7_letter_20 : decode cX7_letter 20 = .ok (.iload_n 1, 1) := by decide +kernel
theorem dX7_letter_21 : decode cX7_letter 21 = .ok (.invokevirtual 111, 3) := by decide +kernel
theorem dX7_letter_24 : decode cX7_letter 24 = .ok (.istore 4, 2) := by decide +kernel
theorem dX7_letter_26 : decode cX7_letter 26 = .ok (.iload 4, 2) := by decide +kernel
theorem dX7_letter_28 : decode cX7_letter 28 = .ok (.ifCond .ne 6, 3) := by decide +kernel
theorem dX7_letter_31 : decode cX7_letter 31 = .ok (.ldc 114, 2) := by decide +kernel
theorem dX7_letter_33 : decode cX7_letter 33 = .ok (.ireturn, 1) := by decide +kernel
theorem dX7_letter_34 : decode cX7_letter 34 = .ok (.iload_n 3, 1) := by decide +kernel
theorem dX7_letter_35 : decode cX7_letter 35 = .ok (.ifCond .ge 6, 3) := by decide +kernel
theorem dX7_letter_38 : decode cX7_letter 38 = .ok (.ldc 65, 2) := by decide +kernel
theorem dX7_letter_40 : decode cX7_letter 40 = .ok (.ireturn, 1) := by decide +kernel
theorem dX7_letter_41 : decode cX7_letter 41 = .ok (.iload_n 2, 1) := by decide +kernel
theorem dX7_letter_42 : decode cX7_letter 42 = .ok (.iconst (-1), 1) := by decide +kernel
theorem dX7_letter_43 : decode cX7_letter 43 = .ok (.if_icmp .ne 17, 3) := by decide +kernel
theorem dX7_letter_46 : decode cX7_letter 46 = .ok (.aload_n 0, 1) := by decide +kernel
theorem dX7_letter_47 : decode cX7_letter 47 = .ok (.getfield 19, 3) := by decide +kernel
theorem dX7_letter_50 : decode cX7_letter 50 = .ok (.getfield 169, 3) := by decide +kernel
theorem dX7_letter_53 : decode cX7_letter 53 = .ok (.iload_n 1, 1) := by decide +kernel
theorem dX7_letter_54 : decode cX7_letter 54 = .ok (.laload, 1) := by decide +kernel
theorem dX7_letter_55 : decode cX7_letter 55 = .ok (.iload_n 3, 1) := by decide +kernel
theorem dX7_letter_56 : decode cX7_letter 56 = .ok (.invokestatic 172, 3) := by decide +kernel
theorem dX7_letter_59 : decode cX7_letter 59 = .ok (.ireturn, 1) := by decide +kernel
theorem dX7_letter_60 : decode cX7_letter 60 = .ok (.iload_n 2, 1) := by decide +kernel
theorem dX7_letter_61 : decode cX7_letter 61 = .ok (.ifCond .lt 16, 3) := by decide +kernel
theorem dX7_letter_64 : decode cX7_letter 64 = .ok (.iload_n 2, 1) := by decide +kernel
theorem dX7_letter_65 : decode cX7_letter 65 = .ok (.aload_n 0, 1) := by decide +kernel
theorem dX7_letter_66 : decode cX7_letter 66 = .ok (.getfield 19, 3) := by decide +kernel
theorem dX7_letter_69 : decode cX7_letter 69 = .ok (.getfield 156, 3) := by decide +kernel
theorem dX7_letter_72 : decode cX7_letter 72 = .ok (.iload_n 1, 1) := by decide +kernel
theorem dX7_letter_73 : decode cX7_letter 73 = .ok (.iaload, 1) := by decide +kernel
theorem dX7_letter_74 : decode cX7_letter 74 = .ok (.if_icmp .lt 6, 3) := by decide +kernel
theorem dX7_letter_77 : decode cX7_letter 77 = .ok (.ldc 65, 2) := by decide +kernel
theorem dX7_letter_79 : decode cX7_letter 79 = .ok (.ireturn, 1) := by decide +kernel
theorem dX7_letter_80 : decode cX7_letter 80 = .ok (.aload_n 0, 1) := by decide +kernel
theorem dX7_letter_81 : decode cX7_letter 81 = .ok (.getfield 19, 3) := by decide +kernel
theorem dX7_letter_84 : decode cX7_letter 84 = .ok (.iload_n 1, 1) := by decide +kernel
theorem dX7_letter_85 : decode cX7_letter 85 = .ok (.iload_n 2, 1) := by decide +kernel
theorem dX7_letter_86 : decode cX7_letter 86 = .ok (.invokevirtual 176, 3) := by decide +kernel
theorem dX7_letter_89 : decode cX7_letter 89 = .ok (.iload_n 3, 1) := by decide +kernel
theorem dX7_letter_90 : decode cX7_letter 90 = .ok (.invokestatic 172, 3) := by decide +kernel
theorem dX7_letter_93 : decode cX7_letter 93 = .ok (.ireturn, 1) := by decide +kernel
theorem dX7_read_0 : decode cX7_read 0 = .ok (.iload_n 1, 1) := by decide +kernel
theorem dX7_read_1 : decode cX7_read 1 = .ok (.ifCond .lt 10, 3) := by decide +kernel
theorem dX7_read_4 : decode cX7_read 4 = .ok (.iload_n 1, 1) := by decide +kernel
theorem dX7_read_5 : decode cX7_read 5 = .ok (.sipush 255, 3) := by decide +kernel
theorem dX7_read_8 : decode cX7_read 8 = .ok (.if_icmp .le 6, 3) := by decide +kernel
theorem dX7_read_11 : decode cX7_read 11 = .ok (.ldc 65, 2) := by decide +kernel
theorem dX7_read_13 : decode cX7_read 13 = .ok (.ireturn, 1) := by decide +kernel
theorem dX7_read_14 : decode cX7_read 14 = .ok (.iload_n 1, 1) := by decide +kernel
theorem dX7_read_15 : decode cX7_read 15 = .ok (.invokestatic 59, 3) := by decide +kernel
theorem dX7_read_18 : decode cX7_read 18 = .ok (.ifCond .eq 16, 3) := by decide +kernel
theorem dX7_read_21 : decode cX7_read 21 = .ok (.aload_n 0, 1) := by decide +kernel
theorem dX7_read_22 : decode cX7_read 22 = .ok (.getfield 30, 3) := by decide +kernel
theorem dX7_read_25 : decode cX7_read 25 = .ok (.invokevirtual 180, 3) := by decide +kernel
theorem dX7_read_28 : decode cX7_read 28 = .ok (.ifCond .ne 6, 3) := by decide +kernel
theorem dX7_read_31 : decode cX7_read 31 = .ok (.ldc 73, 2) := by decide +kernel
theorem dX7_read_33 : decode cX7_read 33 = .ok (.ireturn, 1) := by decide +kernel
theorem dX7_read_34 : decode cX7_read 34 = .ok (.aload_n 0, 1) := by decide +kernel
theorem dX7_read_35 : decode cX7_read 35 = .ok (.getfield 30, 3) := by decide +kernel
theorem dX7_read_38 : decode cX7_read 38 = .ok (.iload_n 1, 1) := by decide +kernel
theorem dX7_read_39 : decode cX7_read 39 = .ok (.invokevirtual 184, 3) := by decide +kernel
theorem dX7_read_42 : decode cX7_read 42 = .ok (.aload_n 0, 1) := by decide +kernel
theorem dX7_read_43 : decode cX7_read 43 = .ok (.invokevirtual 187, 3) := by decide +kernel
theorem dX7_read_46 : decode cX7_read 46 = .ok (.aload_n 0, 1) := by decide +kernel
theorem dX7_read_47 : decode cX7_read 47 = .ok (.getfield 30, 3) := by decide +kernel
theorem dX7_read_50 : decode cX7_read 50 = .ok (.getfield 190, 3) := by decide +kernel
theorem dX7_read_53 : decode cX7_read 53 = .ok (.ireturn, 1) := by decide +kernel
theorem dX7_wipe_0 : decode cX7_wipe 0 = .ok (.aload_n 0, 1) := by decide +kernel
theorem dX7_wipe_1 : decode cX7_wipe 1 = .ok (.getfield 30, 3) := by decide +kernel
theorem dX7_wipe_4 : decode cX7_wipe 4 = .ok (.getfield 190, 3) := by decide +kernel
theorem dX7_wipe_7 : decode cX7_wipe 7 = .ok (.istore_n 1, 1) := by decide +kernel
theorem dX7_wipe_8 : decode cX7_wipe 8 = .ok (.aload_n 0, 1) := by decide +kernel
theorem dX7_wipe_9 : decode cX7_wipe 9 = .ok (.getfield 30, 3) := by decide +kernel
theorem dX7_wipe_12 : decode cX7_wipe 12 = .ok (.invokevirtual 193, 3) := by decide +kernel
theorem dX7_wipe_15 : decode cX7_wipe 15 = .ok (.aload_n 0, 1) := by decide +kernel
theorem dX7_wipe_16 : decode cX7_wipe 16 = .ok (.getfield 39, 3) := by decide +kernel
theorem dX7_wipe_19 : decode cX7_wipe 19 = .ok (.invokevirtual 196, 3) := by decide +kernel
theorem dX7_wipe_22 : decode cX7_wipe 22 = .ok (.aload_n 0, 1) := by decide +kernel
theorem dX7_wipe_23 : decode cX7_wipe 23 = .ok (.invokevirtual 187, 3) := by decide +kernel
theorem dX7_wipe_26 : decode cX7_wipe 26 = .ok (.iload_n 1, 1) := by decide +kernel
theorem dX7_wipe_27 : decode cX7_wipe 27 = .ok (.ireturn, 1) := by decide +kernel
theorem dX7_drift_0 : decode cX7_drift 0 = .ok (.iload_n 1, 1) := by decide +kernel
theorem dX7_drift_1 : decode cX7_drift 1 = .ok (.iconst 1, 1) := by decide +kernel
theorem dX7_drift_2 : decode cX7_drift 2 = .ok (.if_icmp .lt 20, 3) := by decide +kernel
theorem dX7_drift_5 : decode cX7_drift 5 = .ok (.iload_n 1, 1) := by decide +kernel
theorem dX7_drift_6 : decode cX7_drift 6 = .ok (.bipush 30, 2) := by decide +kernel
theorem dX7_drift_8 : decode cX7_drift 8 = .ok (.if_icmp .gt 14, 3) := by decide +kernel
theorem dX7_drift_11 : decode cX7_drift 11 = .ok (.iload_n 2, 1) := by decide +kernel
theorem dX7_drift_12 : decode cX7_drift 12 = .ok (.iconst 1, 1) := by decide +kernel
theorem dX7_drift_13 : decode cX7_drift 13 = .ok (.if_icmp .lt 9, 3) := by decide +kernel
theorem dX7_drift_16 : decode cX7_drift 16 = .ok (.iload_n 2, 1) := by decide +kernel
theorem dX7_drift_17 : decode cX7_drift 17 = .ok (.ldc 199, 2) := by decide +kernel
theorem dX7_drift_19 : decode cX7_drift 19 = .ok (.if_icmp .le 6, 3) := by decide +kernel
theorem dX7_drift_22 : decode cX7_drift 22 = .ok (.ldc 65, 2) := by decide +kernel
theorem dX7_drift_24 : decode cX7_drift 24 = .ok (.ireturn, 1) := by decide +kernel
theorem dX7_drift_25 : decode cX7_drift 25 = .ok (.aload_n 0, 1) := by decide +kernel
theorem dX7_drift_26 : decode cX7_drift 26 = .ok (.getfield 55, 3) := by decide +kernel
theorem dX7_drift_29 : decode cX7_drift 29 = .ok (.iload_n 2, 1) := by decide +kernel
theorem dX7_drift_30 : decode cX7_drift 30 = .ok (.invokevirtual 200, 3) := by decide +kernel
theorem dX7_drift_33 : decode cX7_drift 33 = .ok (.iconst 1, 1) := by decide +kernel
theorem dX7_drift_34 : decode cX7_drift 34 = .ok (.istore_n 3, 1) := by decide +kernel
theorem dX7_drift_35 : decode cX7_drift 35 = .ok (.iconst 0, 1) := by decide +kernel
theorem dX7_drift_36 : decode cX7_drift 36 = .ok (.istore 4, 2) := by decide +kernel
theorem dX7_drift_38 : decode cX7_drift 38 = .ok (.iload 4, 2) := by decide +kernel
theorem dX7_drift_40 : decode cX7_drift 40 = .ok (.iload_n 1, 1) := by decide +kernel
theorem dX7_drift_41 : decode cX7_drift 41 = .ok (.if_icmp .ge 18, 3) := by decide +kernel
theorem dX7_drift_44 : decode cX7_drift 44 = .ok (.iload_n 3, 1) := by decide +kernel
theorem dX7_drift_45 : decode cX7_drift 45 = .ok (.ifCond .eq 14, 3) := by decide +kernel
theorem dX7_drift_48 : decode cX7_drift 48 = .ok (.aload_n 0, 1) := by decide +kernel
theorem dX7_drift_49 : decode cX7_drift 49 = .ok (.invokevirtual 203, 3) := by decide +kernel
theorem dX7_drift_52 : decode cX7_drift 52 = .ok (.istore_n 3, 1) := by decide +kernel
theorem dX7_drift_53 : decode cX7_drift 53 = .ok (.iinc 4 1, 3) := by decide +kernel
theorem dX7_drift_56 : decode cX7_drift 56 = .ok (.goto (-18), 3) := by decide +kernel
theorem dX7_drift_59 : decode cX7_drift 59 = .ok (.aload_n 0, 1) := by decide +kernel
theorem dX7_drift_60 : decode cX7_drift 60 = .ok (.invokevirtual 187, 3) := by decide +kernel
theorem dX7_drift_63 : decode cX7_drift 63 = .ok (.aload_n 0, 1) := by decide +kernel
theorem dX7_drift_64 : decode cX7_drift 64 = .ok (.getfield 30, 3) := by decide +kernel
theorem dX7_drift_67 : decode cX7_drift 67 = .ok (.getfield 190, 3) := by decide +kernel
theorem dX7_drift_70 : decode cX7_drift 70 = .ok (.ireturn, 1) := by decide +kernel
theorem dX7_word_0 : decode cX7_word 0 = .ok (.aload_n 0, 1) := by decide +kernel
theorem dX7_word_1 : decode cX7_word 1 = .ok (.getfield 30, 3) := by decide +kernel
theorem dX7_word_4 : decode cX7_word 4 = .ok (.iload_n 1, 1) := by decide +kernel
theorem dX7_word_5 : decode cX7_word 5 = .ok (.invokevirtual 206, 3) := by decide +kernel
theorem dX7_word_8 : decode cX7_word 8 = .ok (.ifCond .ne 6, 3) := by decide +kernel
theorem dX7_word_11 : decode cX7_word 11 = .ok (.ldc 114, 2) := by decide +kernel
theorem dX7_word_13 : decode cX7_word 13 = .ok (.ireturn, 1) := by decide +kernel
theorem dX7_word_14 : decode cX7_word 14 = .ok (.iload_n 2, 1) := by decide +kernel
theorem dX7_word_15 : decode cX7_word 15 = .ok (.tableswitch 106 0 5 #[37, 50, 60, 78, 87, 96], 37) := by decide +kernel
theorem dX7_word_52 : decode cX7_word 52 = .ok (.aload_n 0, 1) := by decide +kernel
theorem dX7_word_53 : decode cX7_word 53 = .ok (.getfield 30, 3) := by decide +kernel
theorem dX7_word_56 : decode cX7_word 56 = .ok (.getfield 209, 3) := by decide +kernel
theorem dX7_word_59 : decode cX7_word 59 = .ok (.iload_n 1, 1) := by decide +kernel
theorem dX7_word_60 : decode cX7_word 60 = .ok (.laload, 1) := by decide +kernel
theorem dX7_word_61 : decode cX7_word 61 = .ok (.invokestatic 100, 3) := by decide +kernel
theorem dX7_word_64 : decode cX7_word 64 = .ok (.ireturn, 1) := by decide +kernel
theorem dX7_word_65 : decode cX7_word 65 = .ok (.aload_n 0, 1) := by decide +kernel
theorem dX7_word_66 : decode cX7_word 66 = .ok (.getfield 30, 3) := by decide +kernel
theorem dX7_word_69 : decode cX7_word 69 = .ok (.getfield 210, 3) := by decide +kernel
theorem dX7_word_72 : decode cX7_word 72 = .ok (.iload_n 1, 1) := by decide +kernel
theorem dX7_word_73 : decode cX7_word 73 = .ok (.iaload, 1) := by decide +kernel
theorem dX7_word_74 : decode cX7_word 74 = .ok (.ireturn, 1) := by decide +kernel
theorem dX7_word_75 : decode cX7_word 75 = .ok (.aload_n 0, 1) := by decide +kernel
theorem dX7_word_76 : decode cX7_word 76 = .ok (.getfield 30, 3) := by decide +kernel
theorem dX7_word_79 : decode cX7_word 79 = .ok (.getfield 213, 3) := by decide +kernel
theorem dX7_word_82 : decode cX7_word 82 = .ok (.iload_n 1, 1) := by decide +kernel
theorem dX7_word_83 : decode cX7_word 83 = .ok (.baload, 1) := by decide +kernel
theorem dX7_word_84 : decode cX7_word 84 = .ok (.ifCond .eq 7, 3) := by decide +kernel
theorem dX7_word_87 : decode cX7_word 87 = .ok (.iconst 1, 1) := by decide +kernel
theorem dX7_word_88 : decode cX7_word 88 = .ok (.goto 4, 3) := by decide +kernel
theorem dX7_word_91 : decode cX7_word 91 = .ok (.iconst 0, 1) := by decide +kernel
theorem dX7_word_92 : decode cX7_word 92 = .ok (.ireturn, 1) := by decide +kernel
theorem dX7_word_93 : decode cX7_word 93 = .ok (.aload_n 0, 1) := by decide +kernel
theorem dX7_word_94 : decode cX7_word 94 = .ok (.invokevirtual 159, 3) := by decide +kernel
theorem dX7_word_97 : decode cX7_word 97 = .ok (.iload_n 1, 1) := by decide +kernel
theorem dX7_word_98 : decode cX7_word 98 = .ok (.invokevirtual 217, 3) := by decide +kernel
theorem dX7_word_101 : decode cX7_word 101 = .ok (.ireturn, 1) := by decide +kernel
theorem dX7_word_102 : decode cX7_word 102 = .ok (.aload_n 0, 1) := by decide +kernel
theorem dX7_word_103 : decode cX7_word 103 = .ok (.invokevirtual 159, 3) := by decide +kernel
theorem dX7_word_106 : decode cX7_word 106 = .ok (.iload_n 1, 1) := by decide +kernel
theorem dX7_word_107 : decode cX7_word 107 = .ok (.invokevirtual 220, 3) := by decide +kernel
theorem dX7_word_110 : decode cX7_word 110 = .ok (.ireturn, 1) := by decide +kernel
theorem dX7_word_111 : decode cX7_word 111 = .ok (.aload_n 0, 1) := by decide +kernel
theorem dX7_word_112 : decode cX7_word 112 = .ok (.invokevirtual 159, 3) := by decide +kernel
theorem dX7_word_115 : decode cX7_word 115 = .ok (.getfield 223, 3) := by decide +kernel
theorem dX7_word_118 : decode cX7_word 118 = .ok (.iload_n 1, 1) := by decide +kernel
theorem dX7_word_119 : decode cX7_word 119 = .ok (.iaload, 1) := by decide +kernel
theorem dX7_word_120 : decode cX7_word 120 = .ok (.ireturn, 1) := by decide +kernel
theorem dX7_word_121 : decode cX7_word 121 = .ok (.ldc 65, 2) := by decide +kernel
theorem dX7_word_123 : decode cX7_word 123 = .ok (.ireturn, 1) := by decide +kernel
theorem dX7_told_0 : decode cX7_told 0 = .ok (.iload_n 1, 1) := by decide +kernel
theorem dX7_told_1 : decode cX7_told 1 = .ok (.tableswitch 176 0 12 #[67, 75, 83, 91, 99, 107, 118, 126, 134, 144, 152, 160, 168], 67) := by decide +kernel
theorem dX7_told_68 : decode cX7_told 68 = .ok (.aload_n 0, 1) := by decide +kernel
theorem dX7_told_69 : decode cX7_told 69 = .ok (.getfield 19, 3) := by decide +kernel
theorem dX7_told_72 : decode cX7_told 72 = .ok (.getfield 122, 3) := by decide +kernel
theorem dX7_told_75 : decode cX7_told 75 = .ok (.ireturn, 1) := by decide +kernel
theorem dX7_told_76 : decode cX7_told 76 = .ok (.aload_n 0, 1) := by decide +kernel
theorem dX7_told_77 : decode cX7_told 77 = .ok (.getfield 19, 3) := by decide +kernel
theorem dX7_told_80 : decode cX7_told 80 = .ok (.getfield 131, 3) := by decide +kernel
theorem dX7_told_83 : decode cX7_told 83 = .ok (.ireturn, 1) := by decide +kernel
theorem dX7_told_84 : decode cX7_told 84 = .ok (.aload_n 0, 1) := by decide +kernel
theorem dX7_told_85 : decode cX7_told 85 = .ok (.getfield 10, 3) := by decide +kernel
theorem dX7_told_88 : decode cX7_told 88 = .ok (.getfield 69, 3) := by decide +kernel
theorem dX7_told_91 : decode cX7_told 91 = .ok (.ireturn, 1) := by decide +kernel
theorem dX7_told_92 : decode cX7_told 92 = .ok (.aload_n 0, 1) := by decide +kernel
theorem dX7_told_93 : decode cX7_told 93 = .ok (.getfield 30, 3) := by decide +kernel
theorem dX7_told_96 : decode cX7_told 96 = .ok (.getfield 190, 3) := by decide +kernel
theorem dX7_told_99 : decode cX7_told 99 = .ok (.ireturn, 1) := by decide +kernel
theorem dX7_told_100 : decode cX7_told 100 = .ok (.aload_n 0, 1) := by decide +kernel
theorem dX7_told_101 : decode cX7_told 101 = .ok (.getfield 30, 3) := by decide +kernel
theorem dX7_told_104 : decode cX7_told 104 = .ok (.getfield 226, 3) := by decide +kernel
theorem dX7_told_107 : decode cX7_told 107 = .ok (.ireturn, 1) := by decide +kernel
theorem dX7_told_108 : decode cX7_told 108 = .ok (.aload_n 0, 1) := by decide +kernel
theorem dX7_told_109 : decode cX7_told 109 = .ok (.getfield 30, 3) := by decide +kernel
theorem dX7_told_112 : decode cX7_told 112 = .ok (.getfield 229, 3) := by decide +kernel
theorem dX7_told_115 : decode cX7_told 115 = .ok (.invokestatic 100, 3) := by decide +kernel
theorem dX7_told_118 : decode cX7_told 118 = .ok (.ireturn, 1) := by decide +kernel
theorem dX7_told_119 : decode cX7_told 119 = .ok (.aload_n 0, 1) := by decide +kernel
theorem dX7_told_120 : decode cX7_told 120 = .ok (.invokevirtual 159, 3) := by decide +kernel
theorem dX7_told_123 : decode cX7_told 123 = .ok (.invokevirtual 233, 3) := by decide +kernel
theorem dX7_told_126 : decode cX7_told 126 = .ok (.ireturn, 1) := by decide +kernel
theorem dX7_told_127 : decode cX7_told 127 = .ok (.aload_n 0, 1) := by decide +kernel
theorem dX7_told_128 : decode cX7_told 128 = .ok (.invokevirtual 159, 3) := by decide +kernel
theorem dX7_told_131 : decode cX7_told 131 = .ok (.getfield 236, 3) := by decide +kernel
theorem dX7_told_134 : decode cX7_told 134 = .ok (.ireturn, 1) := by decide +kernel
theorem dX7_told_135 : decode cX7_told 135 = .ok (.aload_n 0, 1) := by decide +kernel
theorem dX7_told_136 : decode cX7_told 136 = .ok (.invokevirtual 159, 3) := by decide +kernel
theorem dX7_told_139 : decode cX7_told 139 = .ok (.getfield 239, 3) := by decide +kernel
theorem dX7_told_142 : decode cX7_told 142 = .ok (.iconst 0, 1) := by decide +kernel
theorem dX7_told_143 : decode cX7_told 143 = .ok (.iaload, 1) := by decide +kernel
theorem dX7_told_144 : decode cX7_told 144 = .ok (.ireturn, 1) := by decide +kernel
theorem dX7_told_145 : decode cX7_told 145 = .ok (.aload_n 0, 1) := by decide +kernel
theorem dX7_told_146 : decode cX7_told 146 = .ok (.invokevirtual 159, 3) := by decide +kernel
theorem dX7_told_149 : decode cX7_told 149 = .ok (.invokevirtual 242, 3) := by decide +kernel
theorem dX7_told_152 : decode cX7_told 152 = .ok (.ireturn, 1) := by decide +kernel
theorem dX7_told_153 : decode cX7_told 153 = .ok (.aload_n 0, 1) := by decide +kernel
theorem dX7_told_154 : decode cX7_told 154 = .ok (.invokevirtual 159, 3) := by decide +kernel
theorem dX7_told_157 : decode cX7_told 157 = .ok (.invokevirtual 245, 3) := by decide +kernel
theorem dX7_told_160 : decode cX7_told 160 = .ok (.ireturn, 1) := by decide +kernel
theorem dX7_told_161 : decode cX7_told 161 = .ok (.aload_n 0, 1) := by decide +kernel
theorem dX7_told_162 : decode cX7_told 162 = .ok (.invokevirtual 248, 3) := by decide +kernel
theorem dX7_told_165 : decode cX7_told 165 = .ok (.getfield 252, 3) := by decide +kernel
theorem dX7_told_168 : decode cX7_told 168 = .ok (.ireturn, 1) := by decide +kernel
theorem dX7_told_169 : decode cX7_told 169 = .ok (.aload_n 0, 1) := by decide +kernel
theorem dX7_told_170 : decode cX7_told 170 = .ok (.getfield 19, 3) := by decide +kernel
theorem dX7_told_173 : decode cX7_told 173 = .ok (.invokevirtual 141, 3) := by decide +kernel
theorem dX7_told_176 : decode cX7_told 176 = .ok (.ireturn, 1) := by decide +kernel
theorem dX7_told_177 : decode cX7_told 177 = .ok (.ldc 65, 2) := by decide +kernel
theorem dX7_told_179 : decode cX7_told 179 = .ok (.ireturn, 1) := by decide +kernel
theorem dX7_found_0 : decode cX7_found 0 = .ok (.iload_n 1, 1) := by decide +kernel
theorem dX7_found_1 : decode cX7_found 1 = .ok (.ifCond .lt 12, 3) := by decide +kernel
theorem dX7_found_4 : decode cX7_found 4 = .ok (.iload_n 2, 1) := by decide +kernel
theorem dX7_found_5 : decode cX7_found 5 = .ok (.ifCond .lt 8, 3) := by decide +kernel
theorem dX7_found_8 : decode cX7_found 8 = .ok (.iload_n 2, 1) := by decide +kernel
theorem dX7_found_9 : decode cX7_found 9 = .ok (.iconst 3, 1) := by decide +kernel
theorem dX7_found_10 : decode cX7_found 10 = .ok (.if_icmp .le 6, 3) := by decide +kernel
theorem dX7_found_13 : decode cX7_found 13 = .ok (.ldc 65, 2) := by decide +kernel
theorem dX7_found_15 : decode cX7_found 15 = .ok (.ireturn, 1) := by decide +kernel
theorem dX7_found_16 : decode cX7_found 16 = .ok (.aload_n 0, 1) := by decide +kernel
theorem dX7_found_17 : decode cX7_found 17 = .ok (.invokevirtual 159, 3) := by decide +kernel
theorem dX7_found_20 : decode cX7_found 20 = .ok (.iload_n 1, 1) := by decide +kernel
theorem dX7_found_21 : decode cX7_found 21 = .ok (.invokevirtual 253, 3) := by decide +kernel
theorem dX7_found_24 : decode cX7_found 24 = .ok (.istore_n 3, 1) := by decide +kernel
theorem dX7_found_25 : decode cX7_found 25 = .ok (.aload_n 0, 1) := by decide +kernel
theorem dX7_found_26 : decode cX7_found 26 = .ok (.getfield 39, 3) := by decide +kernel
theorem dX7_found_29 : decode cX7_found 29 = .ok (.iload_n 1, 1) := by decide +kernel
theorem dX7_found_30 : decode cX7_found 30 = .ok (.invokevirtual 256, 3) := by decide +kernel
theorem dX7_found_33 : decode cX7_found 33 = .ok (.istore 4, 2) := by decide +kernel
theorem dX7_found_35 : decode cX7_found 35 = .ok (.iload_n 3, 1) := by decide +kernel
theorem dX7_found_36 : decode cX7_found 36 = .ok (.iconst (-1), 1) := by decide +kernel
theorem dX7_found_37 : decode cX7_found 37 = .ok (.if_icmp .eq 9, 3) := by decide +kernel
theorem dX7_found_40 : decode cX7_found 40 = .ok (.iload 4, 2) := by decide +kernel
theorem dX7_found_42 : decode cX7_found 42 = .ok (.iconst (-1), 1) := by decide +kernel
theorem dX7_found_43 : decode cX7_found 43 = .ok (.if_icmp .ne 5, 3) := by decide +kernel
theorem dX7_found_46 : decode cX7_found 46 = .ok (.iconst (-1), 1) := by decide +kernel
theorem dX7_found_47 : decode cX7_found 47 = .ok (.ireturn, 1) := by decide +kernel
theorem dX7_found_48 : decode cX7_found 48 = .ok (.iload_n 2, 1) := by decide +kernel
theorem dX7_found_49 : decode cX7_found 49 = .ok (.tableswitch 42 0 2 #[27, 29, 32], 27) := by decide +kernel
theorem dX7_found_76 : decode cX7_found 76 = .ok (.iload_n 3, 1) := by decide +kernel
theorem dX7_found_77 : decode cX7_found 77 = .ok (.ireturn, 1) := by decide +kernel
theorem dX7_found_78 : decode cX7_found 78 = .ok (.iload 4, 2) := by decide +kernel
theorem dX7_found_80 : decode cX7_found 80 = .ok (.ireturn, 1) := by decide +kernel
theorem dX7_found_81 : decode cX7_found 81 = .ok (.aload_n 0, 1) := by decide +kernel
theorem dX7_found_82 : decode cX7_found 82 = .ok (.getfield 19, 3) := by decide +kernel
theorem dX7_found_85 : decode cX7_found 85 = .ok (.iload 4, 2) := by decide +kernel
theorem dX7_found_87 : decode cX7_found 87 = .ok (.invokevirtual 259, 3) := by decide +kernel
theorem dX7_found_90 : decode cX7_found 90 = .ok (.ireturn, 1) := by decide +kernel
theorem dX7_found_91 : decode cX7_found 91 = .ok (.aload_n 0, 1) := by decide +kernel
theorem dX7_found_92 : decode cX7_found 92 = .ok (.getfield 39, 3) := by decide +kernel
theorem dX7_found_95 : decode cX7_found 95 = .ok (.iload_n 3, 1) := by decide +kernel
theorem dX7_found_96 : decode cX7_found 96 = .ok (.iload 4, 2) := by decide +kernel
theorem dX7_found_98 : decode cX7_found 98 = .ok (.invokevirtual 262, 3) := by decide +kernel
theorem dX7_found_101 : decode cX7_found 101 = .ok (.ifCond .eq 7, 3) := by decide +kernel
theorem dX7_found_104 : decode cX7_found 104 = .ok (.iconst 1, 1) := by decide +kernel
theorem dX7_found_105 : decode cX7_found 105 = .ok (.goto 4, 3) := by decide +kernel
theorem dX7_found_108 : decode cX7_found 108 = .ok (.iconst 0, 1) := by decide +kernel
theorem dX7_found_109 : decode cX7_found 109 = .ok (.ireturn, 1) := by decide +kernel
theorem dX7_chosen_0 : decode cX7_chosen 0 = .ok (.iload_n 1, 1) := by decide +kernel
theorem dX7_chosen_1 : decode cX7_chosen 1 = .ok (.ifCond .lt 12, 3) := by decide +kernel
theorem dX7_chosen_4 : decode cX7_chosen 4 = .ok (.iload_n 2, 1) := by decide +kernel
theorem dX7_chosen_5 : decode cX7_chosen 5 = .ok (.ifCond .lt 8, 3) := by decide +kernel
theorem dX7_chosen_8 : decode cX7_chosen 8 = .ok (.iload_n 2, 1) := by decide +kernel
theorem dX7_chosen_9 : decode cX7_chosen 9 = .ok (.iconst 3, 1) := by decide +kernel
theorem dX7_chosen_10 : decode cX7_chosen 10 = .ok (.if_icmp .le 6, 3) := by decide +kernel
theorem dX7_chosen_13 : decode cX7_chosen 13 = .ok (.ldc 65, 2) := by decide +kernel
theorem dX7_chosen_15 : decode cX7_chosen 15 = .ok (.ireturn, 1) := by decide +kernel
theorem dX7_chosen_16 : decode cX7_chosen 16 = .ok (.iload_n 1, 1) := by decide +kernel
theorem dX7_chosen_17 : decode cX7_chosen 17 = .ok (.aload_n 0, 1) := by decide +kernel
theorem dX7_chosen_18 : decode cX7_chosen 18 = .ok (.invokevirtual 159, 3) := by decide +kernel
theorem dX7_chosen_21 : decode cX7_chosen 21 = .ok (.getfield 236, 3) := by decide +kernel
theorem dX7_chosen_24 : decode cX7_chosen 24 = .ok (.if_icmp .lt 5, 3) := by decide +kernel
theorem dX7_chosen_27 : decode cX7_chosen 27 = .ok (.iconst (-1), 1) := by decide +kernel
theorem dX7_chosen_28 : decode cX7_chosen 28 = .ok (.ireturn, 1) := by decide +kernel
theorem dX7_chosen_29 : decode cX7_chosen 29 = .ok (.aload_n 0, 1) := by decide +kernel
theorem dX7_chosen_30 : decode cX7_chosen 30 = .ok (.getfield 39, 3) := by decide +kernel
theorem dX7_chosen_33 : decode cX7_chosen 33 = .ok (.getfield 266, 3) := by decide +kernel
theorem dX7_chosen_36 : decode cX7_chosen 36 = .ok (.iload_n 1, 1) := by decide +kernel
theorem dX7_chosen_37 : decode cX7_chosen 37 = .ok (.iaload, 1) := by decide +kernel
theorem dX7_chosen_38 : decode cX7_chosen 38 = .ok (.istore_n 3, 1) := by decide +kernel
theorem dX7_chosen_39 : decode cX7_chosen 39 = .ok (.iload_n 2, 1) := by decide +kernel
theorem dX7_chosen_40 : decode cX7_chosen 40 = .ok (.tableswitch 49 0 2 #[28, 38, 40], 28) := by decide +kernel
theorem dX7_chosen_68 : decode cX7_chosen 68 = .ok (.aload_n 0, 1) := by decide +kernel
theorem dX7_chosen_69 : decode cX7_chosen 69 = .ok (.getfield 39, 3) := by decide +kernel
theorem dX7_chosen_72 : decode cX7_chosen 72 = .ok (.getfield 269, 3) := by decide +kernel
theorem dX7_chosen_75 : decode cX7_chosen 75 = .ok (.iload_n 1, 1) := by decide +kernel
theorem dX7_chosen_76 : decode cX7_chosen 76 = .ok (.iaload, 1) := by decide +kernel
theorem dX7_chosen_77 : decode cX7_chosen 77 = .ok (.ireturn, 1) := by decide +kernel
theorem dX7_chosen_78 : decode cX7_chosen 78 = .ok (.iload_n 3, 1) := by decide +kernel
theorem dX7_chosen_79 : decode cX7_chosen 79 = .ok (.ireturn, 1) := by decide +kernel
theorem dX7_chosen_80 : decode cX7_chosen 80 = .ok (.aload_n 0, 1) := by decide +kernel
theorem dX7_chosen_81 : decode cX7_chosen 81 = .ok (.getfield 19, 3) := by decide +kernel
theorem dX7_chosen_84 : decode cX7_chosen 84 = .ok (.iload_n 3, 1) := by decide +kernel
theorem dX7_chosen_85 : decode cX7_chosen 85 = .ok (.invokevirtual 259, 3) := by decide +kernel
theorem dX7_chosen_88 : decode cX7_chosen 88 = .ok (.ireturn, 1) := by decide +kernel
theorem dX7_chosen_89 : decode cX7_chosen 89 = .ok (.aload_n 0, 1) := by decide +kernel
theorem dX7_chosen_90 : decode cX7_chosen 90 = .ok (.getfield 19, 3) := by decide +kernel
theorem dX7_chosen_93 : decode cX7_chosen 93 = .ok (.getfield 137, 3) := by decide +kernel
theorem dX7_chosen_96 : decode cX7_chosen 96 = .ok (.iload_n 3, 1) := by decide +kernel
theorem dX7_chosen_97 : decode cX7_chosen 97 = .ok (.iaload, 1) := by decide +kernel
theorem dX7_chosen_98 : decode cX7_chosen 98 = .ok (.ireturn, 1) := by decide +kernel
theorem dX7_longest_0 : decode cX7_longest 0 = .ok (.aload_n 0, 1) := by decide +kernel
theorem dX7_longest_1 : decode cX7_longest 1 = .ok (.getfield 30, 3) := by decide +kernel
theorem dX7_longest_4 : decode cX7_longest 4 = .ok (.iload_n 1, 1) := by decide +kernel
theorem dX7_longest_5 : decode cX7_longest 5 = .ok (.invokevirtual 206, 3) := by decide +kernel
theorem dX7_longest_8 : decode cX7_longest 8 = .ok (.ifCond .ne 6, 3) := by decide +kernel
theorem dX7_longest_11 : decode cX7_longest 11 = .ok (.ldc 114, 2) := by decide +kernel
theorem dX7_longest_13 : decode cX7_longest 13 = .ok (.ireturn, 1) := by decide +kernel
theorem dX7_longest_14 : decode cX7_longest 14 = .ok (.aload_n 0, 1) := by decide +kernel
theorem dX7_longest_15 : decode cX7_longest 15 = .ok (.invokevirtual 159, 3) := by decide +kernel
theorem dX7_longest_18 : decode cX7_longest 18 = .ok (.iload_n 1, 1) := by decide +kernel
theorem dX7_longest_19 : decode cX7_longest 19 = .ok (.invokevirtual 272, 3) := by decide +kernel
theorem dX7_longest_22 : decode cX7_longest 22 = .ok (.ireturn, 1) := by decide +kernel
theorem dX7_sign_0 : decode cX7_sign 0 = .ok (.iload_n 1, 1) := by decide +kernel
theorem dX7_sign_1 : decode cX7_sign 1 = .ok (.ifCond .ge 6, 3) := by decide +kernel
theorem dX7_sign_4 : decode cX7_sign 4 = .ok (.ldc 65, 2) := by decide +kernel
theorem dX7_sign_6 : decode cX7_sign 6 = .ok (.ireturn, 1) := by decide +kernel
theorem dX7_sign_7 : decode cX7_sign 7 = .ok (.iload_n 1, 1) := by decide +kernel
theorem dX7_sign_8 : decode cX7_sign 8 = .ok (.aload_n 0, 1) := by decide +kernel
theorem dX7_sign_9 : decode cX7_sign 9 = .ok (.invokevirtual 248, 3) := by decide +kernel
theorem dX7_sign_12 : decode cX7_sign 12 = .ok (.getfield 252, 3) := by decide +kernel
theorem dX7_sign_15 : decode cX7_sign 15 = .ok (.if_icmp .ge 15, 3) := by decide +kernel
theorem dX7_sign_18 : decode cX7_sign 18 = .ok (.aload_n 0, 1) := by decide +kernel
theorem dX7_sign_19 : decode cX7_sign 19 = .ok (.getfield 48, 3) := by decide +kernel
theorem dX7_sign_22 : decode cX7_sign 22 = .ok (.getfield 275, 3) := by decide +kernel
theorem dX7_sign_25 : decode cX7_sign 25 = .ok (.iload_n 1, 1) := by decide +kernel
theorem dX7_sign_26 : decode cX7_sign 26 = .ok (.caload, 1) := by decide +kernel
theorem dX7_sign_27 : decode cX7_sign 27 = .ok (.goto 4, 3) := by decide +kernel
theorem dX7_sign_30 : decode cX7_sign 30 = .ok (.iconst (-1), 1) := by decide +kernel
theorem dX7_sign_31 : decode cX7_sign 31 = .ok (.ireturn, 1) := by decide +kernel
theorem dX7_same_0 : decode cX7_same 0 = .ok (.aload_n 0, 1) := by decide +kernel
theorem dX7_same_1 : decode cX7_same 1 = .ok (.getfield 30, 3) := by decide +kernel
theorem dX7_same_4 : decode cX7_same 4 = .ok (.iload_n 1, 1) := by decide +kernel
theorem dX7_same_5 : decode cX7_same 5 = .ok (.invokevirtual 206, 3) := by decide +kernel
theorem dX7_same_8 : decode cX7_same 8 = .ok (.ifCond .eq 19, 3) := by decide +kernel
theorem dX7_same_11 : decode cX7_same 11 = .ok (.aload_n 0, 1) := by decide +kernel
theorem dX7_same_12 : decode cX7_same 12 = .ok (.getfield 30, 3) := by decide +kernel
theorem dX7_same_15 : decode cX7_same 15 = .ok (.iload_n 2, 1) := by decide +kernel
theorem dX7_same_16 : decode cX7_same 16 = .ok (.invokevirtual 206, 3) := by decide +kernel
theorem dX7_same_19 : decode cX7_same 19 = .ok (.ifCond .eq 8, 3) := by decide +kernel
theorem dX7_same_22 : decode cX7_same 22 = .ok (.iload_n 1, 1) := by decide +kernel
theorem dX7_same_23 : decode cX7_same 23 = .ok (.iload_n 2, 1) := by decide +kernel
theorem dX7_same_24 : decode cX7_same 24 = .ok (.if_icmp .ne 6, 3) := by decide +kernel
theorem dX7_same_27 : decode cX7_same 27 = .ok (.ldc 114, 2) := by decide +kernel
theorem dX7_same_29 : decode cX7_same 29 = .ok (.ireturn, 1) := by decide +kernel
theorem dX7_same_30 : decode cX7_same 30 = .ok (.aload_n 0, 1) := by decide +kernel
theorem dX7_same_31 : decode cX7_same 31 = .ok (.getfield 30, 3) := by decide +kernel
theorem dX7_same_34 : decode cX7_same 34 = .ok (.getfield 209, 3) := by decide +kernel
theorem dX7_same_37 : decode cX7_same 37 = .ok (.iload_n 1, 1) := by decide +kernel
theorem dX7_same_38 : decode cX7_same 38 = .ok (.laload, 1) := by decide +kernel
theorem dX7_same_39 : decode cX7_same 39 = .ok (.aload_n 0, 1) := by decide +kernel
theorem dX7_same_40 : decode cX7_same 40 = .ok (.getfield 30, 3) := by decide +kernel
theorem dX7_same_43 : decode cX7_same 43 = .ok (.getfield 209, 3) := by decide +kernel
theorem dX7_same_46 : decode cX7_same 46 = .ok (.iload_n 2, 1) := by decide +kernel
theorem dX7_same_47 : decode cX7_same 47 = .ok (.laload, 1) := by decide +kernel
theorem dX7_same_48 : decode cX7_same 48 = .ok (.lcmp, 1) := by decide +kernel
theorem dX7_same_49 : decode cX7_same 49 = .ok (.ifCond .ne 31, 3) := by decide +kernel
theorem dX7_same_52 : decode cX7_same 52 = .ok (.aload_n 0, 1) := by decide +kernel
theorem dX7_same_53 : decode cX7_same 53 = .ok (.getfield 30, 3) := by decide +kernel
theorem dX7_same_56 : decode cX7_same 56 = .ok (.getfield 213, 3) := by decide +kernel
theorem dX7_same_59 : decode cX7_same 59 = .ok (.iload_n 1, 1) := by decide +kernel
theorem dX7_same_60 : decode cX7_same 60 = .ok (.baload, 1) := by decide +kernel
theorem dX7_same_61 : decode cX7_same 61 = .ok (.ifCond .ne 19, 3) := by decide +kernel
theorem dX7_same_64 : decode cX7_same 64 = .ok (.aload_n 0, 1) := by decide +kernel
theorem dX7_same_65 : decode cX7_same 65 = .ok (.getfield 30, 3) := by decide +kernel
theorem dX7_same_68 : decode cX7_same 68 = .ok (.getfield 213, 3) := by decide +kernel
theorem dX7_same_71 : decode cX7_same 71 = .ok (.iload_n 2, 1) := by decide +kernel
theorem dX7_same_72 : decode cX7_same 72 = .ok (.baload, 1) := by decide +kernel
theorem dX7_same_73 : decode cX7_same 73 = .ok (.ifCond .ne 7, 3) := by decide +kernel
theorem dX7_same_76 : decode cX7_same 76 = .ok (.iconst 1, 1) := by decide +kernel
theorem dX7_same_77 : decode cX7_same 77 = .ok (.goto 4, 3) := by decide +kernel
theorem dX7_same_80 : decode cX7_same 80 = .ok (.iconst 0, 1) := by decide +kernel
theorem dX7_same_81 : decode cX7_same 81 = .ok (.istore_n 3, 1) := by decide +kernel
theorem dX7_same_82 : decode cX7_same 82 = .ok (.iload_n 3, 1) := by decide +kernel
theorem dX7_same_83 : decode cX7_same 83 = .ok (.ifCond .eq 7, 3) := by decide +kernel
theorem dX7_same_86 : decode cX7_same 86 = .ok (.iconst 1, 1) := by decide +kernel
theorem dX7_same_87 : decode cX7_same 87 = .ok (.goto 4, 3) := by decide +kernel
theorem dX7_same_90 : decode cX7_same 90 = .ok (.iconst 0, 1) := by decide +kernel
theorem dX7_same_91 : decode cX7_same 91 = .ok (.ireturn, 1) := by decide +kernel
theorem dX7_keep_0 : decode cX7_keep 0 = .ok (.aload_n 0, 1) := by decide +kernel
theorem dX7_keep_1 : decode cX7_keep 1 = .ok (.iload_n 1, 1) := by decide +kernel
theorem dX7_keep_2 : decode cX7_keep 2 = .ok (.invokevirtual 279, 3) := by decide +kernel
theorem dX7_keep_5 : decode cX7_keep 5 = .ok (.astore_n 2, 1) := by decide +kernel
theorem dX7_keep_6 : decode cX7_keep 6 = .ok (.aload_n 2, 1) := by decide +kernel
theorem dX7_keep_7 : decode cX7_keep 7 = .ok (.ifnonnull 6, 3) := by decide +kernel
theorem dX7_keep_10 : decode cX7_keep 10 = .ok (.ldc 114, 2) := by decide +kernel
theorem dX7_keep_12 : decode cX7_keep 12 = .ok (.ireturn, 1) := by decide +kernel
theorem dX7_keep_13 : decode cX7_keep 13 = .ok (.aload_n 2, 1) := by decide +kernel
theorem dX7_keep_14 : decode cX7_keep 14 = .ok (.aload_n 0, 1) := by decide +kernel
theorem dX7_keep_15 : decode cX7_keep 15 = .ok (.getfield 19, 3) := by decide +kernel
theorem dX7_keep_18 : decode cX7_keep 18 = .ok (.invokevirtual 283, 3) := by decide +kernel
theorem dX7_keep_21 : decode cX7_keep 21 = .ok (.aload_n 2, 1) := by decide +kernel
theorem dX7_keep_22 : decode cX7_keep 22 = .ok (.iconst 1, 1) := by decide +kernel
theorem dX7_keep_23 : decode cX7_keep 23 = .ok (.putfield 287, 3) := by decide +kernel
theorem dX7_keep_26 : decode cX7_keep 26 = .ok (.aload_n 0, 1) := by decide +kernel
theorem dX7_keep_27 : decode cX7_keep 27 = .ok (.getfield 19, 3) := by decide +kernel
theorem dX7_keep_30 : decode cX7_keep 30 = .ok (.getfield 122, 3) := by decide +kernel
theorem dX7_keep_33 : decode cX7_keep 33 = .ok (.ireturn, 1) := by decide +kernel
theorem dX7_goBack_0 : decode cX7_goBack 0 = .ok (.aload_n 0, 1) := by decide +kernel
theorem dX7_goBack_1 : decode cX7_goBack 1 = .ok (.iload_n 1, 1) := by decide +kernel
theorem dX7_goBack_2 : decode cX7_goBack 2 = .ok (.invokevirtual 279, 3) := by decide +kernel
theorem dX7_goBack_5 : decode cX7_goBack 5 = .ok (.astore_n 2, 1) := by decide +kernel
theorem dX7_goBack_6 : decode cX7_goBack 6 = .ok (.aload_n 2, 1) := by decide +kernel
theorem dX7_goBack_7 : decode cX7_goBack 7 = .ok (.ifnonnull 6, 3) := by decide +kernel
theorem dX7_goBack_10 : decode cX7_goBack 10 = .ok (.ldc 114, 2) := by decide +kernel
theorem dX7_goBack_12 : decode cX7_goBack 12 = .ok (.ireturn, 1) := by decide +kernel
theorem dX7_goBack_13 : decode cX7_goBack 13 = .ok (.aload_n 2, 1) := by decide +kernel
theorem dX7_goBack_14 : decode cX7_goBack 14 = .ok (.getfield 287, 3) := by decide +kernel
theorem dX7_goBack_17 : decode cX7_goBack 17 = .ok (.ifCond .ne 6, 3) := by decide +kernel
theorem dX7_goBack_20 : decode cX7_goBack 20 = .ok (.ldc 92, 2) := by decide +kernel
theorem dX7_goBack_22 : decode cX7_goBack 22 = .ok (.ireturn, 1) := by decide +kernel
theorem dX7_goBack_23 : decode cX7_goBack 23 = .ok (.aload_n 0, 1) := by decide +kernel
theorem dX7_goBack_24 : decode cX7_goBack 24 = .ok (.getfield 19, 3) := by decide +kernel
theorem dX7_goBack_27 : decode cX7_goBack 27 = .ok (.aload_n 2, 1) := by decide +kernel
theorem dX7_goBack_28 : decode cX7_goBack 28 = .ok (.invokevirtual 283, 3) := by decide +kernel
theorem dX7_goBack_31 : decode cX7_goBack 31 = .ok (.aload_n 0, 1) := by decide +kernel
theorem dX7_goBack_32 : decode cX7_goBack 32 = .ok (.invokevirtual 97, 3) := by decide +kernel
theorem dX7_goBack_35 : decode cX7_goBack 35 = .ok (.aload_n 0, 1) := by decide +kernel
theorem dX7_goBack_36 : decode cX7_goBack 36 = .ok (.getfield 19, 3) := by decide +kernel
theorem dX7_goBack_39 : decode cX7_goBack 39 = .ok (.getfield 122, 3) := by decide +kernel
theorem dX7_goBack_42 : decode cX7_goBack 42 = .ok (.ireturn, 1) := by decide +kernel
theorem dX7_isWeight_0 : decode cX7_isWeight 0 = .ok (.iload_n 0, 1) := by decide +kernel
theorem dX7_isWeight_1 : decode cX7_isWeight 1 = .ok (.iconst 1, 1) := by decide +kernel
theorem dX7_isWeight_2 : decode cX7_isWeight 2 = .ok (.if_icmp .lt 13, 3) := by decide +kernel
theorem dX7_isWeight_5 : decode cX7_isWeight 5 = .ok (.iload_n 0, 1) := by decide +kernel
theorem dX7_isWeight_6 : decode cX7_isWeight 6 = .ok (.bipush 9, 2) := by decide +kernel
theorem dX7_isWeight_8 : decode cX7_isWeight 8 = .ok (.if_icmp .gt 7, 3) := by decide +kernel
theorem dX7_isWeight_11 : decode cX7_isWeight 11 = .ok (.iconst 1, 1) := by decide +kernel
theorem dX7_isWeight_12 : decode cX7_isWeight 12 = .ok (.goto 4, 3) := by decide +kernel
theorem dX7_isWeight_15 : decode cX7_isWeight 15 = .ok (.iconst 0, 1) := by decide +kernel
theorem dX7_isWeight_16 : decode cX7_isWeight 16 = .ok (.ireturn, 1) := by decide +kernel
theorem dX7_isBent_0 : decode cX7_isBent 0 = .ok (.iload_n 0, 1) := by decide +kernel
theorem dX7_isBent_1 : decode cX7_isBent 1 = .ok (.ifCond .eq 8, 3) := by decide +kernel
theorem dX7_isBent_4 : decode cX7_isBent 4 = .ok (.iload_n 0, 1) := by decide +kernel
theorem dX7_isBent_5 : decode cX7_isBent 5 = .ok (.iconst 1, 1) := by decide +kernel
theorem dX7_isBent_6 : decode cX7_isBent 6 = .ok (.if_icmp .ne 7, 3) := by decide +kernel
theorem dX7_isBent_9 : decode cX7_isBent 9 = .ok (.iconst 1, 1) := by decide +kernel
theorem dX7_isBent_10 : decode cX7_isBent 10 = .ok (.goto 4, 3) := by decide +kernel
theorem dX7_isBent_13 : decode cX7_isBent 13 = .ok (.iconst 0, 1) := by decide +kernel
theorem dX7_isBent_14 : decode cX7_isBent 14 = .ok (.ireturn, 1) := by decide +kernel
theorem dX7_imageOf_0 : decode cX7_imageOf 0 = .ok (.iload_n 1, 1) := by decide +kernel
theorem dX7_imageOf_1 : decode cX7_imageOf 1 = .ok (.ifCond .lt 17, 3) := by decide +kernel
theorem dX7_imageOf_4 : decode cX7_imageOf 4 = .ok (.iload_n 1, 1) := by decide +kernel
theorem dX7_imageOf_5 : decode cX7_imageOf 5 = .ok (.iconst 2, 1) := by decide +kernel
theorem dX7_imageOf_6 : decode cX7_imageOf 6 = .ok (.if_icmp .ge 12, 3) := by decide +kernel
theorem dX7_imageOf_9 : decode cX7_imageOf 9 = .ok (.aload_n 0, 1) := by decide +kernel
theorem dX7_imageOf_10 : decode cX7_imageOf 10 = .ok (.getfield 23, 3) := by decide +kernel
theorem dX7_imageOf_13 : decode cX7_imageOf 13 = .ok (.iload_n 1, 1) := by decide +kernel
theorem dX7_imageOf_14 : decode cX7_imageOf 14 = .ok (.aaload, 1) := by decide +kernel
theorem dX7_imageOf_15 : decode cX7_imageOf 15 = .ok (.goto 4, 3) := by decide +kernel
theorem dX7_imageOf_18 : decode cX7_imageOf 18 = .ok (.aconst_null, 1) := by decide +kernel
theorem dX7_imageOf_19 : decode cX7_imageOf 19 = .ok (.areturn, 1) := by decide +kernel
theorem dX7_termsChanged_0 : decode cX7_termsChanged 0 = .ok (.aload_n 0, 1) := by decide +kernel
theorem dX7_termsChanged_1 : decode cX7_termsChanged 1 = .ok (.getfield 39, 3) := by decide +kernel
theorem dX7_termsChanged_4 : decode cX7_termsChanged 4 = .ok (.invokevirtual 196, 3) := by decide +kernel
theorem dX7_termsChanged_7 : decode cX7_termsChanged 7 = .ok (.aload_n 0, 1) := by decide +kernel
theorem dX7_termsChanged_8 : decode cX7_termsChanged 8 = .ok (.getfield 48, 3) := by decide +kernel
theorem dX7_termsChanged_11 : decode cX7_termsChanged 11 = .ok (.invokevirtual 291, 3) := by decide +kernel
theorem dX7_termsChanged_14 : decode cX7_termsChanged 14 = .ok (.return_, 1) := by decide +kernel
theorem dX7_textChanged_0 : decode cX7_textChanged 0 = .ok (.aload_n 0, 1) := by decide +kernel
theorem dX7_textChanged_1 : decode cX7_textChanged 1 = .ok (.getfield 39, 3) := by decide +kernel
theorem dX7_textChanged_4 : decode cX7_textChanged 4 = .ok (.invokevirtual 292, 3) := by decide +kernel
theorem dX7_textChanged_7 : decode cX7_textChanged 7 = .ok (.aload_n 0, 1) := by decide +kernel
theorem dX7_textChanged_8 : decode cX7_textChanged 8 = .ok (.getfield 48, 3) := by decide +kernel
theorem dX7_textChanged_11 : decode cX7_textChanged 11 = .ok (.invokevirtual 291, 3) := by decide +kernel
theorem dX7_textChanged_14 : decode cX7_textChanged 14 = .ok (.return_, 1) := by decide +kernel
theorem dX7_settled_0 : decode cX7_settled 0 = .ok (.aload_n 0, 1) := by decide +kernel
theorem dX7_settled_1 : decode cX7_settled 1 = .ok (.getfield 39, 3) := by decide +kernel
theorem dX7_settled_4 : decode cX7_settled 4 = .ok (.invokevirtual 295, 3) := by decide +kernel
theorem dX7_settled_7 : decode cX7_settled 7 = .ok (.aload_n 0, 1) := by decide +kernel
theorem dX7_settled_8 : decode cX7_settled 8 = .ok (.getfield 39, 3) := by decide +kernel
theorem dX7_settled_11 : decode cX7_settled 11 = .ok (.areturn, 1) := by decide +kernel
theorem dX7_written_0 : decode cX7_written 0 = .ok (.aload_n 0, 1) := by decide +kernel
theorem dX7_written_1 : decode cX7_written 1 = .ok (.getfield 39, 3) := by decide +kernel
theorem dX7_written_4 : decode cX7_written 4 = .ok (.invokevirtual 295, 3) := by decide +kernel
theorem dX7_written_7 : decode cX7_written 7 = .ok (.aload_n 0, 1) := by decide +kernel
theorem dX7_written_8 : decode cX7_written 8 = .ok (.getfield 48, 3) := by decide +kernel
theorem dX7_written_11 : decode cX7_written 11 = .ok (.invokevirtual 298, 3) := by decide +kernel
theorem dX7_written_14 : decode cX7_written 14 = .ok (.aload_n 0, 1) := by decide +kernel
theorem dX7_written_15 : decode cX7_written 15 = .ok (.getfield 48, 3) := by decide +kernel
theorem dX7_written_18 : decode cX7_written 18 = .ok (.areturn, 1) := by decide +kernel
theorem dX7_takeLot_0 : decode cX7_takeLot 0 = .ok (.aload_n 0, 1) := by decide +kernel
theorem dX7_takeLot_1 : decode cX7_takeLot 1 = .ok (.getfield 55, 3) := by decide +kernel
theorem dX7_takeLot_4 : decode cX7_takeLot 4 = .ok (.bipush 8, 2) := by decide +kernel
theorem dX7_takeLot_6 : decode cX7_takeLot 6 = .ok (.invokevirtual 301, 3) := by decide +kernel
theorem dX7_takeLot_9 : decode cX7_takeLot 9 = .ok (.ifCond .ne 14, 3) := by decide +kernel
theorem dX7_takeLot_12 : decode cX7_takeLot 12 = .ok (.aload_n 0, 1) := by decide +kernel
theorem dX7_takeLot_13 : decode cX7_takeLot 13 = .ok (.getfield 30, 3) := by decide +kernel
theorem dX7_takeLot_16 : decode cX7_takeLot 16 = .ok (.bipush 46, 2) := by decide +kernel
theorem dX7_takeLot_18 : decode cX7_takeLot 18 = .ok (.invokevirtual 184, 3) := by decide +kernel
theorem dX7_takeLot_21 : decode cX7_takeLot 21 = .ok (.iconst 1, 1) := by decide +kernel
theorem dX7_takeLot_22 : decode cX7_takeLot 22 = .ok (.ireturn, 1) := by decide +kernel
theorem dX7_takeLot_23 : decode cX7_takeLot 23 = .ok (.aload_n 0, 1) := by decide +kernel
theorem dX7_takeLot_24 : decode cX7_takeLot 24 = .ok (.getfield 19, 3) := by decide +kernel
theorem dX7_takeLot_27 : decode cX7_takeLot 27 = .ok (.getfield 122, 3) := by decide +kernel
theorem dX7_takeLot_30 : decode cX7_takeLot 30 = .ok (.ifCond .ne 5, 3) := by decide +kernel
theorem dX7_takeLot_33 : decode cX7_takeLot 33 = .ok (.iconst 1, 1) := by decide +kernel
theorem dX7_takeLot_34 : decode cX7_takeLot 34 = .ok (.ireturn, 1) := by decide +kernel
theorem dX7_takeLot_35 : decode cX7_takeLot 35 = .ok (.aload_n 0, 1) := by decide +kernel
theorem dX7_takeLot_36 : decode cX7_takeLot 36 = .ok (.getfield 30, 3) := by decide +kernel
theorem dX7_takeLot_39 : decode cX7_takeLot 39 = .ok (.invokevirtual 180, 3) := by decide +kernel
theorem dX7_takeLot_42 : decode cX7_takeLot 42 = .ok (.ifCond .ne 5, 3) := by decide +kernel
theorem dX7_takeLot_45 : decode cX7_takeLot 45 = .ok (.iconst 0, 1) := by decide +kernel
theorem dX7_takeLot_46 : decode cX7_takeLot 46 = .ok (.ireturn, 1) := by decide +kernel
theorem dX7_takeLot_47 : decode cX7_takeLot 47 = .ok (.aload_n 0, 1) := by decide +kernel
theorem dX7_takeLot_48 : decode cX7_takeLot 48 = .ok (.getfield 55, 3) := by decide +kernel
theorem dX7_takeLot_51 : decode cX7_takeLot 51 = .ok (.aload_n 0, 1) := by decide +kernel
theorem dX7_takeLot_52 : decode cX7_takeLot 52 = .ok (.getfield 19, 3) := by decide +kernel
theorem dX7_takeLot_55 : decode cX7_takeLot 55 = .ok (.getfield 122, 3) := by decide +kernel
theorem dX7_takeLot_58 : decode cX7_takeLot 58 = .ok (.invokevirtual 301, 3) := by decide +kernel
theorem dX7_takeLot_61 : decode cX7_takeLot 61 = .ok (.istore_n 1, 1) := by decide +kernel
theorem dX7_takeLot_62 : decode cX7_takeLot 62 = .ok (.aload_n 0, 1) := by decide +kernel
theorem dX7_takeLot_63 : decode cX7_takeLot 63 = .ok (.getfield 30, 3) := by decide +kernel
theorem dX7_takeLot_66 : decode cX7_takeLot 66 = .ok (.aload_n 0, 1) := by decide +kernel
theorem dX7_takeLot_67 : decode cX7_takeLot 67 = .ok (.getfield 19, 3) := by decide +kernel
theorem dX7_takeLot_70 : decode cX7_takeLot 70 = .ok (.iload_n 1, 1) := by decide +kernel
theorem dX7_takeLot_71 : decode cX7_takeLot 71 = .ok (.aload_n 0, 1) := by decide +kernel
theorem dX7_takeLot_72 : decode cX7_takeLot 72 = .ok (.getfield 55, 3) := by decide +kernel
theorem dX7_takeLot_75 : decode cX7_takeLot 75 = .ok (.aload_n 0, 1) := by decide +kernel
theorem dX7_takeLot_76 : decode cX7_takeLot 76 = .ok (.getfield 19, 3) := by decide +kernel
theorem dX7_takeLot_79 : decode cX7_takeLot 79 = .ok (.getfield 156, 3) := by decide +kernel
theorem dX7_takeLot_82 : decode cX7_takeLot 82 = .ok (.iload_n 1, 1) := by decide +kernel
theorem dX7_takeLot_83 : decode cX7_takeLot 83 = .ok (.iaload, 1) := by decide +kernel
theorem dX7_takeLot_84 : decode cX7_takeLot 84 = .ok (.invokevirtual 301, 3) := by decide +kernel
theorem dX7_takeLot_87 : decode cX7_takeLot 87 = .ok (.invokevirtual 176, 3) := by decide +kernel
theorem dX7_takeLot_90 : decode cX7_takeLot 90 = .ok (.invokevirtual 304, 3) := by decide +kernel
theorem dX7_takeLot_93 : decode cX7_takeLot 93 = .ok (.aload_n 0, 1) := by decide +kernel
theorem dX7_takeLot_94 : decode cX7_takeLot 94 = .ok (.getfield 55, 3) := by decide +kernel
theorem dX7_takeLot_97 : decode cX7_takeLot 97 = .ok (.iconst 3, 1) := by decide +kernel
theorem dX7_takeLot_98 : decode cX7_takeLot 98 = .ok (.invokevirtual 301, 3) := by decide +kernel
theorem dX7_takeLot_101 : decode cX7_takeLot 101 = .ok (.ifCond .ne 42, 3) := by decide +kernel
theorem dX7_takeLot_104 : decode cX7_takeLot 104 = .ok (.aload_n 0, 1) := by decide +kernel
theorem dX7_takeLot_105 : decode cX7_takeLot 105 = .ok (.getfield 19, 3) := by decide +kernel
theorem dX7_takeLot_108 : decode cX7_takeLot 108 = .ok (.getfield 131, 3) := by decide +kernel
theorem dX7_takeLot_111 : decode cX7_takeLot 111 = .ok (.ifCond .le 32, 3) := by decide +kernel
theorem dX7_takeLot_114 : decode cX7_takeLot 114 = .ok (.aload_n 0, 1) := by decide +kernel
theorem dX7_takeLot_115 : decode cX7_takeLot 115 = .ok (.getfield 30, 3) := by decide +kernel
theorem dX7_takeLot_118 : decode cX7_takeLot 118 = .ok (.aload_n 0, 1) := by decide +kernel
theorem dX7_takeLot_119 : decode cX7_takeLot 119 = .ok (.getfield 19, 3) := by decide +kernel
theorem dX7_takeLot_122 : decode cX7_takeLot 122 = .ok (.getfield 169, 3) := by decide +kernel
theorem dX7_takeLot_125 : decode cX7_takeLot 125 = .ok (.aload_n 0, 1) := by decide +kernel
theorem dX7_takeLot_126 : decode cX7_takeLot 126 = .ok (.getfield 55, 3) := by decide +kernel
theorem dX7_takeLot_129 : decode cX7_takeLot 129 = .ok (.aload_n 0, 1) := by decide +kernel
theorem dX7_takeLot_130 : decode cX7_takeLot 130 = .ok (.getfield 19, 3) := by decide +kernel
theorem dX7_takeLot_133 : decode cX7_takeLot 133 = .ok (.getfield 131, 3) := by decide +kernel
theorem dX7_takeLot_136 : decode cX7_takeLot 136 = .ok (.invokevirtual 301, 3) := by decide +kernel
theorem dX7_takeLot_139 : decode cX7_takeLot 139 = .ok (.laload, 1) := by decide +kernel
theorem dX7_takeLot_140 : decode cX7_takeLot 140 = .ok (.invokevirtual 304, 3) := by decide +kernel
theorem dX7_takeLot_143 : decode cX7_takeLot 143 = .ok (.aload_n 0, 1) := by decide +kernel
theorem dX7_takeLot_144 : decode cX7_takeLot 144 = .ok (.getfield 30, 3) := by decide +kernel
theorem dX7_takeLot_147 : decode cX7_takeLot 147 = .ok (.bipush 32, 2) := by decide +kernel
theorem dX7_takeLot_149 : decode cX7_takeLot 149 = .ok (.invokevirtual 184, 3) := by decide +kernel
theorem dX7_takeLot_152 : decode cX7_takeLot 152 = .ok (.iconst 1, 1) := by decide +kernel
theorem dX7_takeLot_153 : decode cX7_takeLot 153 = .ok (.ireturn, 1) := by decide +kernel
theorem dX8_init_0 : decode cX8_init 0 = .ok (.aload_n 0, 1) := by decide +kernel
theorem dX8_init_1 : decode cX8_init 1 = .ok (.invokespecial 1, 3) := by decide +kernel
theorem dX8_init_4 : decode cX8_init 4 = .ok (.aload_n 0, 1) := by decide +kernel
theorem dX8_init_5 : decode cX8_init 5 = .ok (.sipush 475, 3) := by decide +kernel
theorem dX8_init_8 : decode cX8_init 8 = .ok (.newarray .int, 2) := by decide +kernel
theorem dX8_init_10 : decode cX8_init 10 = .ok (.putfield 7, 3) := by decide +kernel
theorem dX8_init_13 : decode cX8_init 13 = .ok (.aload_n 0, 1) := by decide +kernel
theorem dX8_init_14 : decode cX8_init 14 = .ok (.sipush 950, 3) := by decide +kernel
theorem dX8_init_17 : decode cX8_init 17 = .ok (.newarray .int, 2) := by decide +kernel
theorem dX8_init_19 : decode cX8_init 19 = .ok (.putfield 13, 3) := by decide +kernel
theorem dX8_init_22 : decode cX8_init 22 = .ok (.aload_n 0, 1) := by decide +kernel
theorem dX8_init_23 : decode cX8_init 23 = .ok (.iconst 2, 1) := by decide +kernel
theorem dX8_init_24 : decode cX8_init 24 = .ok (.newarray .boolean, 2) := by decide +kernel
theorem dX8_init_26 : decode cX8_init 26 = .ok (.putfield 16, 3) := by decide +kernel
theorem dX8_init_29 : decode cX8_init 29 = .ok (.aload_n 0, 1) := by decide +kernel
theorem dX8_init_30 : decode cX8_init 30 = .ok (.bipush 50, 2) := by decide +kernel
theorem dX8_init_32 : decode cX8_init 32 = .ok (.newarray .int, 2) := by decide +kernel
theorem dX8_init_34 : decode cX8_init 34 = .ok (.putfield 20, 3) := by decide +kernel
theorem dX8_init_37 : decode cX8_init 37 = .ok (.aload_n 0, 1) := by decide +kernel
theorem dX8_init_38 : decode cX8_init 38 = .ok (.sipush 915, 3) := by decide +kernel
theorem dX8_init_41 : decode cX8_init 41 = .ok (.newarray .int, 2) := by decide +kernel
theorem dX8_init_43 : decode cX8_init 43 = .ok (.putfield 23, 3) := by decide +kernel
theorem dX8_init_46 : decode cX8_init 46 = .ok (.aload_n 0, 1) := by decide +kernel
theorem dX8_init_47 : decode cX8_init 47 = .ok (.bipush 25, 2) := by decide +kernel
theorem dX8_init_49 : decode cX8_init 49 = .ok (.newarray .int, 2) := by decide +kernel
theorem dX8_init_51 : decode cX8_init 51 = .ok (.putfield 26, 3) := by decide +kernel
theorem dX8_init_54 : decode cX8_init 54 = .ok (.aload_n 0, 1) := by decide +kernel
theorem dX8_init_55 : decode cX8_init 55 = .ok (.bipush 25, 2) := by decide +kernel
theorem dX8_init_57 : decode cX8_init 57 = .ok (.newarray .int, 2) := by decide +kernel
theorem dX8_init_59 : decode cX8_init 59 = .ok (.putfield 29, 3) := by decide +kernel
theorem dX8_init_62 : decode cX8_init 62 = .ok (.aload_n 0, 1) := by decide +kernel
theorem dX8_init_63 : decode cX8_init 63 = .ok (.bipush 65, 2) := by decide +kernel
theorem dX8_init_65 : decode cX8_init 65 = .ok (.newarray .int, 2) := by decide +kernel
theorem dX8_init_67 : decode cX8_init 67 = .ok (.putfield 32, 3) := by decide +kernel
theorem dX8_init_70 : decode cX8_init 70 = .ok (.aload_n 0, 1) := by decide +kernel
theorem dX8_init_71 : decode cX8_init 71 = .ok (.bipush 65, 2) := by decide +kernel
theorem dX8_init_73 : decode cX8_init 73 = .ok (.newarray .int, 2) := by decide +kernel
theorem dX8_init_75 : decode cX8_init 75 = .ok (.putfield 35, 3) := by decide +kernel
theorem dX8_init_78 : decode cX8_init 78 = .ok (.aload_n 0, 1) := by decide +kernel
theorem dX8_init_79 : decode cX8_init 79 = .ok (.bipush 60, 2) := by decide +kernel
theorem dX8_init_81 : decode cX8_init 81 = .ok (.newarray .int, 2) := by decide +kernel
theorem dX8_init_83 : decode cX8_init 83 = .ok (.putfield 38, 3) := by decide +kernel
theorem dX8_init_86 : decode cX8_init 86 = .ok (.aload_n 0, 1) := by decide +kernel
theorem dX8_init_87 : decode cX8_init 87 = .ok (.sipush 3300, 3) := by decide +kernel
theorem dX8_init_90 : decode cX8_init 90 = .ok (.newarray .int, 2) := by decide +kernel
theorem dX8_init_92 : decode cX8_init 92 = .ok (.putfield 41, 3) := by decide +kernel
theorem dX8_init_95 : decode cX8_init 95 = .ok (.return_, 1) := by decide +kernel
theorem dX8_in_0 : decode cX8_in 0 = .ok (.iload_n 0, 1) := by decide +kernel
theorem dX8_in_1 : decode cX8_in 1 = .ok (.iload_n 1, 1) := by decide +kernel
theorem dX8_in_2 : decode cX8_in 2 = .ok (.if_icmp .lt 12, 3) := by decide +kernel
theorem dX8_in_5 : decode cX8_in 5 = .ok (.iload_n 0, 1) := by decide +kernel
theorem dX8_in_6 : decode cX8_in 6 = .ok (.iload_n 2, 1) := by decide +kernel
theorem dX8_in_7 : decode cX8_in 7 = .ok (.if_icmp .gt 7, 3) := by decide +kernel
theorem dX8_in_10 : decode cX8_in 10 = .ok (.iconst 1, 1) := by decide +kernel
theorem dX8_in_11 : decode cX8_in 11 = .ok (.goto 4, 3) := by decide +kernel
theorem dX8_in_14 : decode cX8_in 14 = .ok (.iconst 0, 1) := by decide +kernel
theorem dX8_in_15 : decode cX8_in 15 = .ok (.ireturn, 1) := by decide +kernel
theorem dX8_isLetter_0 : decode cX8_isLetter 0 = .ok (.iload_n 0, 1) := by decide +kernel
theorem dX8_isLetter_1 : decode cX8_isLetter 1 = .ok (.bipush 97, 2) := by decide +kernel
theorem dX8_isLetter_3 : decode cX8_isLetter 3 = .ok (.bipush 122, 2) := by decide +kernel
theorem dX8_isLetter_5 : decode cX8_isLetter 5 = .ok (.invokestatic 44, 3) := by decide +kernel
theorem dX8_isLetter_8 : decode cX8_isLetter 8 = .ok (.ireturn, 1) := by decide +kernel
theorem dX8_isTerm_0 : decode cX8_isTerm 0 = .ok (.iload_n 1, 1) := by decide +kernel
theorem dX8_isTerm_1 : decode cX8_isTerm 1 = .ok (.iconst 0, 1) := by decide +kernel
theorem dX8_isTerm_2 : decode cX8_isTerm 2 = .ok (.aload_n 0, 1) := by decide +kernel
theorem dX8_isTerm_3 : decode cX8_isTerm 3 = .ok (.getfield 7, 3) := by decide +kernel
theorem dX8_isTerm_6 : decode cX8_isTerm 6 = .ok (.iconst 0, 1) := by decide +kernel
theorem dX8_isTerm_7 : decode cX8_isTerm 7 = .ok (.iaload, 1) := by decide +kernel
theorem dX8_isTerm_8 : decode cX8_isTerm 8 = .ok (.iconst 1, 1) := by decide +kernel
theorem dX8_isTerm_9 : decode cX8_isTerm 9 = .ok (.isub, 1) := by decide +kernel
theorem dX8_isTerm_10 : decode cX8_isTerm 10 = .ok (.invokestatic 44, 3) := by decide +kernel
theorem dX8_isTerm_13 : decode cX8_isTerm 13 = .ok (.ireturn, 1) := by decide +kernel
theorem dX8_isEnding_0 : decode cX8_isEnding 0 = .ok (.iload_n 1, 1) := by decide +kernel
theorem dX8_isEnding_1 : decode cX8_isEnding 1 = .ok (.iconst 0, 1) := by decide +kernel
theorem dX8_isEnding_2 : decode cX8_isEnding 2 = .ok (.aload_n 0, 1) := by decide +kernel
theorem dX8_isEnding_3 : decode cX8_isEnding 3 = .ok (.getfield 7, 3) := by decide +kernel
theorem dX8_isEnding_6 : decode cX8_isEnding 6 = .ok (.iconst 1, 1) := by decide +kernel
theorem dX8_isEnding_7 : decode cX8_isEnding 7 = .ok (.iaload, 1) := by decide +kernel
theorem dX8_isEnding_8 : decode cX8_isEnding 8 = .ok (.iconst 1, 1) := by decide +kernel
theorem dX8_isEnding_9 : decode cX8_isEnding 9 = .ok (.isub, 1) := by decide +kernel
theorem dX8_isEnding_10 : decode cX8_isEnding 10 = .ok (.invokestatic 44, 3) := by decide +kernel
theorem dX8_isEnding_13 : decode cX8_isEnding 13 = .ok (.ireturn, 1) := by decide +kernel
theorem dX8_termAt_0 : decode cX8_termAt 0 = .ok (.iconst 2, 1) := by decide +kernel
theorem dX8_termAt_1 : decode cX8_termAt 1 = .ok (.bipush 56, 2) := by decide +kernel
theorem dX8_termAt_3 : decode cX8_termAt 3 = .ok (.iload_n 0, 1) := by decide +kernel
theorem dX8_termAt_4 : decode cX8_termAt 4 = .ok (.imul, 1) := by decide +kernel
theorem dX8_termAt_5 : decode cX8_termAt 5 = .ok (.iadd, 1) := by decide +kernel
theorem dX8_termAt_6 : decode cX8_termAt 6 = .ok (.ireturn, 1) := by decide +kernel
theorem dX8_wordAt_0 : decode cX8_wordAt 0 = .ok (.iconst 2, 1) := by decide +kernel
theorem dX8_wordAt_1 : decode cX8_wordAt 1 = .ok (.bipush 56, 2) := by decide +kernel
theorem dX8_wordAt_3 : decode cX8_wordAt 3 = .ok (.iload_n 0, 1) := by decide +kernel
theorem dX8_wordAt_4 : decode cX8_wordAt 4 = .ok (.imul, 1) := by decide +kernel
theorem dX8_wordAt_5 : decode cX8_wordAt 5 = .ok (.iadd, 1) := by decide +kernel
theorem dX8_wordAt_6 : decode cX8_wordAt 6 = .ok (.iconst 4, 1) := by decide +kernel
theorem dX8_wordAt_7 : decode cX8_wordAt 7 = .ok (.iadd, 1) := by decide +kernel
theorem dX8_wordAt_8 : decode cX8_wordAt 8 = .ok (.bipush 13, 2) := by decide +kernel
theorem dX8_wordAt_10 : decode cX8_wordAt 10 = .ok (.iload_n 1, 1) := by decide +kernel
theorem dX8_wordAt_11 : decode cX8_wordAt 11 = .ok (.imul, 1) := by decide +kernel
theorem dX8_wordAt_12 : decode cX8_wordAt 12 = .ok (.iadd, 1) := by decide +kernel
theorem dX8_wordAt_13 : decode cX8_wordAt 13 = .ok (.ireturn, 1) := by decide +kernel
theorem dX8_endingAt_0 : decode cX8_endingAt 0 = .ok (.sipush 450, 3) := by decide +kernel
theorem dX8_endingAt_3 : decode cX8_endingAt 3 = .ok (.iconst 5, 1) := by decide +kernel
theorem dX8_endingAt_4 : decode cX8_endingAt 4 = .ok (.iload_n 0, 1) := by decide +kernel
theorem dX8_endingAt_5 : decode cX8_endingAt 5 = .ok (.imul, 1) := by decide +kernel
theorem dX8_endingAt_6 : decode cX8_endingAt 6 = .ok (.iadd, 1) := by decide +kernel
theorem dX8_endingAt_7 : decode cX8_endingAt 7 = .ok (.ireturn, 1) := by decide +kernel
theorem dX8_spell_0 : decode cX8_spell 0 = .ok (.iload_n 1, 1) := by decide +kernel
theorem dX8_spell_1 : decode cX8_spell 1 = .ok (.invokestatic 48, 3) := by decide +kernel
theorem dX8_spell_4 : decode cX8_spell 4 = .ok (.ifCond .ne 12, 3) := by decide +kernel
theorem dX8_spell_7 : decode cX8_spell 7 = .ok (.iload_n 1, 1) := by decide +kernel
theorem dX8_spell_8 : decode cX8_spell 8 = .ok (.bipush 32, 2) := by decide +kernel
theorem dX8_spell_10 : decode cX8_spell 10 = .ok (.if_icmp .eq 6, 3) := by decide +kernel
theorem dX8_spell_13 : decode cX8_spell 13 = .ok (.ldc 52, 2) := by decide +kernel
theorem dX8_spell_15 : decode cX8_spell 15 = .ok (.ireturn, 1) := by decide +kernel
theorem dX8_spell_16 : decode cX8_spell 16 = .ok (.aload_n 0, 1) := by decide +kernel
theorem dX8_spell_17 : decode cX8_spell 17 = .ok (.getfield 53, 3) := by decide +kernel
theorem dX8_spell_20 : decode cX8_spell 20 = .ok (.bipush 50, 2) := by decide +kernel
theorem dX8_spell_22 : decode cX8_spell 22 = .ok (.if_icmp .ne 6, 3) := by decide +kernel
theorem dX8_spell_25 : decode cX8_spell 25 = .ok (.ldc 57, 2) := by decide +kernel
theorem dX8_spell_27 : decode cX8_spell 27 = .ok (.ireturn, 1) := by decide +kernel
theorem dX8_spell_28 : decode cX8_spell 28 = .ok (.aload_n 0, 1) := by decide +kernel
theorem dX8_spell_29 : decode cX8_spell 29 = .ok (.getfield 20, 3) := by decide +kernel
theorem dX8_spell_32 : decode cX8_spell 32 = .ok (.aload_n 0, 1) := by decide +kernel
theorem dX8_spell_33 : decode cX8_spell 33 = .ok (.getfield 53, 3) := by decide +kernel
theorem dX8_spell_36 : decode cX8_spell 36 = .ok (.iload_n 1, 1) := by decide +kernel
theorem dX8_spell_37 : decode cX8_spell 37 = .ok (.iastore, 1) := by decide +kernel
theorem dX8_spell_38 : decode cX8_spell 38 = .ok (.aload_n 0, 1) := by decide +kernel
theorem dX8_spell_39 : decode cX8_spell 39 = .ok (.dup, 1) := by decide +kernel
theorem dX8_spell_40 : decode cX8_spell 40 = .ok (.getfield 53, 3) := by decide +kernel
theorem dX8_spell_43 : decode cX8_spell 43 = .ok (.iconst 1, 1) := by decide +kernel
theorem dX8_spell_44 : decode cX8_spell 44 = .ok (.iadd, 1) := by decide +kernel
theorem dX8_spell_45 : decode cX8_spell 45 = .ok (.putfield 53, 3) := by decide +kernel
theorem dX8_spell_48 : decode cX8_spell 48 = .ok (.aload_n 0, 1) := by decide +kernel
theorem dX8_spell_49 : decode cX8_spell 49 = .ok (.getfield 53, 3) := by decide +kernel
theorem dX8_spell_52 : decode cX8_spell 52 = .ok (.ireturn, 1) := by decide +kernel
