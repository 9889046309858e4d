theorem dX0_isLetter_0 : decode cX0_isLetter 0 = .ok (.iload_n 0, 1) := by decide +kernel
theorem dX0_isLetter_1 : decode cX0_isLetter 1 = .ok (.bipush 97, 2) := by decide +kernel
theorem dX0_isLetter_3 : decode cX0_isLetter 3 = .ok (.if_icmp .lt 13, 3) := by decide +kernel
theorem dX0_isLetter_6 : decode cX0_isLetter 6 = .ok (.iload_n 0, 1) := by decide +kernel
theorem dX0_isLetter_7 : decode cX0_isLetter 7 = .ok (.bipush 122, 2) := by decide +kernel
theorem dX0_isLetter_9 : decode cX0_isLetter 9 = .ok (.if_icmp .gt 7, 3) := by decide +kernel
theorem dX0_isLetter_12 : decode cX0_isLetter 12 = .ok (.iconst 1, 1) := by decide +kernel
theorem dX0_isLetter_13 : decode cX0_isLetter 13 = .ok (.goto 4, 3) := by decide +kernel
theorem dX0_isLetter_16 : decode cX0_isLetter 16 = .ok (.iconst 0, 1) := by decide +kernel
theorem dX0_isLetter_17 : decode cX0_isLetter 17 = .ok (.ireturn, 1) := by decide +kernel
theorem dX0_sizeOf_0 : decode cX0_sizeOf 0 = .ok (.iconst 0, 1) := by decide +kernel
theorem dX0_sizeOf_1 : decode cX0_sizeOf 1 = .ok (.istore_n 2, 1) := by decide +kernel
theorem dX0_sizeOf_2 : decode cX0_sizeOf 2 = .ok (.iload_n 2, 1) := by decide +kernel
theorem dX0_sizeOf_3 : decode cX0_sizeOf 3 = .ok (.bipush 12, 2) := by decide +kernel
theorem dX0_sizeOf_5 : decode cX0_sizeOf 5 = .ok (.if_icmp .ge 21, 3) := by decide +kernel
theorem dX0_sizeOf_8 : decode cX0_sizeOf 8 = .ok (.lload_n 0, 1) := by decide +kernel
theorem dX0_sizeOf_9 : decode cX0_sizeOf 9 = .ok (.iconst 5, 1) := by decide +kernel
theorem dX0_sizeOf_10 : decode cX0_sizeOf 10 = .ok (.iload_n 2, 1) := by decide +kernel
theorem dX0_sizeOf_11 : decode cX0_sizeOf 11 = .ok (.imul, 1) := by decide +kernel
theorem dX0_sizeOf_12 : decode cX0_sizeOf 12 = .ok (.lushr, 1) := by decide +kernel
theorem dX0_sizeOf_13 : decode cX0_sizeOf 13 = .ok (.lconst 0, 1) := by decide +kernel
theorem dX0_sizeOf_14 : decode cX0_sizeOf 14 = .ok (.lcmp, 1) := by decide +kernel
theorem dX0_sizeOf_15 : decode cX0_sizeOf 15 = .ok (.ifCond .ne 5, 3) := by decide +kernel
theorem dX0_sizeOf_18 : decode cX0_sizeOf 18 = .ok (.iload_n 2, 1) := by decide +kernel
theorem dX0_sizeOf_19 : decode cX0_sizeOf 19 = .ok (.ireturn, 1) := by decide +kernel
theorem dX0_sizeOf_20 : decode cX0_sizeOf 20 = .ok (.iinc 2 1, 3) := by decide +kernel
theorem dX0_sizeOf_23 : decode cX0_sizeOf 23 = .ok (.goto (-21), 3) := by decide +kernel
theorem dX0_sizeOf_26 : decode cX0_sizeOf 26 = .ok (.bipush 12, 2) := by decide +kernel
theorem dX0_sizeOf_28 : decode cX0_sizeOf 28 = .ok (.ireturn, 1) := by decide +kernel
theorem dX0_at_0 : decode cX0_at 0 = .ok (.iload_n 2, 1) := by decide +kernel
theorem dX0_at_1 : decode cX0_at 1 = .ok (.ifCond .lt 9, 3) := by decide +kernel
theorem dX0_at_4 : decode cX0_at 4 = .ok (.iload_n 2, 1) := by decide +kernel
theorem dX0_at_5 : decode cX0_at 5 = .ok (.bipush 12, 2) := by decide +kernel
theorem dX0_at_7 : decode cX0_at 7 = .ok (.if_icmp .lt 5, 3) := by decide +kernel
theorem dX0_at_10 : decode cX0_at 10 = .ok (.iconst (-1), 1) := by decide +kernel
theorem dX0_at_11 : decode cX0_at 11 = .ok (.ireturn, 1) := by decide +kernel
theorem dX0_at_12 : decode cX0_at 12 = .ok (.lload_n 0, 1) := by decide +kernel
theorem dX0_at_13 : decode cX0_at 13 = .ok (.iconst 5, 1) := by decide +kernel
theorem dX0_at_14 : decode cX0_at 14 = .ok (.iload_n 2, 1) := by decide +kernel
theorem dX0_at_15 : decode cX0_at 15 = .ok (.imul, 1) := by decide +kernel
theorem dX0_at_16 : decode cX0_at 16 = .ok (.lushr, 1) := by decide +kernel
theorem dX0_at_17 : decode cX0_at 17 = .ok (.l2i, 1) := by decide +kernel
theorem dX0_at_18 : decode cX0_at 18 = .ok (.bipush 31, 2) := by decide +kernel
theorem dX0_at_20 : decode cX0_at 20 = .ok (.iand, 1) := by decide +kernel
theorem dX0_at_21 : decode cX0_at 21 = .ok (.istore_n 3, 1) := by decide +kernel
theorem dX0_at_22 : decode cX0_at 22 = .ok (.iload_n 3, 1) := by decide +kernel
theorem dX0_at_23 : decode cX0_at 23 = .ok (.ifCond .ne 7, 3) := by decide +kernel
theorem dX0_at_26 : decode cX0_at 26 = .ok (.iconst (-1), 1) := by decide +kernel
theorem dX0_at_27 : decode cX0_at 27 = .ok (.goto 7, 3) := by decide +kernel
theorem dX0_at_30 : decode cX0_at 30 = .ok (.iload_n 3, 1) := by decide +kernel
theorem dX0_at_31 : decode cX0_at 31 = .ok (.bipush 96, 2) := by decide +kernel
theorem dX0_at_33 : decode cX0_at 33 = .ok (.iadd, 1) := by decide +kernel
theorem dX0_at_34 : decode cX0_at 34 = .ok (.ireturn, 1) := by decide +kernel
theorem dX0_with_0 : decode cX0_with 0 = .ok (.iload_n 2, 1) := by decide +kernel
theorem dX0_with_1 : decode cX0_with 1 = .ok (.ifCond .lt 9, 3) := by decide +kernel
theorem dX0_with_4 : decode cX0_with 4 = .ok (.iload_n 2, 1) := by decide +kernel
theorem dX0_with_5 : decode cX0_with 5 = .ok (.bipush 12, 2) := by decide +kernel
theorem dX0_with_7 : decode cX0_with 7 = .ok (.if_icmp .lt 5, 3) := by decide +kernel
theorem dX0_with_10 : decode cX0_with 10 = .ok (.lload_n 0, 1) := by decide +kernel
theorem dX0_with_11 : decode cX0_with 11 = .ok (.lreturn, 1) := by decide +kernel
theorem dX0_with_12 : decode cX0_with 12 = .ok (.lload_n 0, 1) := by decide +kernel
theorem dX0_with_13 : decode cX0_with 13 = .ok (.iload_n 3, 1) := by decide +kernel
theorem dX0_with_14 : decode cX0_with 14 = .ok (.bipush 96, 2) := by decide +kernel
theorem dX0_with_16 : decode cX0_with 16 = .ok (.isub, 1) := by decide +kernel
theorem dX0_with_17 : decode cX0_with 17 = .ok (.i2l, 1) := by decide +kernel
theorem dX0_with_18 : decode cX0_with 18 = .ok (.iconst 5, 1) := by decide +kernel
theorem dX0_with_19 : decode cX0_with 19 = .ok (.iload_n 2, 1) := by decide +kernel
theorem dX0_with_20 : decode cX0_with 20 = .ok (.imul, 1) := by decide +kernel
theorem dX0_with_21 : decode cX0_with 21 = .ok (.lshl, 1) := by decide +kernel
theorem dX0_with_22 : decode cX0_with 22 = .ok (.lor, 1) := by decide +kernel
theorem dX0_with_23 : decode cX0_with 23 = .ok (.lreturn, 1) := by decide +kernel
theorem dX0_without_0 : decode cX0_without 0 = .ok (.iload 4, 2) := by decide +kernel
theorem dX0_without_2 : decode cX0_without 2 = .ok (.ifCond .le 21, 3) := by decide +kernel
theorem dX0_without_5 : decode cX0_without 5 = .ok (.iload 4, 2) := by decide +kernel
theorem dX0_without_7 : decode cX0_without 7 = .ok (.bipush 12, 2) := by decide +kernel
theorem dX0_without_9 : decode cX0_without 9 = .ok (.if_icmp .ge 14, 3) := by decide +kernel
theorem dX0_without_12 : decode cX0_without 12 = .ok (.lload_n 0, 1) := by decide +kernel
theorem dX0_without_13 : decode cX0_without 13 = .ok (.iconst 5, 1) := by decide +kernel
theorem dX0_without_14 : decode cX0_without 14 = .ok (.iload 4, 2) := by decide +kernel
theorem dX0_without_16 : decode cX0_without 16 = .ok (.imul, 1) := by decide +kernel
theorem dX0_without_17 : decode cX0_without 17 = .ok (.lushr, 1) := by decide +kernel
theorem dX0_without_18 : decode cX0_without 18 = .ok (.lload_n 2, 1) := by decide +kernel
theorem dX0_without_19 : decode cX0_without 19 = .ok (.lcmp, 1) := by decide +kernel
theorem dX0_without_20 : decode cX0_without 20 = .ok (.ifCond .eq 5, 3) := by decide +kernel
theorem dX0_without_23 : decode cX0_without 23 = .ok (.lconst 0, 1) := by decide +kernel
theorem dX0_without_24 : decode cX0_without 24 = .ok (.lreturn, 1) := by decide +kernel
theorem dX0_without_25 : decode cX0_without 25 = .ok (.lload_n 0, 1) := by decide +kernel
theorem dX0_without_26 : decode cX0_without 26 = .ok (.lconst 1, 1) := by decide +kernel
theorem dX0_without_27 : decode cX0_without 27 = .ok (.iconst 5, 1) := by decide +kernel
theorem dX0_without_28 : decode cX0_without 28 = .ok (.iload 4, 2) := by decide +kernel
theorem dX0_without_30 : decode cX0_without 30 = .ok (.imul, 1) := by decide +kernel
theorem dX0_without_31 : decode cX0_without 31 = .ok (.lshl, 1) := by decide +kernel
theorem dX0_without_32 : decode cX0_without 32 = .ok (.lconst 1, 1) := by decide +kernel
theorem dX0_without_33 : decode cX0_without 33 = .ok (.lsub, 1) := by decide +kernel
theorem dX0_without_34 : decode cX0_without 34 = .ok (.land, 1) := by decide +kernel
theorem dX0_without_35 : decode cX0_without 35 = .ok (.lreturn, 1) := by decide +kernel
theorem dX1_init_0 : decode cX1_init 0 = .ok (.aload_n 0, 1) := by decide +kernel
theorem dX1_init_1 : decode cX1_init 1 = .ok (.invokespecial 3, 3) := by decide +kernel
theorem dX1_init_4 : decode cX1_init 4 = .ok (.aload_n 0, 1) := by decide +kernel
theorem dX1_init_5 : decode cX1_init 5 = .ok (.bipush 32, 2) := by decide +kernel
theorem dX1_init_7 : decode cX1_init 7 = .ok (.newarray .long, 2) := by decide +kernel
theorem dX1_init_9 : decode cX1_init 9 = .ok (.putfield 11, 3) := by decide +kernel
theorem dX1_init_12 : decode cX1_init 12 = .ok (.aload_n 0, 1) := by decide +kernel
theorem dX1_init_13 : decode cX1_init 13 = .ok (.bipush 8, 2) := by decide +kernel
theorem dX1_init_15 : decode cX1_init 15 = .ok (.newarray .int, 2) := by decide +kernel
theorem dX1_init_17 : decode cX1_init 17 = .ok (.putfield 15, 3) := by decide +kernel
theorem dX1_init_20 : decode cX1_init 20 = .ok (.aload_n 0, 1) := by decide +kernel
theorem dX1_init_21 : decode cX1_init 21 = .ok (.bipush 8, 2) := by decide +kernel
theorem dX1_init_23 : decode cX1_init 23 = .ok (.newarray .int, 2) := by decide +kernel
theorem dX1_init_25 : decode cX1_init 25 = .ok (.putfield 19, 3) := by decide +kernel
theorem dX1_init_28 : decode cX1_init 28 = .ok (.aload_n 0, 1) := by decide +kernel
theorem dX1_init_29 : decode cX1_init 29 = .ok (.bipush 8, 2) := by decide +kernel
theorem dX1_init_31 : decode cX1_init 31 = .ok (.newarray .int, 2) := by decide +kernel
theorem dX1_init_33 : decode cX1_init 33 = .ok (.putfield 22, 3) := by decide +kernel
theorem dX1_init_36 : decode cX1_init 36 = .ok (.aload_n 0, 1) := by decide +kernel
theorem dX1_init_37 : decode cX1_init 37 = .ok (.bipush 8, 2) := by decide +kernel
theorem dX1_init_39 : decode cX1_init 39 = .ok (.newarray .int, 2) := by decide +kernel
theorem dX1_init_41 : decode cX1_init 41 = .ok (.putfield 25, 3) := by decide +kernel
theorem dX1_init_44 : decode cX1_init 44 = .ok (.aload_n 0, 1) := by decide +kernel
theorem dX1_init_45 : decode cX1_init 45 = .ok (.iconst 5, 1) := by decide +kernel
theorem dX1_init_46 : decode cX1_init 46 = .ok (.newarray .long, 2) := by decide +kernel
theorem dX1_init_48 : decode cX1_init 48 = .ok (.putfield 28, 3) := by decide +kernel
theorem dX1_init_51 : decode cX1_init 51 = .ok (.return_, 1) := by decide +kernel
theorem dX1_copyFrom_0 : decode cX1_copyFrom 0 = .ok (.aload_n 0, 1) := by decide +kernel
theorem dX1_copyFrom_1 : decode cX1_copyFrom 1 = .ok (.aload_n 1, 1) := by decide +kernel
theorem dX1_copyFrom_2 : decode cX1_copyFrom 2 = .ok (.getfield 31, 3) := by decide +kernel
theorem dX1_copyFrom_5 : decode cX1_copyFrom 5 = .ok (.putfield 31, 3) := by decide +kernel
theorem dX1_copyFrom_8 : decode cX1_copyFrom 8 = .ok (.iconst 0, 1) := by decide +kernel
theorem dX1_copyFrom_9 : decode cX1_copyFrom 9 = .ok (.istore_n 2, 1) := by decide +kernel
theorem dX1_copyFrom_10 : decode cX1_copyFrom 10 = .ok (.iload_n 2, 1) := by decide +kernel
theorem dX1_copyFrom_11 : decode cX1_copyFrom 11 = .ok (.bipush 8, 2) := by decide +kernel
theorem dX1_copyFrom_13 : decode cX1_copyFrom 13 = .ok (.if_icmp .ge 16, 3) := by decide +kernel
theorem dX1_copyFrom_16 : decode cX1_copyFrom 16 = .ok (.aload_n 0, 1) := by decide +kernel
theorem dX1_copyFrom_17 : decode cX1_copyFrom 17 = .ok (.aload_n 1, 1) := by decide +kernel
theorem dX1_copyFrom_18 : decode cX1_copyFrom 18 = .ok (.iload_n 2, 1) := by decide +kernel
theorem dX1_copyFrom_19 : decode cX1_copyFrom 19 = .ok (.iload_n 2, 1) := by decide +kernel
theorem dX1_copyFrom_20 : decode cX1_copyFrom 20 = .ok (.invokevirtual 35, 3) := by decide +kernel
theorem dX1_copyFrom_23 : decode cX1_copyFrom 23 = .ok (.iinc 2 1, 3) := by decide +kernel
theorem dX1_copyFrom_26 : decode cX1_copyFrom 26 = .ok (.goto (-16), 3) := by decide +kernel
theorem dX1_copyFrom_29 : decode cX1_copyFrom 29 = .ok (.aload_n 0, 1) := by decide +kernel
theorem dX1_copyFrom_30 : decode cX1_copyFrom 30 = .ok (.aload_n 1, 1) := by decide +kernel
theorem dX1_copyFrom_31 : decode cX1_copyFrom 31 = .ok (.getfield 39, 3) := by decide +kernel
theorem dX1_copyFrom_34 : decode cX1_copyFrom 34 = .ok (.putfield 39, 3) := by decide +kernel
theorem dX1_copyFrom_37 : decode cX1_copyFrom 37 = .ok (.aload_n 1, 1) := by decide +kernel
theorem dX1_copyFrom_38 : decode cX1_copyFrom 38 = .ok (.getfield 28, 3) := by decide +kernel
theorem dX1_copyFrom_41 : decode cX1_copyFrom 41 = .ok (.iconst 0, 1) := by decide +kernel
theorem dX1_copyFrom_42 : decode cX1_copyFrom 42 = .ok (.aload_n 0, 1) := by decide +kernel
theorem dX1_copyFrom_43 : decode cX1_copyFrom 43 = .ok (.getfield 28, 3) := by decide +kernel
theorem dX1_copyFrom_46 : decode cX1_copyFrom 46 = .ok (.iconst 0, 1) := by decide +kernel
theorem dX1_copyFrom_47 : decode cX1_copyFrom 47 = .ok (.iconst 5, 1) := by decide +kernel
theorem dX1_copyFrom_48 : decode cX1_copyFrom 48 = .ok (.invokestatic 42, 3) := by decide +kernel
theorem dX1_copyFrom_51 : decode cX1_copyFrom 51 = .ok (.return_, 1) := by decide +kernel
theorem dX1_copyTerm_0 : decode cX1_copyTerm 0 = .ok (.aload_n 1, 1) := by decide +kernel
theorem dX1_copyTerm_1 : decode cX1_copyTerm 1 = .ok (.getfield 11, 3) := by decide +kernel
theorem dX1_copyTerm_4 : decode cX1_copyTerm 4 = .ok (.iload_n 2, 1) := by decide +kernel
theorem dX1_copyTerm_5 : decode cX1_copyTerm 5 = .ok (.iconst 4, 1) := by decide +kernel
theorem dX1_copyTerm_6 : decode cX1_copyTerm 6 = .ok (.imul, 1) := by decide +kernel
theorem dX1_copyTerm_7 : decode cX1_copyTerm 7 = .ok (.aload_n 0, 1) := by decide +kernel
theorem dX1_copyTerm_8 : decode cX1_copyTerm 8 = .ok (.getfield 11, 3) := by decide +kernel
theorem dX1_copyTerm_11 : decode cX1_copyTerm 11 = .ok (.iload_n 3, 1) := by decide +kernel
theorem dX1_copyTerm_12 : decode cX1_copyTerm 12 = .ok (.iconst 4, 1) := by decide +kernel
theorem dX1_copyTerm_13 : decode cX1_copyTerm 13 = .ok (.imul, 1) := by decide +kernel
theorem dX1_copyTerm_14 : decode cX1_copyTerm 14 = .ok (.iconst 4, 1) := by decide +kernel
theorem dX1_copyTerm_15 : decode cX1_copyTerm 15 = .ok (.invokestatic 42, 3) := by decide +kernel
theorem dX1_copyTerm_18 : decode cX1_copyTerm 18 = .ok (.aload_n 0, 1) := by decide +kernel
theorem dX1_copyTerm_19 : decode cX1_copyTerm 19 = .ok (.getfield 15, 3) := by decide +kernel
theorem dX1_copyTerm_22 : decode cX1_copyTerm 22 = .ok (.iload_n 3, 1) := by decide +kernel
theorem dX1_copyTerm_23 : decode cX1_copyTerm 23 = .ok (.aload_n 1, 1) := by decide +kernel
theorem dX1_copyTerm_24 : decode cX1_copyTerm 24 = .ok (.getfield 15, 3) := by decide +kernel
theorem dX1_copyTerm_27 : decode cX1_copyTerm 27 = .ok (.iload_n 2, 1) := by decide +kernel
theorem dX1_copyTerm_28 : decode cX1_copyTerm 28 = .ok (.iaload, 1) := by decide +kernel
theorem dX1_copyTerm_29 : decode cX1_copyTerm 29 = .ok (.iastore, 1) := by decide +kernel
theorem dX1_copyTerm_30 : decode cX1_copyTerm 30 = .ok (.aload_n 0, 1) := by decide +kernel
theorem dX1_copyTerm_31 : decode cX1_copyTerm 31 = .ok (.getfield 19, 3) := by decide +kernel
theorem dX1_copyTerm_34 : decode cX1_copyTerm 34 = .ok (.iload_n 3, 1) := by decide +kernel
theorem dX1_copyTerm_35 : decode cX1_copyTerm 35 = .ok (.aload_n 1, 1) := by decide +kernel
theorem dX1_copyTerm_36 : decode cX1_copyTerm 36 = .ok (.getfield 19, 3) := by decide +kernel
theorem dX1_copyTerm_39 : decode cX1_copyTerm 39 = .ok (.iload_n 2, 1) := by decide +kernel
theorem dX1_copyTerm_40 : decode cX1_copyTerm 40 = .ok (.iaload, 1) := by decide +kernel
theorem dX1_copyTerm_41 : decode cX1_copyTerm 41 = .ok (.iastore, 1) := by decide +kernel
theorem dX1_copyTerm_42 : decode cX1_copyTerm 42 = .ok (.aload_n 0, 1) := by decide +kernel
theorem dX1_copyTerm_43 : decode cX1_copyTerm 43 = .ok (.getfield 22, 3) := by decide +kernel
theorem dX1_copyTerm_46 : decode cX1_copyTerm 46 = .ok (.iload_n 3, 1) := by decide +kernel
theorem dX1_copyTerm_47 : decode cX1_copyTerm 47 = .ok (.aload_n 1, 1) := by decide +kernel
theorem dX1_copyTerm_48 : decode cX1_copyTerm 48 = .ok (.getfield 22, 3) := by decide +kernel
theorem dX1_copyTerm_51 : decode cX1_copyTerm 51 = .ok (.iload_n 2, 1) := by decide +kernel
theorem dX1_copyTerm_52 : decode cX1_copyTerm 52 = .ok (.iaload, 1) := by decide +kernel
theorem dX1_copyTerm_53 : decode cX1_copyTerm 53 = .ok (.iastore, 1) := by decide +kernel
theorem dX1_copyTerm_54 : decode cX1_copyTerm 54 = .ok (.aload_n 0, 1) := by decide +kernel
theorem dX1_copyTerm_55 : decode cX1_copyTerm 55 = .ok (.getfield 25, 3) := by decide +kernel
theorem dX1_copyTerm_58 : decode cX1_copyTerm 58 = .ok (.iload_n 3, 1) := by decide +kernel
theorem dX1_copyTerm_59 : decode cX1_copyTerm 59 = .ok (.aload_n 1, 1) := by decide +kernel
theorem dX1_copyTerm_60 : decode cX1_copyTerm 60 = .ok (.getfield 25, 3) := by decide +kernel
theorem dX1_copyTerm_63 : decode cX1_copyTerm 63 = .ok (.iload_n 2, 1) := by decide +kernel
theorem dX1_copyTerm_64 : decode cX1_copyTerm 64 = .ok (.iaload, 1) := by decide +kernel
theorem dX1_copyTerm_65 : decode cX1_copyTerm 65 = .ok (.iastore, 1) := by decide +kernel
theorem dX1_copyTerm_66 : decode cX1_copyTerm 66 = .ok (.return_, 1) := by decide +kernel
theorem dX1_isTerm_0 : decode cX1_isTerm 0 = .ok (.iload_n 1, 1) := by decide +kernel
theorem dX1_isTerm_1 : decode cX1_isTerm 1 = .ok (.ifCond .lt 15, 3) := by decide +kernel
theorem dX1_isTerm_4 : decode cX1_isTerm 4 = .ok (.iload_n 1, 1) := by decide +kernel
theorem dX1_isTerm_5 : decode cX1_isTerm 5 = .ok (.aload_n 0, 1) := by decide +kernel
theorem dX1_isTerm_6 : decode cX1_isTerm 6 = .ok (.getfield 31, 3) := by decide +kernel
theorem dX1_isTerm_9 : decode cX1_isTerm 9 = .ok (.if_icmp .ge 7, 3) := by decide +kernel
theorem dX1_isTerm_12 : decode cX1_isTerm 12 = .ok (.iconst 1, 1) := by decide +kernel
theorem dX1_isTerm_13 : decode cX1_isTerm 13 = .ok (.goto 4, 3) := by decide +kernel
theorem dX1_isTerm_16 : decode cX1_isTerm 16 = .ok (.iconst 0, 1) := by decide +kernel
theorem dX1_isTerm_17 : decode cX1_isTerm 17 = .ok (.ireturn, 1) := by decide +kernel
theorem dX1_isEnding_0 : decode cX1_isEnding 0 = .ok (.iload_n 1, 1) := by decide +kernel
theorem dX1_isEnding_1 : decode cX1_isEnding 1 = .ok (.ifCond .lt 15, 3) := by decide +kernel
theorem dX1_isEnding_4 : decode cX1_isEnding 4 = .ok (.iload_n 1, 1) := by decide +kernel
theorem dX1_isEnding_5 : decode cX1_isEnding 5 = .ok (.aload_n 0, 1) := by decide +kernel
theorem dX1_isEnding_6 : decode cX1_isEnding 6 = .ok (.getfield 39, 3) := by decide +kernel
theorem dX1_isEnding_9 : decode cX1_isEnding 9 = .ok (.if_icmp .ge 7, 3) := by decide +kernel
theorem dX1_isEnding_12 : decode cX1_isEnding 12 = .ok (.iconst 1, 1) := by decide +kernel
theorem dX1_isEnding_13 : decode cX1_isEnding 13 = .ok (.goto 4, 3) := by decide +kernel
theorem dX1_isEnding_16 : decode cX1_isEnding 16 = .ok (.iconst 0, 1) := by decide +kernel
theorem dX1_isEnding_17 : decode cX1_isEnding 17 = .ok (.ireturn, 1) := by decide +kernel
theorem dX1_isForbidden_0 : decode cX1_isForbidden 0 = .ok (.aload_n 0, 1) := by decide +kernel
theorem dX1_isForbidden_1 : decode cX1_isForbidden 1 = .ok (.getfield 25, 3) := by decide +kernel
theorem dX1_isForbidden_4 : decode cX1_isForbidden 4 = .ok (.iload_n 1, 1) := by decide +kernel
theorem dX1_isForbidden_5 : decode cX1_isForbidden 5 = .ok (.iaload, 1) := by decide +kernel
theorem dX1_isForbidden_6 : decode cX1_isForbidden 6 = .ok (.iconst (-1), 1) := by decide +kernel
theorem dX1_isForbidden_7 : decode cX1_isForbidden 7 = .ok (.if_icmp .eq 7, 3) := by decide +kernel
theorem dX1_isForbidden_10 : decode cX1_isForbidden 10 = .ok (.iconst 1, 1) := by decide +kernel
theorem dX1_isForbidden_11 : decode cX1_isForbidden 11 = .ok (.goto 4, 3) := by decide +kernel
theorem dX1_isForbidden_14 : decode cX1_isForbidden 14 = .ok (.iconst 0, 1) := by decide +kernel
theorem dX1_isForbidden_15 : decode cX1_isForbidden 15 = .ok (.ireturn, 1) := by decide +kernel
theorem dX1_isPreferred_0 : decode cX1_isPreferred 0 = .ok (.iconst 0, 1) := by decide +kernel
theorem dX1_isPreferred_1 : decode cX1_isPreferred 1 = .ok (.istore_n 2, 1) := by decide +kernel
theorem dX1_isPreferred_2 : decode cX1_isPreferred 2 = .ok (.iload_n 2, 1) := by decide +kernel
theorem dX1_isPreferred_3 : decode cX1_isPreferred 3 = .ok (.aload_n 0, 1) := by decide +kernel
theorem dX1_isPreferred_4 : decode cX1_isPreferred 4 = .ok (.getfield 31, 3) := by decide +kernel
theorem dX1_isPreferred_7 : decode cX1_isPreferred 7 = .ok (.if_icmp .ge 21, 3) := by decide +kernel
theorem dX1_isPreferred_10 : decode cX1_isPreferred 10 = .ok (.aload_n 0, 1) := by decide +kernel
theorem dX1_isPreferred_11 : decode cX1_isPreferred 11 = .ok (.getfield 25, 3) := by decide +kernel
theorem dX1_isPreferred_14 : decode cX1_isPreferred 14 = .ok (.iload_n 2, 1) := by decide +kernel
theorem dX1_isPreferred_15 : decode cX1_isPreferred 15 = .ok (.iaload, 1) := by decide +kernel
theorem dX1_isPreferred_16 : decode cX1_isPreferred 16 = .ok (.iload_n 1, 1) := by decide +kernel
theorem dX1_isPreferred_17 : decode cX1_isPreferred 17 = .ok (.if_icmp .ne 5, 3) := by decide +kernel
theorem dX1_isPreferred_20 : decode cX1_isPreferred 20 = .ok (.iconst 1, 1) := by decide +kernel
theorem dX1_isPreferred_21 : decode cX1_isPreferred 21 = .ok (.ireturn, 1) := by decide +kernel
theorem dX1_isPreferred_22 : decode cX1_isPreferred 22 = .ok (.iinc 2 1, 3) := by decide +kernel
theorem dX1_isPreferred_25 : decode cX1_isPreferred 25 = .ok (.goto (-23), 3) := by decide +kernel
theorem dX1_isPreferred_28 : decode cX1_isPreferred 28 = .ok (.iconst 0, 1) := by decide +kernel
theorem dX1_isPreferred_29 : decode cX1_isPreferred 29 = .ok (.ireturn, 1) := by decide +kernel
theorem dX1_forbiddenSet_0 : decode cX1_forbiddenSet 0 = .ok (.iconst 0, 1) := by decide +kernel
theorem dX1_forbiddenSet_1 : decode cX1_forbiddenSet 1 = .ok (.istore_n 1, 1) := by decide +kernel
theorem dX1_forbiddenSet_2 : decode cX1_forbiddenSet 2 = .ok (.iconst 0, 1) := by decide +kernel
theorem dX1_forbiddenSet_3 : decode cX1_forbiddenSet 3 = .ok (.istore_n 2, 1) := by decide +kernel
theorem dX1_forbiddenSet_4 : decode cX1_forbiddenSet 4 = .ok (.iload_n 2, 1) := by decide +kernel
theorem dX1_forbiddenSet_5 : decode cX1_forbiddenSet 5 = .ok (.aload_n 0, 1) := by decide +kernel
theorem dX1_forbiddenSet_6 : decode cX1_forbiddenSet 6 = .ok (.getfield 31, 3) := by decide +kernel
theorem dX1_forbiddenSet_9 : decode cX1_forbiddenSet 9 = .ok (.if_icmp .ge 23, 3) := by decide +kernel
theorem dX1_forbiddenSet_12 : decode cX1_forbiddenSet 12 = .ok (.aload_n 0, 1) := by decide +kernel
theorem dX1_forbiddenSet_13 : decode cX1_forbiddenSet 13 = .ok (.iload_n 2, 1) := by decide +kernel
theorem dX1_forbiddenSet_14 : decode cX1_forbiddenSet 14 = .ok (.invokevirtual 48, 3) := by decide +kernel
theorem dX1_forbiddenSet_17 : decode cX1_forbiddenSet 17 = .ok (.ifCond .eq 9, 3) := by decide +kernel
theorem dX1_forbiddenSet_20 : decode cX1_forbiddenSet 20 = .ok (.iload_n 1, 1) := by decide +kernel
theorem dX1_forbiddenSet_21 : decode cX1_forbiddenSet 21 = .ok (.iconst 1, 1) := by decide +kernel
theorem dX1_forbiddenSet_22 : decode cX1_forbiddenSet 22 = .ok (.iload_n 2, 1) := by decide +kernel
theorem dX1_forbiddenSet_23 : decode cX1_forbiddenSet 23 = .ok (.ishl, 1) := by decide +kernel
theorem dX1_forbiddenSet_24 : decode cX1_forbiddenSet 24 = .ok (.ior, 1) := by decide +kernel
theorem dX1_forbiddenSet_25 : decode cX1_forbiddenSet 25 = .ok (.istore_n 1, 1) := by decide +kernel
theorem dX1_forbiddenSet_26 : decode cX1_forbiddenSet 26 = .ok (.iinc 2 1, 3) := by decide +kernel
theorem dX1_forbiddenSet_29 : decode cX1_forbiddenSet 29 = .ok (.goto (-25), 3) := by decide +kernel
theorem dX1_forbiddenSet_32 : decode cX1_forbiddenSet 32 = .ok (.iload_n 1, 1) := by decide +kernel
theorem dX1_forbiddenSet_33 : decode cX1_forbiddenSet 33 = .ok (.ireturn, 1) := by decide +kernel
theorem dX1_wordOf_0 : decode cX1_wordOf 0 = .ok (.aload_n 0, 1) := by decide +kernel
theorem dX1_wordOf_1 : decode cX1_wordOf 1 = .ok (.getfield 11, 3) := by decide +kernel
theorem dX1_wordOf_4 : decode cX1_wordOf 4 = .ok (.iload_n 1, 1) := by decide +kernel
theorem dX1_wordOf_5 : decode cX1_wordOf 5 = .ok (.iconst 4, 1) := by decide +kernel
theorem dX1_wordOf_6 : decode cX1_wordOf 6 = .ok (.imul, 1) := by decide +kernel
theorem dX1_wordOf_7 : decode cX1_wordOf 7 = .ok (.iload_n 2, 1) := by decide +kernel
theorem dX1_wordOf_8 : decode cX1_wordOf 8 = .ok (.iadd, 1) := by decide +kernel
theorem dX1_wordOf_9 : decode cX1_wordOf 9 = .ok (.laload, 1) := by decide +kernel
theorem dX1_wordOf_10 : decode cX1_wordOf 10 = .ok (.lreturn, 1) := by decide +kernel
theorem dX1_worthOf_0 : decode cX1_worthOf 0 = .ok (.aload_n 0, 1) := by decide +kernel
theorem dX1_worthOf_1 : decode cX1_worthOf 1 = .ok (.getfield 19, 3) := by decide +kernel
theorem dX1_worthOf_4 : decode cX1_worthOf 4 = .ok (.iload_n 1, 1) := by decide +kernel
theorem dX1_worthOf_5 : decode cX1_worthOf 5 = .ok (.iaload, 1) := by decide +kernel
theorem dX1_worthOf_6 : decode cX1_worthOf 6 = .ok (.aload_n 0, 1) := by decide +kernel
theorem dX1_worthOf_7 : decode cX1_worthOf 7 = .ok (.getfield 15, 3) := by decide +kernel
theorem dX1_worthOf_10 : decode cX1_worthOf 10 = .ok (.iload_n 1, 1) := by decide +kernel
theorem dX1_worthOf_11 : decode cX1_worthOf 11 = .ok (.iaload, 1) := by decide +kernel
theorem dX1_worthOf_12 : decode cX1_worthOf 12 = .ok (.imul, 1) := by decide +kernel
theorem dX1_worthOf_13 : decode cX1_worthOf 13 = .ok (.ireturn, 1) := by decide +kernel
theorem dX1_hasTerm_0 : decode cX1_hasTerm 0 = .ok (.iconst 0, 1) := by decide +kernel
theorem dX1_hasTerm_1 : decode cX1_hasTerm 1 = .ok (.istore_n 3, 1) := by decide +kernel
theorem dX1_hasTerm_2 : decode cX1_hasTerm 2 = .ok (.iload_n 3, 1) := by decide +kernel
theorem dX1_hasTerm_3 : decode cX1_hasTerm 3 = .ok (.aload_n 0, 1) := by decide +kernel
theorem dX1_hasTerm_4 : decode cX1_hasTerm 4 = .ok (.getfield 31, 3) := by decide +kernel
theorem dX1_hasTerm_7 : decode cX1_hasTerm 7 = .ok (.if_icmp .ge 30, 3) := by decide +kernel
theorem dX1_hasTerm_10 : decode cX1_hasTerm 10 = .ok (.aload_n 0, 1) := by decide +kernel
theorem dX1_hasTerm_11 : decode cX1_hasTerm 11 = .ok (.getfield 15, 3) := by decide +kernel
theorem dX1_hasTerm_14 : decode cX1_hasTerm 14 = .ok (.iload_n 3, 1) := by decide +kernel
theorem dX1_hasTerm_15 : decode cX1_hasTerm 15 = .ok (.iaload, 1) := by decide +kernel
theorem dX1_hasTerm_16 : decode cX1_hasTerm 16 = .ok (.iload_n 2, 1) := by decide +kernel
theorem dX1_hasTerm_17 : decode cX1_hasTerm 17 = .ok (.if_icmp .ne 14, 3) := by decide +kernel
theorem dX1_hasTerm_20 : decode cX1_hasTerm 20 = .ok (.aload_n 0, 1) := by decide +kernel
theorem dX1_hasTerm_21 : decode cX1_hasTerm 21 = .ok (.iload_n 3, 1) := by decide +kernel
theorem dX1_hasTerm_22 : decode cX1_hasTerm 22 = .ok (.aload_n 1, 1) := by decide +kernel
theorem dX1_hasTerm_23 : decode cX1_hasTerm 23 = .ok (.invokevirtual 52, 3) := by decide +kernel
theorem dX1_hasTerm_26 : decode cX1_hasTerm 26 = .ok (.ifCond .eq 5, 3) := by decide +kernel
theorem dX1_hasTerm_29 : decode cX1_hasTerm 29 = .ok (.iconst 1, 1) := by decide +kernel
theorem dX1_hasTerm_30 : decode cX1_hasTerm 30 = .ok (.ireturn, 1) := by decide +kernel
theorem dX1_hasTerm_31 : decode cX1_hasTerm 31 = .ok (.iinc 3 1, 3) := by decide +kernel
theorem dX1_hasTerm_34 : decode cX1_hasTerm 34 = .ok (.goto (-32), 3) := by decide +kernel
theorem dX1_hasTerm_37 : decode cX1_hasTerm 37 = .ok (.iconst 0, 1) := by decide +kernel
theorem dX1_hasTerm_38 : decode cX1_hasTerm 38 = .ok (.ireturn, 1) := by decide +kernel
theorem dX1_hasWords_0 : decode cX1_hasWords 0 = .ok (.iconst 0, 1) := by decide +kernel
theorem dX1_hasWords_1 : decode cX1_hasWords 1 = .ok (.istore_n 3, 1) := by decide +kernel
theorem dX1_hasWords_2 : decode cX1_hasWords 2 = .ok (.iload_n 3, 1) := by decide +kernel
theorem dX1_hasWords_3 : decode cX1_hasWords 3 = .ok (.aload_n 0, 1) := by decide +kernel
theorem dX1_hasWords_4 : decode cX1_hasWords 4 = .ok (.getfield 15, 3) := by decide +kernel
theorem dX1_hasWords_7 : decode cX1_hasWords 7 = .ok (.iload_n 1, 1) := by decide +kernel
theorem dX1_hasWords_8 : decode cX1_hasWords 8 = .ok (.iaload, 1) := by decide +kernel
theorem dX1_hasWords_9 : decode cX1_hasWords 9 = .ok (.if_icmp .ge 30, 3) := by decide +kernel
theorem dX1_hasWords_12 : decode cX1_hasWords 12 = .ok (.iload_n 3, 1) := by decide +kernel
theorem dX1_hasWords_13 : decode cX1_hasWords 13 = .ok (.aload_n 2, 1) := by decide +kernel
theorem dX1_hasWords_14 : decode cX1_hasWords 14 = .ok (.arraylength, 1) := by decide +kernel
theorem dX1_hasWords_15 : decode cX1_hasWords 15 = .ok (.if_icmp .ge 24, 3) := by decide +kernel
theorem dX1_hasWords_18 : decode cX1_hasWords 18 = .ok (.aload_n 0, 1) := by decide +kernel
theorem dX1_hasWords_19 : decode cX1_hasWords 19 = .ok (.iload_n 1, 1) := by decide +kernel
theorem dX1_hasWords_20 : decode cX1_hasWords 20 = .ok (.iload_n 3, 1) := by decide +kernel
theorem dX1_hasWords_21 : decode cX1_hasWords 21 = .ok (.invokevirtual 56, 3) := by decide +kernel
theorem dX1_hasWords_24 : decode cX1_hasWords 24 = .ok (.aload_n 2, 1) := by decide +kernel
theorem dX1_hasWords_25 : decode cX1_hasWords 25 = .ok (.iload_n 3, 1) := by decide +kernel
theorem dX1_hasWords_26 : decode cX1_hasWords 26 = .ok (.laload, 1) := by decide +kernel
theorem dX1_hasWords_27 : decode cX1_hasWords 27 = .ok (.lcmp, 1) := by decide +kernel
theorem dX1_hasWords_28 : decode cX1_hasWords 28 = .ok (.ifCond .eq 5, 3) := by decide +kernel
theorem dX1_hasWords_31 : decode cX1_hasWords 31 = .ok (.iconst 0, 1) := by decide +kernel
theorem dX1_hasWords_32 : decode cX1_hasWords 32 = .ok (.ireturn, 1) := by decide +kernel
theorem dX1_hasWords_33 : decode cX1_hasWords 33 = .ok (.iinc 3 1, 3) := by decide +kernel
theorem dX1_hasWords_36 : decode cX1_hasWords 36 = .ok (.goto (-34), 3) := by decide +kernel
theorem dX1_hasWords_39 : decode cX1_hasWords 39 = .ok (.iconst 1, 1) := by decide +kernel
theorem dX1_hasWords_40 : decode cX1_hasWords 40 = .ok (.ireturn, 1) := by decide +kernel
theorem dX1_addTerm_0 : decode cX1_addTerm 0 = .ok (.aload_n 0, 1) := by decide +kernel
theorem dX1_addTerm_1 : decode cX1_addTerm 1 = .ok (.getfield 31, 3) := by decide +kernel
theorem dX1_addTerm_4 : decode cX1_addTerm 4 = .ok (.bipush 8, 2) := by decide +kernel
theorem dX1_addTerm_6 : decode cX1_addTerm 6 = .ok (.if_icmp .lt 5, 3) := by decide +kernel
theorem dX1_addTerm_9 : decode cX1_addTerm 9 = .ok (.iconst (-1), 1) := by decide +kernel
theorem dX1_addTerm_10 : decode cX1_addTerm 10 = .ok (.ireturn, 1) := by decide +kernel
theorem dX1_addTerm_11 : decode cX1_addTerm 11 = .ok (.aload_n 0, 1) := by decide +kernel
theorem dX1_addTerm_12 : decode cX1_addTerm 12 = .ok (.getfield 31, 3) := by decide +kernel
theorem dX1_addTerm_15 : decode cX1_addTerm 15 = .ok (.istore 5, 2) := by decide +kernel
theorem dX1_addTerm_17 : decode cX1_addTerm 17 = .ok (.iconst 0, 1) := by decide +kernel
theorem dX1_addTerm_18 : decode cX1_addTerm 18 = .ok (.istore 6, 2) := by decide +kernel
theorem dX1_addTerm_20 : decode cX1_addTerm 20 = .ok (.iload 6, 2) := by decide +kernel
theorem dX1_addTerm_22 : decode cX1_addTerm 22 = .ok (.iload_n 2, 1) := by decide +kernel
theorem dX1_addTerm_23 : decode cX1_addTerm 23 = .ok (.if_icmp .ge 31, 3) := by decide +kernel
theorem dX1_addTerm_26 : decode cX1_addTerm 26 = .ok (.iload 6, 2) := by decide +kernel
theorem dX1_addTerm_28 : decode cX1_addTerm 28 = .ok (.iconst 4, 1) := by decide +kernel
theorem dX1_addTerm_29 : decode cX1_addTerm 29 = .ok (.if_icmp .ge 25, 3) := by decide +kernel
theorem dX1_addTerm_32 : decode cX1_addTerm 32 = .ok (.aload_n 0, 1) := by decide +kernel
theorem dX1_addTerm_33 : decode cX1_addTerm 33 = .ok (.getfield 11, 3) := by decide +kernel
theorem dX1_addTerm_36 : decode cX1_addTerm 36 = .ok (.iload 5, 2) := by decide +kernel
theorem dX1_addTerm_38 : decode cX1_addTerm 38 = .ok (.iconst 4, 1) := by decide +kernel
theorem dX1_addTerm_39 : decode cX1_addTerm 39 = .ok (.imul, 1) := by decide +kernel
theorem dX1_addTerm_40 : decode cX1_addTerm 40 = .ok (.iload 6, 2) := by decide +kernel
theorem dX1_addTerm_42 : decode cX1_addTerm 42 = .ok (.iadd, 1) := by decide +kernel
theorem dX1_addTerm_43 : decode cX1_addTerm 43 = .ok (.aload_n 1, 1) := by decide +kernel
theorem dX1_addTerm_44 : decode cX1_addTerm 44 = .ok (.iload 6, 2) := by decide +kernel
theorem dX1_addTerm_46 : decode cX1_addTerm 46 = .ok (.laload, 1) := by decide +kernel
theorem dX1_addTerm_47 : decode cX1_addTerm 47 = .ok (.lastore, 1) := by decide +kernel
theorem dX1_addTerm_48 : decode cX1_addTerm 48 = .ok (.iinc 6 1, 3) := by decide +kernel
theorem dX1_addTerm_51 : decode cX1_addTerm 51 = .ok (.goto (-31), 3) := by decide +kernel
theorem dX1_addTerm_54 : decode cX1_addTerm 54 = .ok (.aload_n 0, 1) := by decide +kernel
theorem dX1_addTerm_55 : decode cX1_addTerm 55 = .ok (.getfield 15, 3) := by decide +kernel
theorem dX1_addTerm_58 : decode cX1_addTerm 58 = .ok (.iload 5, 2) := by decide +kernel
theorem dX1_addTerm_60 : decode cX1_addTerm 60 = .ok (.iload_n 2, 1) := by decide +kernel
theorem dX1_addTerm_61 : decode cX1_addTerm 61 = .ok (.iastore, 1) := by decide +kernel
theorem dX1_addTerm_62 : decode cX1_addTerm 62 = .ok (.aload_n 0, 1) := by decide +kernel
theorem dX1_addTerm_63 : decode cX1_addTerm 63 = .ok (.getfield 19, 3) := by decide +kernel
theorem dX1_addTerm_66 : decode cX1_addTerm 66 = .ok (.iload 5, 2) := by decide +kernel
theorem dX1_addTerm_68 : decode cX1_addTerm 68 = .ok (.iload_n 3, 1) := by decide +kernel
theorem dX1_addTerm_69 : decode cX1_addTerm 69 = .ok (.iastore, 1) := by decide +kernel
theorem dX1_addTerm_70 : decode cX1_addTerm 70 = .ok (.aload_n 0, 1) := by decide +kernel
theorem dX1_addTerm_71 : decode cX1_addTerm 71 = .ok (.getfield 22, 3) := by decide +kernel
theorem dX1_addTerm_74 : decode cX1_addTerm 74 = .ok (.iload 5, 2) := by decide +kernel
theorem dX1_addTerm_76 : decode cX1_addTerm 76 = .ok (.iload 4, 2) := by decide +kernel
theorem dX1_addTerm_78 : decode cX1_addTerm 78 = .ok (.iastore, 1) := by decide +kernel
theorem dX1_addTerm_79 : decode cX1_addTerm 79 = .ok (.aload_n 0, 1) := by decide +kernel
theorem dX1_addTerm_80 : decode cX1_addTerm 80 = .ok (.getfield 25, 3) := by decide +kernel
theorem dX1_addTerm_83 : decode cX1_addTerm 83 = .ok (.iload 5, 2) := by decide +kernel
theorem dX1_addTerm_85 : decode cX1_addTerm 85 = .ok (.iconst (-1), 1) := by decide +kernel
theorem dX1_addTerm_86 : decode cX1_addTerm 86 = .ok (.iastore, 1) := by decide +kernel
theorem dX1_addTerm_87 : decode cX1_addTerm 87 = .ok (.aload_n 0, 1) := by decide +kernel
theorem dX1_addTerm_88 : decode cX1_addTerm 88 = .ok (.dup, 1) := by decide +kernel
theorem dX1_addTerm_89 : decode cX1_addTerm 89 = .ok (.getfield 31, 3) := by decide +kernel
theorem dX1_addTerm_92 : decode cX1_addTerm 92 = .ok (.iconst 1, 1) := by decide +kernel
theorem dX1_addTerm_93 : decode cX1_addTerm 93 = .ok (.iadd, 1) := by decide +kernel
theorem dX1_addTerm_94 : decode cX1_addTerm 94 = .ok (.putfield 31, 3) := by decide +kernel
theorem dX1_addTerm_97 : decode cX1_addTerm 97 = .ok (.iload 5, 2) := by decide +kernel
theorem dX1_addTerm_99 : decode cX1_addTerm 99 = .ok (.ireturn, 1) := by decide +kernel
theorem dX1_removeTerm_0 : decode cX1_removeTerm 0 = .ok (.iload_n 1, 1) := by decide +kernel
theorem dX1_removeTerm_1 : decode cX1_removeTerm 1 = .ok (.istore_n 2, 1) := by decide +kernel
theorem dX1_removeTerm_2 : decode cX1_removeTerm 2 = .ok (.iload_n 2, 1) := by decide +kernel
theorem dX1_removeTerm_3 : decode cX1_removeTerm 3 = .ok (.iconst 1, 1) := by decide +kernel
theorem dX1_removeTerm_4 : decode cX1_removeTerm 4 = .ok (.iadd, 1) := by decide +kernel
theorem dX1_removeTerm_5 : decode cX1_removeTerm 5 = .ok (.aload_n 0, 1) := by decide +kernel
theorem dX1_removeTerm_6 : decode cX1_removeTerm 6 = .ok (.getfield 31, 3) := by decide +kernel
theorem dX1_removeTerm_9 : decode cX1_removeTerm 9 = .ok (.if_icmp .ge 18, 3) := by decide +kernel
theorem dX1_removeTerm_12 : decode cX1_removeTerm 12 = .ok (.aload_n 0, 1) := by decide +kernel
theorem dX1_removeTerm_13 : decode cX1_removeTerm 13 = .ok (.aload_n 0, 1) := by decide +kernel
theorem dX1_removeTerm_14 : decode cX1_removeTerm 14 = .ok (.iload_n 2, 1) := by decide +kernel
theorem dX1_removeTerm_15 : decode cX1_removeTerm 15 = .ok (.iconst 1, 1) := by decide +kernel
theorem dX1_removeTerm_16 : decode cX1_removeTerm 16 = .ok (.iadd, 1) := by decide +kernel
theorem dX1_removeTerm_17 : decode cX1_removeTerm 17 = .ok (.iload_n 2, 1) := by decide +kernel
theorem dX1_removeTerm_18 : decode cX1_removeTerm 18 = .ok (.invokevirtual 35, 3) := by decide +kernel
theorem dX1_removeTerm_21 : decode cX1_removeTerm 21 = .ok (.iinc 2 1, 3) := by decide +kernel
theorem dX1_removeTerm_24 : decode cX1_removeTerm 24 = .ok (.goto (-22), 3) := by decide +kernel
theorem dX1_removeTerm_27 : decode cX1_removeTerm 27 = .ok (.aload_n 0, 1) := by decide +kernel
theorem dX1_removeTerm_28 : decode cX1_removeTerm 28 = .ok (.dup, 1) := by decide +kernel
theorem dX1_removeTerm_29 : decode cX1_removeTerm 29 = .ok (.getfield 31, 3) := by decide +kernel
theorem dX1_removeTerm_32 : decode cX1_removeTerm 32 = .ok (.iconst 1, 1) := by decide +kernel
theorem dX1_removeTerm_33 : decode cX1_removeTerm 33 = .ok (.isub, 1) := by decide +kernel
theorem dX1_removeTerm_34 : decode cX1_removeTerm 34 = .ok (.putfield 31, 3) := by decide +kernel
theorem dX1_removeTerm_37 : decode cX1_removeTerm 37 = .ok (.iconst 0, 1) := by decide +kernel
theorem dX1_removeTerm_38 : decode cX1_removeTerm 38 = .ok (.istore_n 2, 1) := by decide +kernel
theorem dX1_removeTerm_39 : decode cX1_removeTerm 39 = .ok (.iload_n 2, 1) := by decide +kernel
theorem dX1_removeTerm_40 : decode cX1_removeTerm 40 = .ok (.aload_n 0, 1) := by decide +kernel
theorem dX1_removeTerm_41 : decode cX1_removeTerm 41 = .ok (.getfield 31, 3) := by decide +kernel
theorem dX1_removeTerm_44 : decode cX1_removeTerm 44 = .ok (.if_icmp .ge 29, 3) := by decide +kernel
theorem dX1_removeTerm_47 : decode cX1_removeTerm 47 = .ok (.aload_n 0, 1) := by decide +kernel
theorem dX1_removeTerm_48 : decode cX1_removeTerm 48 = .ok (.getfield 25, 3) := by decide +kernel
theorem dX1_removeTerm_51 : decode cX1_removeTerm 51 = .ok (.iload_n 2, 1) := by decide +kernel
theorem dX1_removeTerm_52 : decode cX1_removeTerm 52 = .ok (.iaload, 1) := by decide +kernel
theorem dX1_removeTerm_53 : decode cX1_removeTerm 53 = .ok (.iload_n 1, 1) := by decide +kernel
theorem dX1_removeTerm_54 : decode cX1_removeTerm 54 = .ok (.if_icmp .le 13, 3) := by decide +kernel
theorem dX1_removeTerm_57 : decode cX1_removeTerm 57 = .ok (.aload_n 0, 1) := by decide +kernel
theorem dX1_removeTerm_58 : decode cX1_removeTerm 58 = .ok (.getfield 25, 3) := by decide +kernel
theorem dX1_removeTerm_61 : decode cX1_removeTerm 61 = .ok (.iload_n 2, 1) := by decide +kernel
theorem dX1_removeTerm_62 : decode cX1_removeTerm 62 = .ok (.dup2, 1) := by decide +kernel
theorem dX1_removeTerm_63 : decode cX1_removeTerm 63 = .ok (.iaload, 1) := by decide +kernel
theorem dX1_removeTerm_64 : decode cX1_removeTerm 64 = .ok (.iconst 1, 1) := by decide +kernel
theorem dX1_removeTerm_65 : decode cX1_removeTerm 65 = .ok (.isub, 1) := by decide +kernel
theorem dX1_removeTerm_66 : decode cX1_removeTerm 66 = .ok (.iastore, 1) := by decide +kernel
theorem dX1_removeTerm_67 : decode cX1_removeTerm 67 = .ok (.iinc 2 1, 3) := by decide +kernel
theorem dX1_removeTerm_70 : decode cX1_removeTerm 70 = .ok (.goto (-31), 3) := by decide +kernel
theorem dX1_removeTerm_73 : decode cX1_removeTerm 73 = .ok (.return_, 1) := by decide +kernel
theorem dX1_hasEnding_0 : decode cX1_hasEnding 0 = .ok (.iconst 0, 1) := by decide +kernel
theorem dX1_hasEnding_1 : decode cX1_hasEnding 1 = .ok (.istore_n 3, 1) := by decide +kernel
theorem dX1_hasEnding_2 : decode cX1_hasEnding 2 = .ok (.iload_n 3, 1) := by decide +kernel
theorem dX1_hasEnding_3 : decode cX1_hasEnding 3 = .ok (.aload_n 0, 1) := by decide +kernel
theorem dX1_hasEnding_4 : decode cX1_hasEnding 4 = .ok (.getfield 39, 3) := by decide +kernel
theorem dX1_hasEnding_7 : decode cX1_hasEnding 7 = .ok (.if_icmp .ge 22, 3) := by decide +kernel
theorem dX1_hasEnding_10 : decode cX1_hasEnding 10 = .ok (.aload_n 0, 1) := by decide +kernel
theorem dX1_hasEnding_11 : decode cX1_hasEnding 11 = .ok (.getfield 28, 3) := by decide +kernel
theorem dX1_hasEnding_14 : decode cX1_hasEnding 14 = .ok (.iload_n 3, 1) := by decide +kernel
theorem dX1_hasEnding_15 : decode cX1_hasEnding 15 = .ok (.laload, 1) := by decide +kernel
theorem dX1_hasEnding_16 : decode cX1_hasEnding 16 = .ok (.lload_n 1, 1) := by decide +kernel
theorem dX1_hasEnding_17 : decode cX1_hasEnding 17 = .ok (.lcmp, 1) := by decide +kernel
theorem dX1_hasEnding_18 : decode cX1_hasEnding 18 = .ok (.ifCond .ne 5, 3) := by decide +kernel
theorem dX1_hasEnding_21 : decode cX1_hasEnding 21 = .ok (.iconst 1, 1) := by decide +kernel
theorem dX1_hasEnding_22 : decode cX1_hasEnding 22 = .ok (.ireturn, 1) := by decide +kernel
theorem dX1_hasEnding_23 : decode cX1_hasEnding 23 = .ok (.iinc 3 1, 3) := by decide +kernel
theorem dX1_hasEnding_26 : decode cX1_hasEnding 26 = .ok (.goto (-24), 3) := by decide +kernel
theorem dX1_hasEnding_29 : decode cX1_hasEnding 29 = .ok (.iconst 0, 1) := by decide +kernel
theorem dX1_hasEnding_30 : decode cX1_hasEnding 30 = .ok (.ireturn, 1) := by decide +kernel
theorem dX1_addEnding_0 : decode cX1_addEnding 0 = .ok (.aload_n 0, 1) := by decide +kernel
theorem dX1_addEnding_1 : decode cX1_addEnding 1 = .ok (.getfield 39, 3) := by decide +kernel
theorem dX1_addEnding_4 : decode cX1_addEnding 4 = .ok (.iconst 5, 1) := by decide +kernel
theorem dX1_addEnding_5 : decode cX1_addEnding 5 = .ok (.if_icmp .lt 5, 3) := by decide +kernel
theorem dX1_addEnding_8 : decode cX1_addEnding 8 = .ok (.iconst (-1), 1) := by decide +kernel
theorem dX1_addEnding_9 : decode cX1_addEnding 9 = .ok (.ireturn, 1) := by decide +kernel
theorem dX1_addEnding_10 : decode cX1_addEnding 10 = .ok (.aload_n 0, 1) := by decide +kernel
theorem dX1_addEnding_11 : decode cX1_addEnding 11 = .ok (.getfield 28, 3) := by decide +kernel
theorem dX1_addEnding_14 : decode cX1_addEnding 14 = .ok (.aload_n 0, 1) := by decide +kernel
theorem dX1_addEnding_15 : decode cX1_addEnding 15 = .ok (.getfield 39, 3) := by decide +kernel
theorem dX1_addEnding_18 : decode cX1_addEnding 18 = .ok (.lload_n 1, 1) := by decide +kernel
theorem dX1_addEnding_19 : decode cX1_addEnding 19 = .ok (.lastore, 1) := by decide +kernel
theorem dX1_addEnding_20 : decode cX1_addEnding 20 = .ok (.aload_n 0, 1) := by decide +kernel
theorem dX1_addEnding_21 : decode cX1_addEnding 21 = .ok (.dup, 1) := by decide +kernel
theorem dX1_addEnding_22 : decode cX1_addEnding 22 = .ok (.getfield 39, 3) := by decide +kernel
theorem dX1_addEnding_25 : decode cX1_addEnding 25 = .ok (.iconst 1, 1) := by decide +kernel
theorem dX1_addEnding_26 : decode cX1_addEnding 26 = .ok (.iadd, 1) := by decide +kernel
theorem dX1_addEnding_27 : decode cX1_addEnding 27 = .ok (.putfield 39, 3) := by decide +kernel
theorem dX1_addEnding_30 : decode cX1_addEnding 30 = .ok (.aload_n 0, 1) := by decide +kernel
theorem dX1_addEnding_31 : decode cX1_addEnding 31 = .ok (.getfield 39, 3) := by decide +kernel
theorem dX1_addEnding_34 : decode cX1_addEnding 34 = .ok (.iconst 1, 1) := by decide +kernel
theorem dX1_addEnding_35 : decode cX1_addEnding 35 = .ok (.isub, 1) := by decide +kernel
theorem dX1_addEnding_36 : decode cX1_addEnding 36 = .ok (.ireturn, 1) := by decide +kernel
theorem dX1_removeEnding_0 : decode cX1_removeEnding 0 = .ok (.iload_n 1, 1) := by decide +kernel
theorem dX1_removeEnding_1 : decode cX1_removeEnding 1 = .ok (.istore_n 2, 1) := by decide +kernel
theorem dX1_removeEnding_2 : decode cX1_removeEnding 2 = .ok (.iload_n 2, 1) := by decide +kernel
theorem dX1_removeEnding_3 : decode cX1_removeEnding 3 = .ok (.iconst 1, 1) := by decide +kernel
theorem dX1_removeEnding_4 : decode cX1_removeEnding 4 = .ok (.iadd, 1) := by decide +kernel
theorem dX1_removeEnding_5 : decode cX1_removeEnding 5 = .ok (.aload_n 0, 1) := by decide +kernel
theorem dX1_removeEnding_6 : decode cX1_removeEnding 6 = .ok (.getfield 39, 3) := by decide +kernel
theorem dX1_removeEnding_9 : decode cX1_removeEnding 9 = .ok (.if_icmp .ge 23, 3) := by decide +kernel
theorem dX1_removeEnding_12 : decode cX1_removeEnding 12 = .ok (.aload_n 0, 1) := by decide +kernel
theorem dX1_removeEnding_13 : decode cX1_removeEnding 13 = .ok (.getfield 28, 3) := by decide +kernel
theorem dX1_removeEnding_16 : decode cX1_removeEnding 16 = .ok (.iload_n 2, 1) := by decide +kernel
theorem dX1_removeEnding_17 : decode cX1_removeEnding 17 = .ok (.aload_n 0, 1) := by decide +kernel
theorem dX1_removeEnding_18 : decode cX1_removeEnding 18 = .ok (.getfield 28, 3) := by decide +kernel
theorem dX1_removeEnding_21 : decode cX1_removeEnding 21 = .ok (.iload_n 2, 1) := by decide +kernel
theorem dX1_removeEnding_22 : decode cX1_removeEnding 22 = .ok (.iconst 1, 1) := by decide +kernel
theorem dX1_removeEnding_23 : decode cX1_removeEnding 23 = .ok (.iadd, 1) := by decide +kernel
theorem dX1_removeEnding_24 : decode cX1_removeEnding 24 = .ok (.laload, 1) := by decide +kernel
theorem dX1_removeEnding_25 : decode cX1_removeEnding 25 = .ok (.lastore, 1) := by decide +kernel
theorem dX1_removeEnding_26 : decode cX1_removeEnding 26 = .ok (.iinc 2 1, 3) := by decide +kernel
theorem dX1_removeEnding_29 : decode cX1_removeEnding 29 = .ok (.goto (-27), 3) := by decide +kernel
theorem dX1_removeEnding_32 : decode cX1_removeEnding 32 = .ok (.aload_n 0, 1) := by decide +kernel
theorem dX1_removeEnding_33 : decode cX1_removeEnding 33 = .ok (.dup, 1) := by decide +kernel
theorem dX1_removeEnding_34 : decode cX1_removeEnding 34 = .ok (.getfield 39, 3) := by decide +kernel
theorem dX1_removeEnding_37 : decode cX1_removeEnding 37 = .ok (.iconst 1, 1) := by decide +kernel
theorem dX1_removeEnding_38 : decode cX1_removeEnding 38 = .ok (.isub, 1) := by decide +kernel
theorem dX1_removeEnding_39 : decode cX1_removeEnding 39 = .ok (.putfield 39, 3) := by decide +kernel
theorem dX1_removeEnding_42 : decode cX1_removeEnding 42 = .ok (.return_, 1) := by decide +kernel
theorem dX2_init_0 : decode cX2_init 0 = .ok (.aload_n 0, 1) := by decide +kernel
theorem dX2_init_1 : decode cX2_init 1 = .ok (.invokespecial 1, 3) := by decide +kernel
theorem dX2_init_4 : decode cX2_init 4 = .ok (.return_, 1) := by decide +kernel
theorem dX2_start_0 : decode cX2_start 0 = .ok (.aload_n 0, 1) := by decide +kernel
theorem dX2_start_1 : decode cX2_start 1 = .ok (.iload_n 1, 1) := by decide +kernel
theorem dX2_start_2 : decode cX2_start 2 = .ok (.i2l, 1) := by decide +kernel
theorem dX2_start_3 : decode cX2_start 3 = .ok (.putfield 7, 3) := by decide +kernel
theorem dX2_start_6 : decode cX2_start 6 = .ok (.return_, 1) := by decide +kernel
theorem dX2_below_0 : decode cX2_below 0 = .ok (.aload_n 0, 1) := by decide +kernel
theorem dX2_below_1 : decode cX2_below 1 = .ok (.aload_n 0, 1) := by decide +kernel
theorem dX2_below_2 : decode cX2_below 2 = .ok (.getfield 7, 3) := by decide +kernel
theorem dX2_below_5 : decode cX2_below 5 = .ok (.ldc2_w 13, 3) := by decide +kernel
theorem dX2_below_8 : decode cX2_below 8 = .ok (.lmul, 1) := by decide +kernel
theorem dX2_below_9 : decode cX2_below 9 = .ok (.ldc2_w 15, 3) := by decide +kernel
theorem dX2_below_12 : decode cX2_below 12 = .ok (.lrem, 1) := by decide +kernel
theorem dX2_below_13 : decode cX2_below 13 = .ok (.putfield 7, 3) := by decide +kernel
theorem dX2_below_16 : decode cX2_below 16 = .ok (.iload_n 1, 1) := by decide +kernel
theorem dX2_below_17 : decode cX2_below 17 = .ok (.ifCond .le 14, 3) := by decide +kernel
theorem dX2_below_20 : decode cX2_below 20 = .ok (.aload_n 0, 1) := by decide +kernel
theorem dX2_below_21 : decode cX2_below 21 = .ok (.getfield 7, 3) := by decide +kernel
theorem dX2_below_24 : decode cX2_below 24 = .ok (.iload_n 1, 1) := by decide +kernel
theorem dX2_below_25 : decode cX2_below 25 = .ok (.i2l, 1) := by decide +kernel
theorem dX2_below_26 : decode cX2_below 26 = .ok (.lrem, 1) := by decide +kernel
theorem dX2_below_27 : decode cX2_below 27 = .ok (.l2i, 1) := by decide +kernel
theorem dX2_below_28 : decode cX2_below 28 = .ok (.goto 4, 3) := by decide +kernel
theorem dX2_below_31 : decode cX2_below 31 = .ok (.iconst 0, 1) := by decide +kernel
theorem dX2_below_32 : decode cX2_below 32 = .ok (.ireturn, 1) := by decide +kernel
theorem dX3_init_0 : decode cX3_init 0 = .ok (.aload_n 0, 1) := by decide +kernel
theorem dX3_init_1 : decode cX3_init 1 = .ok (.invokespecial 7, 3) := by decide +kernel
theorem dX3_init_4 : decode cX3_init 4 = .ok (.aload_n 0, 1) := by decide +kernel
theorem dX3_init_5 : decode cX3_init 5 = .ok (.aload_n 1, 1) := by decide +kernel
theorem dX3_init_6 : decode cX3_init 6 = .ok (.putfield 13, 3) := by decide +kernel
theorem dX3_init_9 : decode cX3_init 9 = .ok (.aload_n 0, 1) := by decide +kernel
theorem dX3_init_10 : decode cX3_init 10 = .ok (.aload_n 2, 1) := by decide +kernel
theorem dX3_init_11 : decode cX3_init 11 = .ok (.putfield 19, 3) := by decide +kernel
theorem dX3_init_14 : decode cX3_init 14 = .ok (.aload_n 0, 1) := by decide +kernel
theorem dX3_init_15 : decode cX3_init 15 = .ok (.aload_n 3, 1) := by decide +kernel
theorem dX3_init_16 : decode cX3_init 16 = .ok (.putfield 23, 3) := by decide +kernel
theorem dX3_init_19 : decode cX3_init 19 = .ok (.aload_n 0, 1) := by decide +kernel
theorem dX3_init_20 : decode cX3_init 20 = .ok (.sipush 3120, 3) := by decide +kernel
theorem dX3_init_23 : decode cX3_init 23 = .ok (.newarray .char, 2) := by decide +kernel
theorem dX3_init_25 : decode cX3_init 25 = .ok (.putfield 27, 3) := by decide +kernel
theorem dX3_init_28 : decode cX3_init 28 = .ok (.return_, 1) := by decide +kernel
theorem dX3_forget_0 : decode cX3_forget 0 = .ok (.aload_n 0, 1) := by decide +kernel
theorem dX3_forget_1 : decode cX3_forget 1 = .ok (.iconst 0, 1) := by decide +kernel
theorem dX3_forget_2 : decode cX3_forget 2 = .ok (.putfield 31, 3) := by decide +kernel
theorem dX3_forget_5 : decode cX3_forget 5 = .ok (.return_, 1) := by decide +kernel
theorem dX3_write_0 : decode cX3_write 0 = .ok (.aload_n 0, 1) := by decide +kernel
theorem dX3_write_1 : decode cX3_write 1 = .ok (.getfield 31, 3) := by decide +kernel
theorem dX3_write_4 : decode cX3_write 4 = .ok (.ifCond .eq 4, 3) := by decide +kernel
theorem dX3_write_7 : decode cX3_write 7 = .ok (.return_, 1) := by decide +kernel
theorem dX3_write_8 : decode cX3_write 8 = .ok (.aload_n 0, 1) := by decide +kernel
theorem dX3_write_9 : decode cX3_write 9 = .ok (.iconst 0, 1) := by decide +kernel
theorem dX3_write_10 : decode cX3_write 10 = .ok (.putfield 35, 3) := by decide +kernel
theorem dX3_write_13 : decode cX3_write 13 = .ok (.iconst 0, 1) := by decide +kernel
theorem dX3_write_14 : decode cX3_write 14 = .ok (.istore_n 1, 1) := by decide +kernel
theorem dX3_write_15 : decode cX3_write 15 = .ok (.iload_n 1, 1) := by decide +kernel
theorem dX3_write_16 : decode cX3_write 16 = .ok (.aload_n 0, 1) := by decide +kernel
theorem dX3_write_17 : decode cX3_write 17 = .ok (.getfield 19, 3) := by decide +kernel
theorem dX3_write_20 : decode cX3_write 20 = .ok (.getfield 39, 3) := by decide +kernel
theorem dX3_write_23 : decode cX3_write 23 = .ok (.if_icmp .ge 82, 3) := by decide +kernel
theorem dX3_write_26 : decode cX3_write 26 = .ok (.aload_n 0, 1) := by decide +kernel
theorem dX3_write_27 : decode cX3_write 27 = .ok (.getfield 23, 3) := by decide +kernel
theorem dX3_write_30 : decode cX3_write 30 = .ok (.iload_n 1, 1) := by decide +kernel
theorem dX3_write_31 : decode cX3_write 31 = .ok (.invokevirtual 42, 3) := by decide +kernel
theorem dX3_write_34 : decode cX3_write 34 = .ok (.istore_n 2, 1) := by decide +kernel
theorem dX3_write_35 : decode cX3_write 35 = .ok (.iload_n 2, 1) := by decide +kernel
theorem dX3_write_36 : decode cX3_write 36 = .ok (.iconst (-1), 1) := by decide +kernel
theorem dX3_write_37 : decode cX3_write 37 = .ok (.if_icmp .ne 19, 3) := by decide +kernel
theorem dX3_write_40 : decode cX3_write 40 = .ok (.aload_n 0, 1) := by decide +kernel
theorem dX3_write_41 : decode cX3_write 41 = .ok (.aload_n 0, 1) := by decide +kernel
theorem dX3_write_42 : decode cX3_write 42 = .ok (.getfield 19, 3) := by decide +kernel
theorem dX3_write_45 : decode cX3_write 45 = .ok (.getfield 48, 3) := by decide +kernel
theorem dX3_write_48 : decode cX3_write 48 = .ok (.iload_n 1, 1) := by decide +kernel
theorem dX3_write_49 : decode cX3_write 49 = .ok (.laload, 1) := by decide +kernel
theorem dX3_write_50 : decode cX3_write 50 = .ok (.invokevirtual 52, 3) := by decide +kernel
theorem dX3_write_53 : decode cX3_write 53 = .ok (.goto 29, 3) := by decide +kernel
theorem dX3_write_56 : decode cX3_write 56 = .ok (.aload_n 0, 1) := by decide +kernel
theorem dX3_write_57 : decode cX3_write 57 = .ok (.getfield 23, 3) := by decide +kernel
theorem dX3_write_60 : decode cX3_write 60 = .ok (.getfield 56, 3) := by decide +kernel
theorem dX3_write_63 : decode cX3_write 63 = .ok (.aload_n 0, 1) := by decide +kernel
theorem dX3_write_64 : decode cX3_write 64 = .ok (.getfield 23, 3) := by decide +kernel
theorem dX3_write_67 : decode cX3_write 67 = .ok (.getfield 60, 3) := by decide +kernel
theorem dX3_write_70 : decode cX3_write 70 = .ok (.iload_n 1, 1) := by decide +kernel
theorem dX3_write_71 : decode cX3_write 71 = .ok (.iaload, 1) := by decide +kernel
theorem dX3_write_72 : decode cX3_write 72 = .ok (.iaload, 1) := by decide +kernel
theorem dX3_write_73 : decode cX3_write 73 = .ok (.iload_n 1, 1) := by decide +kernel
theorem dX3_write_74 : decode cX3_write 74 = .ok (.if_icmp .ne 8, 3) := by decide +kernel
theorem dX3_write_77 : decode cX3_write 77 = .ok (.aload_n 0, 1) := by decide +kernel
theorem dX3_write_78 : decode cX3_write 78 = .ok (.iload_n 2, 1) := by decide +kernel
theorem dX3_write_79 : decode cX3_write 79 = .ok (.invokevirtual 63, 3) := by decide +kernel
theorem dX3_write_82 : decode cX3_write 82 = .ok (.aload_n 0, 1) := by decide +kernel
theorem dX3_write_83 : decode cX3_write 83 = .ok (.getfield 19, 3) := by decide +kernel
theorem dX3_write_86 : decode cX3_write 86 = .ok (.iload_n 1, 1) := by decide +kernel
theorem dX3_write_87 : decode cX3_write 87 = .ok (.invokevirtual 67, 3) := by decide +kernel
theorem dX3_write_90 : decode cX3_write 90 = .ok (.ifCond .eq 9, 3) := by decide +kernel
theorem dX3_write_93 : decode cX3_write 93 = .ok (.aload_n 0, 1) := by decide +kernel
theorem dX3_write_94 : decode cX3_write 94 = .ok (.bipush 46, 2) := by decide +kernel
theorem dX3_write_96 : decode cX3_write 96 = .ok (.invokevirtual 71, 3) := by decide +kernel
theorem dX3_write_99 : decode cX3_write 99 = .ok (.iinc 1 1, 3) := by decide +kernel
theorem dX3_write_102 : decode cX3_write 102 = .ok (.goto (-87), 3) := by decide +kernel
theorem dX3_write_105 : decode cX3_write 105 = .ok (.aload_n 0, 1) := by decide +kernel
theorem dX3_write_106 : decode cX3_write 106 = .ok (.iconst 1, 1) := by decide +kernel
theorem dX3_write_107 : decode cX3_write 107 = .ok (.putfield 31, 3) := by decide +kernel
theorem dX3_write_110 : decode cX3_write 110 = .ok (.return_, 1) := by decide +kernel
theorem dX3_addWordsOf_0 : decode cX3_addWordsOf 0 = .ok (.iconst 0, 1) := by decide +kernel
theorem dX3_addWordsOf_1 : decode cX3_addWordsOf 1 = .ok (.istore_n 2, 1) := by decide +kernel
theorem dX3_addWordsOf_2 : decode cX3_addWordsOf 2 = .ok (.iload_n 2, 1) := by decide +kernel
theorem dX3_addWordsOf_3 : decode cX3_addWordsOf 3 = .ok (.aload_n 0, 1) := by decide +kernel
theorem dX3_addWordsOf_4 : decode cX3_addWordsOf 4 = .ok (.getfield 13, 3) := by decide +kernel
theorem dX3_addWordsOf_7 : decode cX3_addWordsOf 7 = .ok (.getfield 74, 3) := by decide +kernel
theorem dX3_addWordsOf_10 : decode cX3_addWordsOf 10 = .ok (.iload_n 1, 1) := by decide +kernel
theorem dX3_addWordsOf_11 : decode cX3_addWordsOf 11 = .ok (.iaload, 1) := by decide +kernel
theorem dX3_addWordsOf_12 : decode cX3_addWordsOf 12 = .ok (.if_icmp .ge 22, 3) := by decide +kernel
theorem dX3_addWordsOf_15 : decode cX3_addWordsOf 15 = .ok (.aload_n 0, 1) := by decide +kernel
theorem dX3_addWordsOf_16 : decode cX3_addWordsOf 16 = .ok (.aload_n 0, 1) := by decide +kernel
theorem dX3_addWordsOf_17 : decode cX3_addWordsOf 17 = .ok (.getfield 13, 3) := by decide +kernel
theorem dX3_addWordsOf_20 : decode cX3_addWordsOf 20 = .ok (.iload_n 1, 1) := by decide +kernel
theorem dX3_addWordsOf_21 : decode cX3_addWordsOf 21 = .ok (.iload_n 2, 1) := by decide +kernel
theorem dX3_addWordsOf_22 : decode cX3_addWordsOf 22 = .ok (.invokevirtual 79, 3) := by decide +kernel
theorem dX3_addWordsOf_25 : decode cX3_addWordsOf 25 = .ok (.invokevirtual 52, 3) := by decide +kernel
theorem dX3_addWordsOf_28 : decode cX3_addWordsOf 28 = .ok (.iinc 2 1, 3) := by decide +kernel
theorem dX3_addWordsOf_31 : decode cX3_addWordsOf 31 = .ok (.goto (-29), 3) := by decide +kernel
theorem dX3_addWordsOf_34 : decode cX3_addWordsOf 34 = .ok (.return_, 1) := by decide +kernel
theorem dX3_addWord_0 : decode cX3_addWord 0 = .ok (.aload_n 0, 1) := by decide +kernel
theorem dX3_addWord_1 : decode cX3_addWord 1 = .ok (.getfield 35, 3) := by decide +kernel
theorem dX3_addWord_4 : decode cX3_addWord 4 = .ok (.ifCond .le 9, 3) := by decide +kernel
theorem dX3_addWord_7 : decode cX3_addWord 7 = .ok (.aload_n 0, 1) := by decide +kernel
theorem dX3_addWord_8 : decode cX3_addWord 8 = .ok (.bipush 32, 2) := by decide +kernel
theorem dX3_addWord_10 : decode cX3_addWord 10 = .ok (.invokevirtual 71, 3) := by decide +kernel
theorem dX3_addWord_13 : decode cX3_addWord 13 = .ok (.lload_n 1, 1) := by decide +kernel
theorem dX3_addWord_14 : decode cX3_addWord 14 = .ok (.invokestatic 83, 3) := by decide +kernel
theorem dX3_addWord_17 : decode cX3_addWord 17 = .ok (.istore_n 3, 1) := by decide +kernel
theorem dX3_addWord_18 : decode cX3_addWord 18 = .ok (.iconst 0, 1) := by decide +kernel
theorem dX3_addWord_19 : decode cX3_addWord 19 = .ok (.istore 4, 2) := by decide +kernel
theorem dX3_addWord_21 : decode cX3_addWord 21 = .ok (.iload 4, 2) := by decide +kernel
theorem dX3_addWord_23 : decode cX3_addWord 23 = .ok (.iload_n 3, 1) := by decide +kernel
theorem dX3_addWord_24 : decode cX3_addWord 24 = .ok (.if_icmp .ge 19, 3) := by decide +kernel
theorem dX3_addWord_27 : decode cX3_addWord 27 = .ok (.aload_n 0, 1) := by decide +kernel
theorem dX3_addWord_28 : decode cX3_addWord 28 = .ok (.lload_n 1, 1) := by decide +kernel
theorem dX3_addWord_29 : decode cX3_addWord 29 = .ok (.iload 4, 2) := by decide +kernel
theorem dX3_addWord_31 : decode cX3_addWord 31 = .ok (.invokestatic 89, 3) := by decide +kernel
theorem dX3_addWord_34 : decode cX3_addWord 34 = .ok (.invokevirtual 71, 3) := by decide +kernel
theorem dX3_addWord_37 : decode cX3_addWord 37 = .ok (.iinc 4 1, 3) := by decide +kernel
theorem dX3_addWord_40 : decode cX3_addWord 40 = .ok (.goto (-19), 3) := by decide +kernel
theorem dX3_addWord_43 : decode cX3_addWord 43 = .ok (.return_, 1) := by decide +kernel
theorem dX3_addSign_0 : decode cX3_addSign 0 = .ok (.aload_n 0, 1) := by decide +kernel
theorem dX3_addSign_1 : decode cX3_addSign 1 = .ok (.getfield 35, 3) := by decide +kernel
theorem dX3_addSign_4 : decode cX3_addSign 4 = .ok (.sipush 3120, 3) := by decide +kernel
theorem dX3_addSign_7 : decode cX3_addSign 7 = .ok (.if_icmp .ge 24, 3) := by decide +kernel
theorem dX3_addSign_10 : decode cX3_addSign 10 = .ok (.aload_n 0, 1) := by decide +kernel
theorem dX3_addSign_11 : decode cX3_addSign 11 = .ok (.getfield 27, 3) := by decide +kernel
theorem dX3_addSign_14 : decode cX3_addSign 14 = .ok (.aload_n 0, 1) := by decide +kernel
theorem dX3_addSign_15 : decode cX3_addSign 15 = .ok (.getfield 35, 3) := by decide +kernel
theorem dX3_addSign_18 : decode cX3_addSign 18 = .ok (.iload_n 1, 1) := by decide +kernel
theorem dX3_addSign_19 : decode cX3_addSign 19 = .ok (.i2c, 1) := by decide +kernel
theorem dX3_addSign_20 : decode cX3_addSign 20 = .ok (.castore, 1) := by decide +kernel
theorem dX3_addSign_21 : decode cX3_addSign 21 = .ok (.aload_n 0, 1) := by decide +kernel
theorem dX3_addSign_22 : decode cX3_addSign 22 = .ok (.dup, 1) := by decide +kernel
theorem dX3_addSign_23 : decode cX3_addSign 23 = .ok (.getfield 35, 3) := by decide +kernel
theorem dX3_addSign_26 : decode cX3_addSign 26 = .ok (.iconst 1, 1) := by decide +kernel
theorem dX3_addSign_27 : decode cX3_addSign 27 = .ok (.iadd, 1) := by decide +kernel
theorem dX3_addSign_28 : decode cX3_addSign 28 = .ok (.putfield 35, 3) := by decide +kernel
theorem dX3_addSign_31 : decode cX3_addSign 31 = .ok (.return_, 1) := by decide +kernel
theorem dX4_init_0 : decode cX4_init 0 = .ok (.aload_n 0, 1) := by decide +kernel
theorem dX4_init_1 : decode cX4_init 1 = .ok (.invokespecial 3, 3) := by decide +kernel
theorem dX4_init_4 : decode cX4_init 4 = .ok (.aload_n 0, 1) := by decide +kernel
theorem dX4_init_5 : decode cX4_init 5 = .ok (.aload_n 1, 1) := by decide +kernel
theorem dX4_init_6 : decode cX4_init 6 = .ok (.putfield 9, 3) := by decide +kernel
theorem dX4_init_9 : decode cX4_init 9 = .ok (.aload_n 0, 1) := by decide +kernel
theorem dX4_init_10 : decode cX4_init 10 = .ok (.aload_n 2, 1) := by decide +kernel
theorem dX4_init_11 : decode cX4_init 11 = .ok (.putfield 15, 3) := by decide +kernel
theorem dX4_init_14 : decode cX4_init 14 = .ok (.aload_n 0, 1) := by decide +kernel
theorem dX4_init_15 : decode cX4_init 15 = .ok (.bipush 6, 2) := by decide +kernel
theorem dX4_init_17 : decode cX4_init 17 = .ok (.newarray .long, 2) := by decide +kernel
theorem dX4_init_19 : decode cX4_init 19 = .ok (.putfield 21, 3) := by decide +kernel
theorem dX4_init_22 : decode cX4_init 22 = .ok (.aload_n 0, 1) := by decide +kernel
theorem dX4_init_23 : decode cX4_init 23 = .ok (.bipush 60, 2) := by decide +kernel
theorem dX4_init_25 : decode cX4_init 25 = .ok (.newarray .int, 2) := by decide +kernel
theorem dX4_init_27 : decode cX4_init 27 = .ok (.putfield 27, 3) := by decide +kernel
theorem dX4_init_30 : decode cX4_init 30 = .ok (.aload_n 0, 1) := by decide +kernel
theorem dX4_init_31 : decode cX4_init 31 = .ok (.bipush 60, 2) := by decide +kernel
theorem dX4_init_33 : decode cX4_init 33 = .ok (.newarray .int, 2) := by decide +kernel
theorem dX4_init_35 : decode cX4_init 35 = .ok (.putfield 31, 3) := by decide +kernel
theorem dX4_init_38 : decode cX4_init 38 = .ok (.aload_n 0, 1) := by decide +kernel
theorem dX4_init_39 : decode cX4_init 39 = .ok (.bipush 61, 2) := by decide +kernel
theorem dX4_init_41 : decode cX4_init 41 = .ok (.newarray .int, 2) := by decide +kernel
theorem dX4_init_43 : decode cX4_init 43 = .ok (.putfield 34, 3) := by decide +kernel
theorem dX4_init_46 : decode cX4_init 46 = .ok (.aload_n 0, 1) := by decide +kernel
theorem dX4_init_47 : decode cX4_init 47 = .ok (.bipush 61, 2) := by decide +kernel
theorem dX4_init_49 : decode cX4_init 49 = .ok (.newarray .int, 2) := by decide +kernel
theorem dX4_init_51 : decode cX4_init 51 = .ok (.putfield 37, 3) := by decide +kernel
theorem dX4_init_54 : decode cX4_init 54 = .ok (.aload_n 0, 1) := by decide +kernel
theorem dX4_init_55 : decode cX4_init 55 = .ok (.bipush 60, 2) := by decide +kernel
theorem dX4_init_57 : decode cX4_init 57 = .ok (.newarray .int, 2) := by decide +kernel
theorem dX4_init_59 : decode cX4_init 59 = .ok (.putfield 40, 3) := by decide +kernel
theorem dX4_init_62 : decode cX4_init 62 = .ok (.aload_n 0, 1) := by decide +kernel
theorem dX4_init_63 : decode cX4_init 63 = .ok (.bipush 60, 2) := by decide +kernel
theorem dX4_init_65 : decode cX4_init 65 = .ok (.newarray .int, 2) := by decide +kernel
theorem dX4_init_67 : decode cX4_init 67 = .ok (.putfield 43, 3) := by decide +kernel
theorem dX4_init_70 : decode cX4_init 70 = .ok (.aload_n 0, 1) := by decide +kernel
theorem dX4_init_71 : decode cX4_init 71 = .ok (.bipush 60, 2) := by decide +kernel
theorem dX4_init_73 : decode cX4_init 73 = .ok (.newarray .int, 2) := by decide +kernel
theorem dX4_init_75 : decode cX4_init 75 = .ok (.putfield 46, 3) := by decide +kernel
theorem dX4_init_78 : decode cX4_init 78 = .ok (.aload_n 0, 1) := by decide +kernel
theorem dX4_init_79 : decode cX4_init 79 = .ok (.bipush 60, 2) := by decide +kernel
theorem dX4_init_81 : decode cX4_init 81 = .ok (.newarray .int, 2) := by decide +kernel
theorem dX4_init_83 : decode cX4_init 83 = .ok (.putfield 49, 3) := by decide +kernel
theorem dX4_init_86 : decode cX4_init 86 = .ok (.return_, 1) := by decide +kernel
theorem dX4_forget_0 : decode cX4_forget 0 = .ok (.aload_n 0, 1) := by decide +kernel
theorem dX4_forget_1 : decode cX4_forget 1 = .ok (.iconst 0, 1) := by decide +kernel
theorem dX4_forget_2 : decode cX4_forget 2 = .ok (.putfield 52, 3) := by decide +kernel
theorem dX4_forget_5 : decode cX4_forget 5 = .ok (.aload_n 0, 1) := by decide +kernel
theorem dX4_forget_6 : decode cX4_forget 6 = .ok (.iconst 0, 1) := by decide +kernel
theorem dX4_forget_7 : decode cX4_forget 7 = .ok (.putfield 56, 3) := by decide +kernel
theorem dX4_forget_10 : decode cX4_forget 10 = .ok (.return_, 1) := by decide +kernel
theorem dX4_unsettle_0 : decode cX4_unsettle 0 = .ok (.aload_n 0, 1) := by decide +kernel
theorem dX4_unsettle_1 : decode cX4_unsettle 1 = .ok (.iconst 0, 1) := by decide +kernel
theorem dX4_unsettle_2 : decode cX4_unsettle 2 = .ok (.putfield 56, 3) := by decide +kernel
theorem dX4_unsettle_5 : decode cX4_unsettle 5 = .ok (.return_, 1) := by decide +kernel
theorem dX4_settle_0 : decode cX4_settle 0 = .ok (.aload_n 0, 1) := by decide +kernel
theorem dX4_settle_1 : decode cX4_settle 1 = .ok (.getfield 56, 3) := by decide +kernel
theorem dX4_settle_4 : decode cX4_settle 4 = .ok (.ifCond .eq 4, 3) := by decide +kernel
theorem dX4_settle_7 : decode cX4_settle 7 = .ok (.return_, 1) := by decide +kernel
theorem dX4_settle_8 : decode cX4_settle 8 = .ok (.aload_n 0, 1) := by decide +kernel
theorem dX4_settle_9 : decode cX4_settle 9 = .ok (.getfield 52, 3) := by decide +kernel
theorem dX4_settle_12 : decode cX4_settle 12 = .ok (.istore_n 1, 1) := by decide +kernel
theorem dX4_settle_13 : decode cX4_settle 13 = .ok (.iload_n 1, 1) := by decide +kernel
theorem dX4_settle_14 : decode cX4_settle 14 = .ok (.aload_n 0, 1) := by decide +kernel
theorem dX4_settle_15 : decode cX4_settle 15 = .ok (.getfield 15, 3) := by decide +kernel
theorem dX4_settle_18 : decode cX4_settle 18 = .ok (.getfield 60, 3) := by decide +kernel
theorem dX4_settle_21 : decode cX4_settle 21 = .ok (.if_icmp .ge 14, 3) := by decide +kernel
theorem dX4_settle_24 : decode cX4_settle 24 = .ok (.aload_n 0, 1) := by decide +kernel
theorem dX4_settle_25 : decode cX4_settle 25 = .ok (.iload_n 1, 1) := by decide +kernel
theorem dX4_settle_26 : decode cX4_settle 26 = .ok (.invokevirtual 63, 3) := by decide +kernel
theorem dX4_settle_29 : decode cX4_settle 29 = .ok (.iinc 1 1, 3) := by decide +kernel
theorem dX4_settle_32 : decode cX4_settle 32 = .ok (.goto (-19), 3) := by decide +kernel
theorem dX4_settle_35 : decode cX4_settle 35 = .ok (.aload_n 0, 1) := by decide +kernel
theorem dX4_settle_36 : decode cX4_settle 36 = .ok (.aload_n 0, 1) := by decide +kernel
theorem dX4_settle_37 : decode cX4_settle 37 = .ok (.getfield 15, 3) := by decide +kernel
theorem dX4_settle_40 : decode cX4_settle 40 = .ok (.getfield 60, 3) := by decide +kernel
theorem dX4_settle_43 : decode cX4_settle 43 = .ok (.putfield 52, 3) := by decide +kernel
theorem dX4_settle_46 : decode cX4_settle 46 = .ok (.aload_n 0, 1) := by decide +kernel
theorem dX4_settle_47 : decode cX4_settle 47 = .ok (.invokevirtual 67, 3) := by decide +kernel
theorem dX4_settle_50 : decode cX4_settle 50 = .ok (.aload_n 0, 1) := by decide +kernel
theorem dX4_settle_51 : decode cX4_settle 51 = .ok (.invokevirtual 70, 3) := by decide +kernel
theorem dX4_settle_54 : decode cX4_settle 54 = .ok (.aload_n 0, 1) := by decide +kernel
theorem dX4_settle_55 : decode cX4_settle 55 = .ok (.iconst 1, 1) := by decide +kernel
theorem dX4_settle_56 : decode cX4_settle 56 = .ok (.putfield 56, 3) := by decide +kernel
theorem dX4_settle_59 : decode cX4_settle 59 = .ok (.return_, 1) := by decide +kernel
theorem dX4_look_0 : decode cX4_look 0 = .ok (.aload_n 0, 1) := by decide +kernel
theorem dX4_look_1 : decode cX4_look 1 = .ok (.getfield 15, 3) := by decide +kernel
theorem dX4_look_4 : decode cX4_look 4 = .ok (.iload_n 1, 1) := by decide +kernel
theorem dX4_look_5 : decode cX4_look 5 = .ok (.invokevirtual 73, 3) := by decide +kernel
theorem dX4_look_8 : decode cX4_look 8 = .ok (.ifCond .eq 7, 3) := by decide +kernel
theorem dX4_look_11 : decode cX4_look 11 = .ok (.iconst 0, 1) := by decide +kernel
theorem dX4_look_12 : decode cX4_look 12 = .ok (.goto 11, 3) := by decide +kernel
theorem dX4_look_15 : decode cX4_look 15 = .ok (.aload_n 0, 1) := by decide +kernel
theorem dX4_look_16 : decode cX4_look 16 = .ok (.getfield 27, 3) := by decide +kernel
theorem dX4_look_19 : decode cX4_look 19 = .ok (.iload_n 1, 1) := by decide +kernel
theorem dX4_look_20 : decode cX4_look 20 = .ok (.iconst 1, 1) := by decide +kernel
theorem dX4_look_21 : decode cX4_look 21 = .ok (.isub, 1) := by decide +kernel
theorem dX4_look_22 : decode cX4_look 22 = .ok (.iaload, 1) := by decide +kernel
theorem dX4_look_23 : decode cX4_look 23 = .ok (.istore_n 2, 1) := by decide +kernel
theorem dX4_look_24 : decode cX4_look 24 = .ok (.aload_n 0, 1) := by decide +kernel
theorem dX4_look_25 : decode cX4_look 25 = .ok (.getfield 27, 3) := by decide +kernel
theorem dX4_look_28 : decode cX4_look 28 = .ok (.iload_n 1, 1) := by decide +kernel
theorem dX4_look_29 : decode cX4_look 29 = .ok (.iload_n 2, 1) := by decide +kernel
theorem dX4_look_30 : decode cX4_look 30 = .ok (.iconst 1, 1) := by decide +kernel
theorem dX4_look_31 : decode cX4_look 31 = .ok (.ishl, 1) := by decide +kernel
theorem dX4_look_32 : decode cX4_look 32 = .ok (.ldc 77, 2) := by decide +kernel
theorem dX4_look_34 : decode cX4_look 34 = .ok (.ior, 1) := by decide +kernel
theorem dX4_look_35 : decode cX4_look 35 = .ok (.aload_n 0, 1) := by decide +kernel
theorem dX4_look_36 : decode cX4_look 36 = .ok (.iload_n 1, 1) := by decide +kernel
theorem dX4_look_37 : decode cX4_look 37 = .ok (.invokevirtual 78, 3) := by decide +kernel
theorem dX4_look_40 : decode cX4_look 40 = .ok (.iand, 1) := by decide +kernel
theorem dX4_look_41 : decode cX4_look 41 = .ok (.iastore, 1) := by decide +kernel
theorem dX4_look_42 : decode cX4_look 42 = .ok (.aload_n 0, 1) := by decide +kernel
theorem dX4_look_43 : decode cX4_look 43 = .ok (.getfield 31, 3) := by decide +kernel
theorem dX4_look_46 : decode cX4_look 46 = .ok (.iload_n 1, 1) := by decide +kernel
theorem dX4_look_47 : decode cX4_look 47 = .ok (.iconst 0, 1) := by decide +kernel
theorem dX4_look_48 : decode cX4_look 48 = .ok (.iastore, 1) := by decide +kernel
theorem dX4_look_49 : decode cX4_look 49 = .ok (.iconst 0, 1) := by decide +kernel
theorem dX4_look_50 : decode cX4_look 50 = .ok (.istore_n 3, 1) := by decide +kernel
theorem dX4_look_51 : decode cX4_look 51 = .ok (.iload_n 3, 1) := by decide +kernel
theorem dX4_look_52 : decode cX4_look 52 = .ok (.aload_n 0, 1) := by decide +kernel
theorem dX4_look_53 : decode cX4_look 53 = .ok (.getfield 9, 3) := by decide +kernel
theorem dX4_look_56 : decode cX4_look 56 = .ok (.getfield 82, 3) := by decide +kernel
theorem dX4_look_59 : decode cX4_look 59 = .ok (.if_icmp .ge 57, 3) := by decide +kernel
theorem dX4_look_62 : decode cX4_look 62 = .ok (.aload_n 0, 1) := by decide +kernel
theorem dX4_look_63 : decode cX4_look 63 = .ok (.getfield 9, 3) := by decide +kernel
theorem dX4_look_66 : decode cX4_look 66 = .ok (.getfield 85, 3) := by decide +kernel
theorem dX4_look_69 : decode cX4_look 69 = .ok (.iload_n 3, 1) := by decide +kernel
theorem dX4_look_70 : decode cX4_look 70 = .ok (.iaload, 1) := by decide +kernel
theorem dX4_look_71 : decode cX4_look 71 = .ok (.istore 4, 2) := by decide +kernel
theorem dX4_look_73 : decode cX4_look 73 = .ok (.iload_n 1, 1) := by decide +kernel
theorem dX4_look_74 : decode cX4_look 74 = .ok (.iload 4, 2) := by decide +kernel
theorem dX4_look_76 : decode cX4_look 76 = .ok (.isub, 1) := by decide +kernel
theorem dX4_look_77 : decode cX4_look 77 = .ok (.iconst 1, 1) := by decide +kernel
theorem dX4_look_78 : decode cX4_look 78 = .ok (.iadd, 1) := by decide +kernel
theorem dX4_look_79 : decode cX4_look 79 = .ok (.istore 5, 2) := by decide +kernel
theorem dX4_look_81 : decode cX4_look 81 = .ok (.iload 5, 2) := by decide +kernel
theorem dX4_look_83 : decode cX4_look 83 = .ok (.ifCond .lt 27, 3) := by decide +kernel
theorem dX4_look_86 : decode cX4_look 86 = .ok (.aload_n 0, 1) := by decide +kernel
theorem dX4_look_87 : decode cX4_look 87 = .ok (.iload_n 1, 1) := by decide +kernel
theorem dX4_look_88 : decode cX4_look 88 = .ok (.iload_n 3, 1) := by decide +kernel
theorem dX4_look_89 : decode cX4_look 89 = .ok (.iload 4, 2) := by decide +kernel
theorem dX4_look_91 : decode cX4_look 91 = .ok (.invokevirtual 88, 3) := by decide +kernel
theorem dX4_look_94 : decode cX4_look 94 = .ok (.ifCond .eq 16, 3) := by decide +kernel
theorem dX4_look_97 : decode cX4_look 97 = .ok (.aload_n 0, 1) := by decide +kernel
theorem dX4_look_98 : decode cX4_look 98 = .ok (.getfield 31, 3) := by decide +kernel
theorem dX4_look_101 : decode cX4_look 101 = .ok (.iload 5, 2) := by decide +kernel
theorem dX4_look_103 : decode cX4_look 103 = .ok (.dup2, 1) := by decide +kernel
theorem dX4_look_104 : decode cX4_look 104 = .ok (.iaload, 1) := by decide +kernel
theorem dX4_look_105 : decode cX4_look 105 = .ok (.iconst 1, 1) := by decide +kernel
theorem dX4_look_106 : decode cX4_look 106 = .ok (.iload_n 3, 1) := by decide +kernel
theorem dX4_look_107 : decode cX4_look 107 = .ok (.ishl, 1) := by decide +kernel
theorem dX4_look_108 : decode cX4_look 108 = .ok (.ior, 1) := by decide +kernel
theorem dX4_look_109 : decode cX4_look 109 = .ok (.iastore, 1) := by decide +kernel
theorem dX4_look_110 : decode cX4_look 110 = .ok (.iinc 3 1, 3) := by decide +kernel
theorem dX4_look_113 : decode cX4_look 113 = .ok (.goto (-62), 3) := by decide +kernel
theorem dX4_look_116 : decode cX4_look 116 = .ok (.return_, 1) := by decide +kernel
theorem dX4_hasBegun_0 : decode cX4_hasBegun 0 = .ok (.aload_n 0, 1) := by decide +kernel
theorem dX4_hasBegun_1 : decode cX4_hasBegun 1 = .ok (.getfield 27, 3) := by decide +kernel
theorem dX4_hasBegun_4 : decode cX4_hasBegun 4 = .ok (.iload_n 1, 1) := by decide +kernel
theorem dX4_hasBegun_5 : decode cX4_hasBegun 5 = .ok (.iaload, 1) := by decide +kernel
theorem dX4_hasBegun_6 : decode cX4_hasBegun 6 = .ok (.iload_n 2, 1) := by decide +kernel
theorem dX4_hasBegun_7 : decode cX4_hasBegun 7 = .ok (.iconst 4, 1) := by decide +kernel
theorem dX4_hasBegun_8 : decode cX4_hasBegun 8 = .ok (.imul, 1) := by decide +kernel
theorem dX4_hasBegun_9 : decode cX4_hasBegun 9 = .ok (.iload_n 3, 1) := by decide +kernel
theorem dX4_hasBegun_10 : decode cX4_hasBegun 10 = .ok (.iadd, 1) := by decide +kernel
theorem dX4_hasBegun_11 : decode cX4_hasBegun 11 = .ok (.iconst 1, 1) := by decide +kernel
theorem dX4_hasBegun_12 : decode cX4_hasBegun 12 = .ok (.isub, 1) := by decide +kernel
theorem dX4_hasBegun_13 : decode cX4_hasBegun 13 = .ok (.iushr, 1) := by decide +kernel
theorem dX4_hasBegun_14 : decode cX4_hasBegun 14 = .ok (.iconst 1, 1) := by decide +kernel
theorem dX4_hasBegun_15 : decode cX4_hasBegun 15 = .ok (.iand, 1) := by decide +kernel
theorem dX4_hasBegun_16 : decode cX4_hasBegun 16 = .ok (.ifCond .eq 7, 3) := by decide +kernel
theorem dX4_hasBegun_19 : decode cX4_hasBegun 19 = .ok (.iconst 1, 1) := by decide +kernel
theorem dX4_hasBegun_20 : decode cX4_hasBegun 20 = .ok (.goto 4, 3) := by decide +kernel
theorem dX4_hasBegun_23 : decode cX4_hasBegun 23 = .ok (.iconst 0, 1) := by decide +kernel
theorem dX4_hasBegun_24 : decode cX4_hasBegun 24 = .ok (.ireturn, 1) := by decide +kernel
theorem dX4_meets_0 : decode cX4_meets 0 = .ok (.aload_n 0, 1) := by decide +kernel
theorem dX4_meets_1 : decode cX4_meets 1 = .ok (.getfield 15, 3) := by decide +kernel
theorem dX4_meets_4 : decode cX4_meets 4 = .ok (.getfield 92, 3) := by decide +kernel
theorem dX4_meets_7 : decode cX4_meets 7 = .ok (.iload_n 1, 1) := by decide +kernel
theorem dX4_meets_8 : decode cX4_meets 8 = .ok (.baload, 1) := by decide +kernel
theorem dX4_meets_9 : decode cX4_meets 9 = .ok (.ifCond .eq 5, 3) := by decide +kernel
theorem dX4_meets_12 : decode cX4_meets 12 = .ok (.iconst 0, 1) := by decide +kernel
theorem dX4_meets_13 : decode cX4_meets 13 = .ok (.ireturn, 1) := by decide +kernel
theorem dX4_meets_14 : decode cX4_meets 14 = .ok (.aload_n 0, 1) := by decide +kernel
theorem dX4_meets_15 : decode cX4_meets 15 = .ok (.aload_n 0, 1) := by decide +kernel
theorem dX4_meets_16 : decode cX4_meets 16 = .ok (.getfield 15, 3) := by decide +kernel
theorem dX4_meets_19 : decode cX4_meets 19 = .ok (.getfield 96, 3) := by decide +kernel
theorem dX4_meets_22 : decode cX4_meets 22 = .ok (.iload_n 1, 1) := by decide +kernel
theorem dX4_meets_23 : decode cX4_meets 23 = .ok (.laload, 1) := by decide +kernel
theorem dX4_meets_24 : decode cX4_meets 24 = .ok (.invokevirtual 99, 3) := by decide +kernel
theorem dX4_meets_27 : decode cX4_meets 27 = .ok (.iconst 0, 1) := by decide +kernel
theorem dX4_meets_28 : decode cX4_meets 28 = .ok (.istore_n 2, 1) := by decide +kernel
theorem dX4_meets_29 : decode cX4_meets 29 = .ok (.iconst 0, 1) := by decide +kernel
theorem dX4_meets_30 : decode cX4_meets 30 = .ok (.istore_n 3, 1) := by decide +kernel
theorem dX4_meets_31 : decode cX4_meets 31 = .ok (.iload_n 3, 1) := by decide +kernel
theorem dX4_meets_32 : decode cX4_meets 32 = .ok (.aload_n 0, 1) := by decide +kernel
theorem dX4_meets_33 : decode cX4_meets 33 = .ok (.getfield 9, 3) := by decide +kernel
theorem dX4_meets_36 : decode cX4_meets 36 = .ok (.getfield 82, 3) := by decide +kernel
theorem dX4_meets_39 : decode cX4_meets 39 = .ok (.if_icmp .ge 85, 3) := by decide +kernel
theorem dX4_meets_42 : decode cX4_meets 42 = .ok (.aload_n 0, 1) := by decide +kernel
theorem dX4_meets_43 : decode cX4_meets 43 = .ok (.getfield 9, 3) := by decide +kernel
theorem dX4_meets_46 : decode cX4_meets 46 = .ok (.getfield 103, 3) := by decide +kernel
theorem dX4_meets_49 : decode cX4_meets 49 = .ok (.iload_n 3, 1) := by decide +kernel
theorem dX4_meets_50 : decode cX4_meets 50 = .ok (.iaload, 1) := by decide +kernel
theorem dX4_meets_51 : decode cX4_meets 51 = .ok (.iconst 1, 1) := by decide +kernel
theorem dX4_meets_52 : decode cX4_meets 52 = .ok (.if_icmp .ne 10, 3) := by decide +kernel
theorem dX4_meets_55 : decode cX4_meets 55 = .ok (.aload_n 0, 1) := by decide +kernel
theorem dX4_meets_56 : decode cX4_meets 56 = .ok (.getfield 106, 3) := by decide +kernel
theorem dX4_meets_59 : decode cX4_meets 59 = .ok (.goto 4, 3) := by decide +kernel
theorem dX4_meets_62 : decode cX4_meets 62 = .ok (.iconst 1, 1) := by decide +kernel
theorem dX4_meets_63 : decode cX4_meets 63 = .ok (.istore 4, 2) := by decide +kernel
theorem dX4_meets_65 : decode cX4_meets 65 = .ok (.iconst 0, 1) := by decide +kernel
theorem dX4_meets_66 : decode cX4_meets 66 = .ok (.istore 5, 2) := by decide +kernel
theorem dX4_meets_68 : decode cX4_meets 68 = .ok (.iload 5, 2) := by decide +kernel
theorem dX4_meets_70 : decode cX4_meets 70 = .ok (.aload_n 0, 1) := by decide +kernel
theorem dX4_meets_71 : decode cX4_meets 71 = .ok (.getfield 9, 3) := by decide +kernel
theorem dX4_meets_74 : decode cX4_meets 74 = .ok (.getfield 85, 3) := by decide +kernel
theorem dX4_meets_77 : decode cX4_meets 77 = .ok (.iload_n 3, 1) := by decide +kernel
theorem dX4_meets_78 : decode cX4_meets 78 = .ok (.iaload, 1) := by decide +kernel
theorem dX4_meets_79 : decode cX4_meets 79 = .ok (.if_icmp .ge 39, 3) := by decide +kernel
theorem dX4_meets_82 : decode cX4_meets 82 = .ok (.aload_n 0, 1) := by decide +kernel
theorem dX4_meets_83 : decode cX4_meets 83 = .ok (.aload_n 0, 1) := by decide +kernel
theorem dX4_meets_84 : decode cX4_meets 84 = .ok (.getfield 9, 3) := by decide +kernel
theorem dX4_meets_87 : decode cX4_meets 87 = .ok (.iload_n 3, 1) := by decide +kernel
theorem dX4_meets_88 : decode cX4_meets 88 = .ok (.iload 5, 2) := by decide +kernel
theorem dX4_meets_90 : decode cX4_meets 90 = .ok (.invokevirtual 109, 3) := by decide +kernel
theorem dX4_meets_93 : decode cX4_meets 93 = .ok (.iload 4, 2) := by decide +kernel
theorem dX4_meets_95 : decode cX4_meets 95 = .ok (.invokevirtual 113, 3) := by decide +kernel
theorem dX4_meets_98 : decode cX4_meets 98 = .ok (.ifCond .eq 14, 3) := by decide +kernel
theorem dX4_meets_101 : decode cX4_meets 101 = .ok (.iload_n 2, 1) := by decide +kernel
theorem dX4_meets_102 : decode cX4_meets 102 = .ok (.iconst 1, 1) := by decide +kernel
theorem dX4_meets_103 : decode cX4_meets 103 = .ok (.iload_n 3, 1) := by decide +kernel
theorem dX4_meets_104 : decode cX4_meets 104 = .ok (.iconst 4, 1) := by decide +kernel
theorem dX4_meets_105 : decode cX4_meets 105 = .ok (.imul, 1) := by decide +kernel
theorem dX4_meets_106 : decode cX4_meets 106 = .ok (.iload 5, 2) := by decide +kernel
theorem dX4_meets_108 : decode cX4_meets 108 = .ok (.iadd, 1) := by decide +kernel
theorem dX4_meets_109 : decode cX4_meets 109 = .ok (.ishl, 1) := by decide +kernel
theorem dX4_meets_110 : decode cX4_meets 110 = .ok (.ior, 1) := by decide +kernel
theorem dX4_meets_111 : decode cX4_meets 111 = .ok (.istore_n 2, 1) := by decide +kernel
theorem dX4_meets_112 : decode cX4_meets 112 = .ok (.iinc 5 1, 3) := by decide +kernel
theorem dX4_meets_115 : decode cX4_meets 115 = .ok (.goto (-47), 3) := by decide +kernel
theorem dX4_meets_118 : decode cX4_meets 118 = .ok (.iinc 3 1, 3) := by decide +kernel
theorem dX4_meets_121 : decode cX4_meets 121 = .ok (.goto (-90), 3) := by decide +kernel
theorem dX4_meets_124 : decode cX4_meets 124 = .ok (.iload_n 2, 1) := by decide +kernel
theorem dX4_meets_125 : decode cX4_meets 125 = .ok (.ireturn, 1) := by decide +kernel
theorem dX4_makeForms_0 : decode cX4_makeForms 0 = .ok (.lload_n 1, 1) := by decide +kernel
theorem dX4_makeForms_1 : decode cX4_makeForms 1 = .ok (.invokestatic 117, 3) := by decide +kernel
theorem dX4_makeForms_4 : decode cX4_makeForms 4 = .ok (.istore_n 3, 1) := by decide +kernel
theorem dX4_makeForms_5 : decode cX4_makeForms 5 = .ok (.aload_n 0, 1) := by decide +kernel
theorem dX4_makeForms_6 : decode cX4_makeForms 6 = .ok (.getfield 21, 3) := by decide +kernel
theorem dX4_makeForms_9 : decode cX4_makeForms 9 = .ok (.iconst 0, 1) := by decide +kernel
theorem dX4_makeForms_10 : decode cX4_makeForms 10 = .ok (.lload_n 1, 1) := by decide +kernel
theorem dX4_makeForms_11 : decode cX4_makeForms 11 = .ok (.lastore, 1) := by decide +kernel
theorem dX4_makeForms_12 : decode cX4_makeForms 12 = .ok (.aload_n 0, 1) := by decide +kernel
theorem dX4_makeForms_13 : decode cX4_makeForms 13 = .ok (.iconst 1, 1) := by decide +kernel
theorem dX4_makeForms_14 : decode cX4_makeForms 14 = .ok (.putfield 106, 3) := by decide +kernel
theorem dX4_makeForms_17 : decode cX4_makeForms 17 = .ok (.iconst 0, 1) := by decide +kernel
theorem dX4_makeForms_18 : decode cX4_makeForms 18 = .ok (.istore 4, 2) := by decide +kernel
theorem dX4_makeForms_20 : decode cX4_makeForms 20 = .ok (.iload 4, 2) := by decide +kernel
theorem dX4_makeForms_22 : decode cX4_makeForms 22 = .ok (.aload_n 0, 1) := by decide +kernel
theorem dX4_makeForms_23 : decode cX4_makeForms 23 = .ok (.getfield 9, 3) := by decide +kernel
theorem dX4_makeForms_26 : decode cX4_makeForms 26 = .ok (.getfield 123, 3) := by decide +kernel
theorem dX4_makeForms_29 : decode cX4_makeForms 29 = .ok (.if_icmp .ge 76, 3) := by decide +kernel
theorem dX4_makeForms_32 : decode cX4_makeForms 32 = .ok (.aload_n 0, 1) := by decide +kernel
theorem dX4_makeForms_33 : decode cX4_makeForms 33 = .ok (.getfield 106, 3) := by decide +kernel
theorem dX4_makeForms_36 : decode cX4_makeForms 36 = .ok (.aload_n 0, 1) := by decide +kernel
theorem dX4_makeForms_37 : decode cX4_makeForms 37 = .ok (.getfield 21, 3) := by decide +kernel
theorem dX4_makeForms_40 : decode cX4_makeForms 40 = .ok (.arraylength, 1) := by decide +kernel
theorem dX4_makeForms_41 : decode cX4_makeForms 41 = .ok (.if_icmp .ge 64, 3) := by decide +kernel
theorem dX4_makeForms_44 : decode cX4_makeForms 44 = .ok (.aload_n 0, 1) := by decide +kernel
theorem dX4_makeForms_45 : decode cX4_makeForms 45 = .ok (.getfield 9, 3) := by decide +kernel
theorem dX4_makeForms_48 : decode cX4_makeForms 48 = .ok (.getfield 126, 3) := by decide +kernel
theorem dX4_makeForms_51 : decode cX4_makeForms 51 = .ok (.iload 4, 2) := by decide +kernel
theorem dX4_makeForms_53 : decode cX4_makeForms 53 = .ok (.laload, 1) := by decide +kernel
theorem dX4_makeForms_54 : decode cX4_makeForms 54 = .ok (.lstore 5, 2) := by decide +kernel
theorem dX4_makeForms_56 : decode cX4_makeForms 56 = .ok (.lload_n 1, 1) := by decide +kernel
theorem dX4_makeForms_57 : decode cX4_makeForms 57 = .ok (.lload 5, 2) := by decide +kernel
theorem dX4_makeForms_59 : decode cX4_makeForms 59 = .ok (.iload_n 3, 1) := by decide +kernel
theorem dX4_makeForms_60 : decode cX4_makeForms 60 = .ok (.lload 5, 2) := by decide +kernel
theorem dX4_makeForms_62 : decode cX4_makeForms 62 = .ok (.invokestatic 117, 3) := by decide +kernel
theorem dX4_makeForms_65 : decode cX4_makeForms 65 = .ok (.isub, 1) := by decide +kernel
theorem dX4_makeForms_66 : decode cX4_makeForms 66 = .ok (.invokestatic 129, 3) := by decide +kernel
theorem dX4_makeForms_69 : decode cX4_makeForms 69 = .ok (.lstore 7, 2) := by decide +kernel
theorem dX4_makeForms_71 : decode cX4_makeForms 71 = .ok (.lload 7, 2) := by decide +kernel
theorem dX4_makeForms_73 : decode cX4_makeForms 73 = .ok (.lconst 0, 1) := by decide +kernel
theorem dX4_makeForms_74 : decode cX4_makeForms 74 = .ok (.lcmp, 1) := by decide +kernel
theorem dX4_makeForms_75 : decode cX4_makeForms 75 = .ok (.ifCond .eq 24, 3) := by decide +kernel
theorem dX4_makeForms_78 : decode cX4_makeForms 78 = .ok (.aload_n 0, 1) := by decide +kernel
theorem dX4_makeForms_79 : decode cX4_makeForms 79 = .ok (.getfield 21, 3) := by decide +kernel
theorem dX4_makeForms_82 : decode cX4_makeForms 82 = .ok (.aload_n 0, 1) := by decide +kernel
theorem dX4_makeForms_83 : decode cX4_makeForms 83 = .ok (.getfield 106, 3) := by decide +kernel
theorem dX4_makeForms_86 : decode cX4_makeForms 86 = .ok (.lload 7, 2) := by decide +kernel
theorem dX4_makeForms_88 : decode cX4_makeForms 88 = .ok (.lastore, 1) := by decide +kernel
theorem dX4_makeForms_89 : decode cX4_makeForms 89 = .ok (.aload_n 0, 1) := by decide +kernel
theorem dX4_makeForms_90 : decode cX4_makeForms 90 = .ok (.dup, 1) := by decide +kernel
theorem dX4_makeForms_91 : decode cX4_makeForms 91 = .ok (.getfield 106, 3) := by decide +kernel
theorem dX4_makeForms_94 : decode cX4_makeForms 94 = .ok (.iconst 1, 1) := by decide +kernel
theorem dX4_makeForms_95 : decode cX4_makeForms 95 = .ok (.iadd, 1) := by decide +kernel
theorem dX4_makeForms_96 : decode cX4_makeForms 96 = .ok (.putfield 106, 3) := by decide +kernel
theorem dX4_makeForms_99 : decode cX4_makeForms 99 = .ok (.iinc 4 1, 3) := by decide +kernel
theorem dX4_makeForms_102 : decode cX4_makeForms 102 = .ok (.goto (-82), 3) := by decide +kernel
theorem dX4_makeForms_105 : decode cX4_makeForms 105 = .ok (.return_, 1) := by decide +kernel
theorem dX4_isForm_0 : decode cX4_isForm 0 = .ok (.iconst 0, 1) := by decide +kernel
theorem dX4_isForm_1 : decode cX4_isForm 1 = .ok (.istore 4, 2) := by decide +kernel
theorem dX4_isForm_3 : decode cX4_isForm 3 = .ok (.iload 4, 2) := by decide +kernel
theorem dX4_isForm_5 : decode cX4_isForm 5 = .ok (.iload_n 3, 1) := by decide +kernel
theorem dX4_isForm_6 : decode cX4_isForm 6 = .ok (.if_icmp .ge 33, 3) := by decide +kernel
theorem dX4_isForm_9 : decode cX4_isForm 9 = .ok (.iload 4, 2) := by decide +kernel
theorem dX4_isForm_11 : decode cX4_isForm 11 = .ok (.aload_n 0, 1) := by decide +kernel
theorem dX4_isForm_12 : decode cX4_isForm 12 = .ok (.getfield 21, 3) := by decide +kernel
theorem dX4_isForm_15 : decode cX4_isForm 15 = .ok (.arraylength, 1) := by decide +kernel
theorem dX4_isForm_16 : decode cX4_isForm 16 = .ok (.if_icmp .ge 23, 3) := by decide +kernel
theorem dX4_isForm_19 : decode cX4_isForm 19 = .ok (.aload_n 0, 1) := by decide +kernel
theorem dX4_isForm_20 : decode cX4_isForm 20 = .ok (.getfield 21, 3) := by decide +kernel
theorem dX4_isForm_23 : decode cX4_isForm 23 = .ok (.iload 4, 2) := by decide +kernel
theorem dX4_isForm_25 : decode cX4_isForm 25 = .ok (.laload, 1) := by decide +kernel
theorem dX4_isForm_26 : decode cX4_isForm 26 = .ok (.lload_n 1, 1) := by decide +kernel
theorem dX4_isForm_27 : decode cX4_isForm 27 = .ok (.lcmp, 1) := by decide +kernel
theorem dX4_isForm_28 : decode cX4_isForm 28 = .ok (.ifCond .ne 5, 3) := by decide +kernel
theorem dX4_isForm_31 : decode cX4_isForm 31 = .ok (.iconst 1, 1) := by decide +kernel
theorem dX4_isForm_32 : decode cX4_isForm 32 = .ok (.ireturn, 1) := by decide +kernel
theorem dX4_isForm_33 : decode cX4_isForm 33 = .ok (.iinc 4 1, 3) := by decide +kernel
theorem dX4_isForm_36 : decode cX4_isForm 36 = .ok (.goto (-33), 3) := by decide +kernel
theorem dX4_isForm_39 : decode cX4_isForm 39 = .ok (.iconst 0, 1) := by decide +kernel
theorem dX4_isForm_40 : decode cX4_isForm 40 = .ok (.ireturn, 1) := by decide +kernel
theorem dX4_weigh_0 : decode cX4_weigh 0 = .ok (.aload_n 0, 1) := by decide +kernel
theorem dX4_weigh_1 : decode cX4_weigh 1 = .ok (.getfield 34, 3) := by decide +kernel
theorem dX4_weigh_4 : decode cX4_weigh 4 = .ok (.aload_n 0, 1) := by decide +kernel
theorem dX4_weigh_5 : decode cX4_weigh 5 = .ok (.getfield 15, 3) := by decide +kernel
theorem dX4_weigh_8 : decode cX4_weigh 8 = .ok (.getfield 60, 3) := by decide +kernel
theorem dX4_weigh_11 : decode cX4_weigh 11 = .ok (.iconst 0, 1) := by decide +kernel
theorem dX4_weigh_12 : decode cX4_weigh 12 = .ok (.iastore, 1) := by decide +kernel
theorem dX4_weigh_13 : decode cX4_weigh 13 = .ok (.aload_n 0, 1) := by decide +kernel
theorem dX4_weigh_14 : decode cX4_weigh 14 = .ok (.getfield 37, 3) := by decide +kernel
theorem dX4_weigh_17 : decode cX4_weigh 17 = .ok (.aload_n 0, 1) := by decide +kernel
theorem dX4_weigh_18 : decode cX4_weigh 18 = .ok (.getfield 15, 3) := by decide +kernel
theorem dX4_weigh_21 : decode cX4_weigh 21 = .ok (.getfield 60, 3) := by decide +kernel
theorem dX4_weigh_24 : decode cX4_weigh 24 = .ok (.iconst 0, 1) := by decide +kernel
theorem dX4_weigh_25 : decode cX4_weigh 25 = .ok (.iastore, 1) := by decide +kernel
theorem dX4_weigh_26 : decode cX4_weigh 26 = .ok (.aload_n 0, 1) := by decide +kernel
theorem dX4_weigh_27 : decode cX4_weigh 27 = .ok (.getfield 15, 3) := by decide +kernel
theorem dX4_weigh_30 : decode cX4_weigh 30 = .ok (.getfield 60, 3) := by decide +kernel
theorem dX4_weigh_33 : decode cX4_weigh 33 = .ok (.iconst 1, 1) := by decide +kernel
theorem dX4_weigh_34 : decode cX4_weigh 34 = .ok (.isub, 1) := by decide +kernel
theorem dX4_weigh_35 : decode cX4_weigh 35 = .ok (.istore_n 1, 1) := by decide +kernel
theorem dX4_weigh_36 : decode cX4_weigh 36 = .ok (.iload_n 1, 1) := by decide +kernel
theorem dX4_weigh_37 : decode cX4_weigh 37 = .ok (.ifCond .lt 14, 3) := by decide +kernel
theorem dX4_weigh_40 : decode cX4_weigh 40 = .ok (.aload_n 0, 1) := by decide +kernel
theorem dX4_weigh_41 : decode cX4_weigh 41 = .ok (.iload_n 1, 1) := by decide +kernel
theorem dX4_weigh_42 : decode cX4_weigh 42 = .ok (.invokevirtual 133, 3) := by decide +kernel
theorem dX4_weigh_45 : decode cX4_weigh 45 = .ok (.iinc 1 (-1), 3) := by decide +kernel
theorem dX4_weigh_48 : decode cX4_weigh 48 = .ok (.goto (-12), 3) := by decide +kernel
theorem dX4_weigh_51 : decode cX4_weigh 51 = .ok (.return_, 1) := by decide +kernel
theorem dX4_weighFrom_0 : decode cX4_weighFrom 0 = .ok (.aload_n 0, 1) := by decide +kernel
theorem dX4_weighFrom_1 : decode cX4_weighFrom 1 = .ok (.getfield 40, 3) := by decide +kernel
theorem dX4_weighFrom_4 : decode cX4_weighFrom 4 = .ok (.iload_n 1, 1) := by decide +kernel
theorem dX4_weighFrom_5 : decode cX4_weighFrom 5 = .ok (.iconst (-1), 1) := by decide +kernel
theorem dX4_weighFrom_6 : decode cX4_weighFrom 6 = .ok (.iastore, 1) := by decide +kernel
theorem dX4_weighFrom_7 : decode cX4_weighFrom 7 = .ok (.aload_n 0, 1) := by decide +kernel
theorem dX4_weighFrom_8 : decode cX4_weighFrom 8 = .ok (.getfield 34, 3) := by decide +kernel
theorem dX4_weighFrom_11 : decode cX4_weighFrom 11 = .ok (.iload_n 1, 1) := by decide +kernel
theorem dX4_weighFrom_12 : decode cX4_weighFrom 12 = .ok (.aload_n 0, 1) := by decide +kernel
theorem dX4_weighFrom_13 : decode cX4_weighFrom 13 = .ok (.getfield 34, 3) := by decide +kernel
theorem dX4_weighFrom_16 : decode cX4_weighFrom 16 = .ok (.iload_n 1, 1) := by decide +kernel
theorem dX4_weighFrom_17 : decode cX4_weighFrom 17 = .ok (.iconst 1, 1) := by decide +kernel
theorem dX4_weighFrom_18 : decode cX4_weighFrom 18 = .ok (.iadd, 1) := by decide +kernel
theorem dX4_weighFrom_19 : decode cX4_weighFrom 19 = .ok (.iaload, 1) := by decide +kernel
theorem dX4_weighFrom_20 : decode cX4_weighFrom 20 = .ok (.iastore, 1) := by decide +kernel
theorem dX4_weighFrom_21 : decode cX4_weighFrom 21 = .ok (.aload_n 0, 1) := by decide +kernel
theorem dX4_weighFrom_22 : decode cX4_weighFrom 22 = .ok (.getfield 37, 3) := by decide +kernel
theorem dX4_weighFrom_25 : decode cX4_weighFrom 25 = .ok (.iload_n 1, 1) := by decide +kernel
theorem dX4_weighFrom_26 : decode cX4_weighFrom 26 = .ok (.aload_n 0, 1) := by decide +kernel
theorem dX4_weighFrom_27 : decode cX4_weighFrom 27 = .ok (.getfield 37, 3) := by decide +kernel
theorem dX4_weighFrom_30 : decode cX4_weighFrom 30 = .ok (.iload_n 1, 1) := by decide +kernel
theorem dX4_weighFrom_31 : decode cX4_weighFrom 31 = .ok (.iconst 1, 1) := by decide +kernel
theorem dX4_weighFrom_32 : decode cX4_weighFrom 32 = .ok (.iadd, 1) := by decide +kernel
theorem dX4_weighFrom_33 : decode cX4_weighFrom 33 = .ok (.iaload, 1) := by decide +kernel
theorem dX4_weighFrom_34 : decode cX4_weighFrom 34 = .ok (.iastore, 1) := by decide +kernel
theorem dX4_weighFrom_35 : decode cX4_weighFrom 35 = .ok (.iconst 0, 1) := by decide +kernel
theorem dX4_weighFrom_36 : decode cX4_weighFrom 36 = .ok (.istore_n 2, 1) := by decide +kernel
theorem dX4_weighFrom_37 : decode cX4_weighFrom 37 = .ok (.iload_n 2, 1) := by decide +kernel
theorem dX4_weighFrom_38 : decode cX4_weighFrom 38 = .ok (.aload_n 0, 1) := by decide +kernel
theorem dX4_weighFrom_39 : decode cX4_weighFrom 39 = .ok (.getfield 9, 3) := by decide +kernel
theorem dX4_weighFrom_42 : decode cX4_weighFrom 42 = .ok (.getfield 82, 3) := by decide +kernel
theorem dX4_weighFrom_45 : decode cX4_weighFrom 45 = .ok (.if_icmp .ge 104, 3) := by decide +kernel
theorem dX4_weighFrom_48 : decode cX4_weighFrom 48 = .ok (.iload_n 1, 1) := by decide +kernel
theorem dX4_weighFrom_49 : decode cX4_weighFrom 49 = .ok (.aload_n 0, 1) := by decide +kernel
theorem dX4_weighFrom_50 : decode cX4_weighFrom 50 = .ok (.getfield 9, 3) := by decide +kernel
theorem dX4_weighFrom_53 : decode cX4_weighFrom 53 = .ok (.getfield 85, 3) := by decide +kernel
theorem dX4_weighFrom_56 : decode cX4_weighFrom 56 = .ok (.iload_n 2, 1) := by decide +kernel
theorem dX4_weighFrom_57 : decode cX4_weighFrom 57 = .ok (.iaload, 1) := by decide +kernel
theorem dX4_weighFrom_58 : decode cX4_weighFrom 58 = .ok (.iadd, 1) := by decide +kernel
theorem dX4_weighFrom_59 : decode cX4_weighFrom 59 = .ok (.istore_n 3, 1) := by decide +kernel
theorem dX4_weighFrom_60 : decode cX4_weighFrom 60 = .ok (.aload_n 0, 1) := by decide +kernel
theorem dX4_weighFrom_61 : decode cX4_weighFrom 61 = .ok (.iload_n 1, 1) := by decide +kernel
theorem dX4_weighFrom_62 : decode cX4_weighFrom 62 = .ok (.iload_n 2, 1) := by decide +kernel
theorem dX4_weighFrom_63 : decode cX4_weighFrom 63 = .ok (.invokevirtual 136, 3) := by decide +kernel
theorem dX4_weighFrom_66 : decode cX4_weighFrom 66 = .ok (.ifCond .eq 77, 3) := by decide +kernel
theorem dX4_weighFrom_69 : decode cX4_weighFrom 69 = .ok (.iload_n 3, 1) := by decide +kernel
theorem dX4_weighFrom_70 : decode cX4_weighFrom 70 = .ok (.aload_n 0, 1) := by decide +kernel
theorem dX4_weighFrom_71 : decode cX4_weighFrom 71 = .ok (.getfield 15, 3) := by decide +kernel
theorem dX4_weighFrom_74 : decode cX4_weighFrom 74 = .ok (.getfield 60, 3) := by decide +kernel
theorem dX4_weighFrom_77 : decode cX4_weighFrom 77 = .ok (.if_icmp .gt 66, 3) := by decide +kernel
theorem dX4_weighFrom_80 : decode cX4_weighFrom 80 = .ok (.aload_n 0, 1) := by decide +kernel
theorem dX4_weighFrom_81 : decode cX4_weighFrom 81 = .ok (.getfield 9, 3) := by decide +kernel
theorem dX4_weighFrom_84 : decode cX4_weighFrom 84 = .ok (.iload_n 2, 1) := by decide +kernel
theorem dX4_weighFrom_85 : decode cX4_weighFrom 85 = .ok (.invokevirtual 140, 3) := by decide +kernel
theorem dX4_weighFrom_88 : decode cX4_weighFrom 88 = .ok (.aload_n 0, 1) := by decide +kernel
theorem dX4_weighFrom_89 : decode cX4_weighFrom 89 = .ok (.getfield 34, 3) := by decide +kernel
theorem dX4_weighFrom_92 : decode cX4_weighFrom 92 = .ok (.iload_n 3, 1) := by decide +kernel
theorem dX4_weighFrom_93 : decode cX4_weighFrom 93 = .ok (.iaload, 1) := by decide +kernel
theorem dX4_weighFrom_94 : decode cX4_weighFrom 94 = .ok (.iadd, 1) := by decide +kernel
theorem dX4_weighFrom_95 : decode cX4_weighFrom 95 = .ok (.istore 4, 2) := by decide +kernel
theorem dX4_weighFrom_97 : decode cX4_weighFrom 97 = .ok (.iconst 1, 1) := by decide +kernel
theorem dX4_weighFrom_98 : decode cX4_weighFrom 98 = .ok (.aload_n 0, 1) := by decide +kernel
theorem dX4_weighFrom_99 : decode cX4_weighFrom 99 = .ok (.getfield 37, 3) := by decide +kernel
theorem dX4_weighFrom_102 : decode cX4_weighFrom 102 = .ok (.iload_n 3, 1) := by decide +kernel
theorem dX4_weighFrom_103 : decode cX4_weighFrom 103 = .ok (.iaload, 1) := by decide +kernel
theorem dX4_weighFrom_104 : decode cX4_weighFrom 104 = .ok (.iadd, 1) := by decide +kernel
theorem dX4_weighFrom_105 : decode cX4_weighFrom 105 = .ok (.istore 5, 2) := by decide +kernel
theorem dX4_weighFrom_107 : decode cX4_weighFrom 107 = .ok (.aload_n 0, 1) := by decide +kernel
theorem dX4_weighFrom_108 : decode cX4_weighFrom 108 = .ok (.iload_n 1, 1) := by decide +kernel
theorem dX4_weighFrom_109 : decode cX4_weighFrom 109 = .ok (.iload_n 2, 1) := by decide +kernel
theorem dX4_weighFrom_110 : decode cX4_weighFrom 110 = .ok (.iload 4, 2) := by decide +kernel
theorem dX4_weighFrom_112 : decode cX4_weighFrom 112 = .ok (.iload 5, 2) := by decide +kernel
theorem dX4_weighFrom_114 : decode cX4_weighFrom 114 = .ok (.invokevirtual 143, 3) := by decide +kernel
theorem dX4_weighFrom_117 : decode cX4_weighFrom 117 = .ok (.ifCond .eq 26, 3) := by decide +kernel
theorem dX4_weighFrom_120 : decode cX4_weighFrom 120 = .ok (.aload_n 0, 1) := by decide +kernel
theorem dX4_weighFrom_121 : decode cX4_weighFrom 121 = .ok (.getfield 40, 3) := by decide +kernel
theorem dX4_weighFrom_124 : decode cX4_weighFrom 124 = .ok (.iload_n 1, 1) := by decide +kernel
theorem dX4_weighFrom_125 : decode cX4_weighFrom 125 = .ok (.iload_n 2, 1) := by decide +kernel
theorem dX4_weighFrom_126 : decode cX4_weighFrom 126 = .ok (.iastore, 1) := by decide +kernel
theorem dX4_weighFrom_127 : decode cX4_weighFrom 127 = .ok (.aload_n 0, 1) := by decide +kernel
theorem dX4_weighFrom_128 : decode cX4_weighFrom 128 = .ok (.getfield 34, 3) := by decide +kernel
theorem dX4_weighFrom_131 : decode cX4_weighFrom 131 = .ok (.iload_n 1, 1) := by decide +kernel
theorem dX4_weighFrom_132 : decode cX4_weighFrom 132 = .ok (.iload 4, 2) := by decide +kernel
theorem dX4_weighFrom_134 : decode cX4_weighFrom 134 = .ok (.iastore, 1) := by decide +kernel
theorem dX4_weighFrom_135 : decode cX4_weighFrom 135 = .ok (.aload_n 0, 1) := by decide +kernel
theorem dX4_weighFrom_136 : decode cX4_weighFrom 136 = .ok (.getfield 37, 3) := by decide +kernel
theorem dX4_weighFrom_139 : decode cX4_weighFrom 139 = .ok (.iload_n 1, 1) := by decide +kernel
theorem dX4_weighFrom_140 : decode cX4_weighFrom 140 = .ok (.iload 5, 2) := by decide +kernel
theorem dX4_weighFrom_142 : decode cX4_weighFrom 142 = .ok (.iastore, 1) := by decide +kernel
theorem dX4_weighFrom_143 : decode cX4_weighFrom 143 = .ok (.iinc 2 1, 3) := by decide +kernel
theorem dX4_weighFrom_146 : decode cX4_weighFrom 146 = .ok (.goto (-109), 3) := by decide +kernel
theorem dX4_weighFrom_149 : decode cX4_weighFrom 149 = .ok (.return_, 1) := by decide +kernel
theorem dX4_isBetter_0 : decode cX4_isBetter 0 = .ok (.iload_n 3, 1) := by decide +kernel
theorem dX4_isBetter_1 : decode cX4_isBetter 1 = .ok (.aload_n 0, 1) := by decide +kernel
theorem dX4_isBetter_2 : decode cX4_isBetter 2 = .ok (.getfield 34, 3) := by decide +kernel
theorem dX4_isBetter_5 : decode cX4_isBetter 5 = .ok (.iload_n 1, 1) := by decide +kernel
theorem dX4_isBetter_6 : decode cX4_isBetter 6 = .ok (.iaload, 1) := by decide +kernel
theorem dX4_isBetter_7 : decode cX4_isBetter 7 = .ok (.if_icmp .eq 19, 3) := by decide +kernel
theorem dX4_isBetter_10 : decode cX4_isBetter 10 = .ok (.iload_n 3, 1) := by decide +kernel
theorem dX4_isBetter_11 : decode cX4_isBetter 11 = .ok (.aload_n 0, 1) := by decide +kernel
theorem dX4_isBetter_12 : decode cX4_isBetter 12 = .ok (.getfield 34, 3) := by decide +kernel
theorem dX4_isBetter_15 : decode cX4_isBetter 15 = .ok (.iload_n 1, 1) := by decide +kernel
theorem dX4_isBetter_16 : decode cX4_isBetter 16 = .ok (.iaload, 1) := by decide +kernel
theorem dX4_isBetter_17 : decode cX4_isBetter 17 = .ok (.if_icmp .le 7, 3) := by decide +kernel
theorem dX4_isBetter_20 : decode cX4_isBetter 20 = .ok (.iconst 1, 1) := by decide +kernel
theorem dX4_isBetter_21 : decode cX4_isBetter 21 = .ok (.goto 4, 3) := by decide +kernel
theorem dX4_isBetter_24 : decode cX4_isBetter 24 = .ok (.iconst 0, 1) := by decide +kernel
theorem dX4_isBetter_25 : decode cX4_isBetter 25 = .ok (.ireturn, 1) := by decide +kernel
theorem dX4_isBetter_26 : decode cX4_isBetter 26 = .ok (.iload 4, 2) := by decide +kernel
theorem dX4_isBetter_28 : decode cX4_isBetter 28 = .ok (.aload_n 0, 1) := by decide +kernel
theorem dX4_isBetter_29 : decode cX4_isBetter 29 = .ok (.getfield 37, 3) := by decide +kernel
theorem dX4_isBetter_32 : decode cX4_isBetter 32 = .ok (.iload_n 1, 1) := by decide +kernel
theorem dX4_isBetter_33 : decode cX4_isBetter 33 = .ok (.iaload, 1) := by decide +kernel
theorem dX4_isBetter_34 : decode cX4_isBetter 34 = .ok (.if_icmp .eq 20, 3) := by decide +kernel
theorem dX4_isBetter_37 : decode cX4_isBetter 37 = .ok (.iload 4, 2) := by decide +kernel
theorem dX4_isBetter_39 : decode cX4_isBetter 39 = .ok (.aload_n 0, 1) := by decide +kernel
theorem dX4_isBetter_40 : decode cX4_isBetter 40 = .ok (.getfield 37, 3) := by decide +kernel
theorem dX4_isBetter_43 : decode cX4_isBetter 43 = .ok (.iload_n 1, 1) := by decide +kernel
theorem dX4_isBetter_44 : decode cX4_isBetter 44 = .ok (.iaload, 1) := by decide +kernel
theorem dX4_isBetter_45 : decode cX4_isBetter 45 = .ok (.if_icmp .ge 7, 3) := by decide +kernel
theorem dX4_isBetter_48 : decode cX4_isBetter 48 = .ok (.iconst 1, 1) := by decide +kernel
theorem dX4_isBetter_49 : decode cX4_isBetter 49 = .ok (.goto 4, 3) := by decide +kernel
theorem dX4_isBetter_52 : decode cX4_isBetter 52 = .ok (.iconst 0, 1) := by decide +kernel
theorem dX4_isBetter_53 : decode cX4_isBetter 53 = .ok (.ireturn, 1) := by decide +kernel
theorem dX4_isBetter_54 : decode cX4_isBetter 54 = .ok (.aload_n 0, 1) := by decide +kernel
theorem dX4_isBetter_55 : decode cX4_isBetter 55 = .ok (.getfield 40, 3) := by decide +kernel
theorem dX4_isBetter_58 : decode cX4_isBetter 58 = .ok (.iload_n 1, 1) := by decide +kernel
theorem dX4_isBetter_59 : decode cX4_isBetter 59 = .ok (.iaload, 1) := by decide +kernel
theorem dX4_isBetter_60 : decode cX4_isBetter 60 = .ok (.iconst (-1), 1) := by decide +kernel
theorem dX4_isBetter_61 : decode cX4_isBetter 61 = .ok (.if_icmp .eq 29, 3) := by decide +kernel
theorem dX4_isBetter_64 : decode cX4_isBetter 64 = .ok (.aload_n 0, 1) := by decide +kernel
theorem dX4_isBetter_65 : decode cX4_isBetter 65 = .ok (.getfield 9, 3) := by decide +kernel
theorem dX4_isBetter_68 : decode cX4_isBetter 68 = .ok (.getfield 85, 3) := by decide +kernel
theorem dX4_isBetter_71 : decode cX4_isBetter 71 = .ok (.iload_n 2, 1) := by decide +kernel
theorem dX4_isBetter_72 : decode cX4_isBetter 72 = .ok (.iaload, 1) := by decide +kernel
theorem dX4_isBetter_73 : decode cX4_isBetter 73 = .ok (.aload_n 0, 1) := by decide +kernel
theorem dX4_isBetter_74 : decode cX4_isBetter 74 = .ok (.getfield 9, 3) := by decide +kernel
theorem dX4_isBetter_77 : decode cX4_isBetter 77 = .ok (.getfield 85, 3) := by decide +kernel
theorem dX4_isBetter_80 : decode cX4_isBetter 80 = .ok (.aload_n 0, 1) := by decide +kernel
theorem dX4_isBetter_81 : decode cX4_isBetter 81 = .ok (.getfield 40, 3) := by decide +kernel
theorem dX4_isBetter_84 : decode cX4_isBetter 84 = .ok (.iload_n 1, 1) := by decide +kernel
theorem dX4_isBetter_85 : decode cX4_isBetter 85 = .ok (.iaload, 1) := by decide +kernel
theorem dX4_isBetter_86 : decode cX4_isBetter 86 = .ok (.iaload, 1) := by decide +kernel
theorem dX4_isBetter_87 : decode cX4_isBetter 87 = .ok (.if_icmp .le 7, 3) := by decide +kernel
theorem dX4_isBetter_90 : decode cX4_isBetter 90 = .ok (.iconst 1, 1) := by decide +kernel
theorem dX4_isBetter_91 : decode cX4_isBetter 91 = .ok (.goto 4, 3) := by decide +kernel
theorem dX4_isBetter_94 : decode cX4_isBetter 94 = .ok (.iconst 0, 1) := by decide +kernel
theorem dX4_isBetter_95 : decode cX4_isBetter 95 = .ok (.ireturn, 1) := by decide +kernel
theorem dX4_choose_0 : decode cX4_choose 0 = .ok (.aload_n 0, 1) := by decide +kernel
theorem dX4_choose_1 : decode cX4_choose 1 = .ok (.iconst 0, 1) := by decide +kernel
theorem dX4_choose_2 : decode cX4_choose 2 = .ok (.putfield 147, 3) := by decide +kernel
theorem dX4_choose_5 : decode cX4_choose 5 = .ok (.iconst 0, 1) := by decide +kernel
theorem dX4_choose_6 : decode cX4_choose 6 = .ok (.istore_n 1, 1) := by decide +kernel
theorem dX4_choose_7 : decode cX4_choose 7 = .ok (.iconst 0, 1) := by decide +kernel
theorem dX4_choose_8 : decode cX4_choose 8 = .ok (.istore_n 2, 1) := by decide +kernel
theorem dX4_choose_9 : decode cX4_choose 9 = .ok (.iload_n 2, 1) := by decide +kernel
theorem dX4_choose_10 : decode cX4_choose 10 = .ok (.aload_n 0, 1) := by decide +kernel
theorem dX4_choose_11 : decode cX4_choose 11 = .ok (.getfield 15, 3) := by decide +kernel
theorem dX4_choose_14 : decode cX4_choose 14 = .ok (.getfield 60, 3) := by decide +kernel
theorem dX4_choose_17 : decode cX4_choose 17 = .ok (.if_icmp .ge 97, 3) := by decide +kernel
theorem dX4_choose_20 : decode cX4_choose 20 = .ok (.iload_n 2, 1) := by decide +kernel
theorem dX4_choose_21 : decode cX4_choose 21 = .ok (.iload_n 1, 1) := by decide +kernel
theorem dX4_choose_22 : decode cX4_choose 22 = .ok (.if_icmp .lt 65, 3) := by decide +kernel
theorem dX4_choose_25 : decode cX4_choose 25 = .ok (.aload_n 0, 1) := by decide +kernel
theorem dX4_choose_26 : decode cX4_choose 26 = .ok (.getfield 40, 3) := by decide +kernel
theorem dX4_choose_29 : decode cX4_choose 29 = .ok (.iload_n 2, 1) := by decide +kernel
theorem dX4_choose_30 : decode cX4_choose 30 = .ok (.iaload, 1) := by decide +kernel
theorem dX4_choose_31 : decode cX4_choose 31 = .ok (.iconst (-1), 1) := by decide +kernel
theorem dX4_choose_32 : decode cX4_choose 32 = .ok (.if_icmp .eq 55, 3) := by decide +kernel
theorem dX4_choose_35 : decode cX4_choose 35 = .ok (.aload_n 0, 1) := by decide +kernel
theorem dX4_choose_36 : decode cX4_choose 36 = .ok (.getfield 43, 3) := by decide +kernel
theorem dX4_choose_39 : decode cX4_choose 39 = .ok (.aload_n 0, 1) := by decide +kernel
theorem dX4_choose_40 : decode cX4_choose 40 = .ok (.getfield 147, 3) := by decide +kernel
theorem dX4_choose_43 : decode cX4_choose 43 = .ok (.iload_n 2, 1) := by decide +kernel
theorem dX4_choose_44 : decode cX4_choose 44 = .ok (.iastore, 1) := by decide +kernel
theorem dX4_choose_45 : decode cX4_choose 45 = .ok (.aload_n 0, 1) := by decide +kernel
theorem dX4_choose_46 : decode cX4_choose 46 = .ok (.getfield 46, 3) := by decide +kernel
theorem dX4_choose_49 : decode cX4_choose 49 = .ok (.aload_n 0, 1) := by decide +kernel
theorem dX4_choose_50 : decode cX4_choose 50 = .ok (.getfield 147, 3) := by decide +kernel
theorem dX4_choose_53 : decode cX4_choose 53 = .ok (.aload_n 0, 1) := by decide +kernel
theorem dX4_choose_54 : decode cX4_choose 54 = .ok (.getfield 40, 3) := by decide +kernel
theorem dX4_choose_57 : decode cX4_choose 57 = .ok (.iload_n 2, 1) := by decide +kernel
theorem dX4_choose_58 : decode cX4_choose 58 = .ok (.iaload, 1) := by decide +kernel
theorem dX4_choose_59 : decode cX4_choose 59 = .ok (.iastore, 1) := by decide +kernel
theorem dX4_choose_60 : decode cX4_choose 60 = .ok (.aload_n 0, 1) := by decide +kernel
theorem dX4_choose_61 : decode cX4_choose 61 = .ok (.dup, 1) := by decide +kernel
theorem dX4_choose_62 : decode cX4_choose 62 = .ok (.getfield 147, 3) := by decide +kernel
theorem dX4_choose_65 : decode cX4_choose 65 = .ok (.iconst 1, 1) := by decide +kernel
theorem dX4_choose_66 : decode cX4_choose 66 = .ok (.iadd, 1) := by decide +kernel
theorem dX4_choose_67 : decode cX4_choose 67 = .ok (.putfield 147, 3) := by decide +kernel
theorem dX4_choose_70 : decode cX4_choose 70 = .ok (.iload_n 2, 1) := by decide +kernel
theorem dX4_choose_71 : decode cX4_choose 71 = .ok (.aload_n 0, 1) := by decide +kernel
theorem dX4_choose_72 : decode cX4_choose 72 = .ok (.getfield 9, 3) := by decide +kernel
theorem dX4_choose_75 : decode cX4_choose 75 = .ok (.getfield 85, 3) := by decide +kernel
theorem dX4_choose_78 : decode cX4_choose 78 = .ok (.aload_n 0, 1) := by decide +kernel
theorem dX4_choose_79 : decode cX4_choose 79 = .ok (.getfield 40, 3) := by decide +kernel
theorem dX4_choose_82 : decode cX4_choose 82 = .ok (.iload_n 2, 1) := by decide +kernel
theorem dX4_choose_83 : decode cX4_choose 83 = .ok (.iaload, 1) := by decide +kernel
theorem dX4_choose_84 : decode cX4_choose 84 = .ok (.iaload, 1) := by decide +kernel
theorem dX4_choose_85 : decode cX4_choose 85 = .ok (.iadd, 1) := by decide +kernel
theorem dX4_choose_86 : decode cX4_choose 86 = .ok (.istore_n 1, 1) := by decide +kernel
theorem dX4_choose_87 : decode cX4_choose 87 = .ok (.aload_n 0, 1) := by decide +kernel
theorem dX4_choose_88 : decode cX4_choose 88 = .ok (.getfield 49, 3) := by decide +kernel
theorem dX4_choose_91 : decode cX4_choose 91 = .ok (.iload_n 2, 1) := by decide +kernel
theorem dX4_choose_92 : decode cX4_choose 92 = .ok (.iload_n 2, 1) := by decide +kernel
theorem dX4_choose_93 : decode cX4_choose 93 = .ok (.iload_n 1, 1) := by decide +kernel
theorem dX4_choose_94 : decode cX4_choose 94 = .ok (.if_icmp .ge 12, 3) := by decide +kernel
theorem dX4_choose_97 : decode cX4_choose 97 = .ok (.aload_n 0, 1) := by decide +kernel
theorem dX4_choose_98 : decode cX4_choose 98 = .ok (.getfield 147, 3) := by decide +kernel
theorem dX4_choose_101 : decode cX4_choose 101 = .ok (.iconst 1, 1) := by decide +kernel
theorem dX4_choose_102 : decode cX4_choose 102 = .ok (.isub, 1) := by decide +kernel
theorem dX4_choose_103 : decode cX4_choose 103 = .ok (.goto 4, 3) := by decide +kernel
theorem dX4_choose_106 : decode cX4_choose 106 = .ok (.iconst (-1), 1) := by decide +kernel
theorem dX4_choose_107 : decode cX4_choose 107 = .ok (.iastore, 1) := by decide +kernel
theorem dX4_choose_108 : decode cX4_choose 108 = .ok (.iinc 2 1, 3) := by decide +kernel
theorem dX4_choose_111 : decode cX4_choose 111 = .ok (.goto (-102), 3) := by decide +kernel
theorem dX4_choose_114 : decode cX4_choose 114 = .ok (.return_, 1) := by decide +kernel
theorem dX4_isFound_0 : decode cX4_isFound 0 = .ok (.aload_n 0, 1) := by decide +kernel
theorem dX4_isFound_1 : decode cX4_isFound 1 = .ok (.getfield 31, 3) := by decide +kernel
theorem dX4_isFound_4 : decode cX4_isFound 4 = .ok (.iload_n 1, 1) := by decide +kernel
theorem dX4_isFound_5 : decode cX4_isFound 5 = .ok (.iaload, 1) := by decide +kernel
theorem dX4_isFound_6 : decode cX4_isFound 6 = .ok (.iload_n 2, 1) := by decide +kernel
theorem dX4_isFound_7 : decode cX4_isFound 7 = .ok (.iushr, 1) := by decide +kernel
theorem dX4_isFound_8 : decode cX4_isFound 8 = .ok (.iconst 1, 1) := by decide +kernel
theorem dX4_isFound_9 : decode cX4_isFound 9 = .ok (.iand, 1) := by decide +kernel
theorem dX4_isFound_10 : decode cX4_isFound 10 = .ok (.ifCond .eq 7, 3) := by decide +kernel
theorem dX4_isFound_13 : decode cX4_isFound 13 = .ok (.iconst 1, 1) := by decide +kernel
theorem dX4_isFound_14 : decode cX4_isFound 14 = .ok (.goto 4, 3) := by decide +kernel
theorem dX4_isFound_17 : decode cX4_isFound 17 = .ok (.iconst 0, 1) := by decide +kernel
theorem dX4_isFound_18 : decode cX4_isFound 18 = .ok (.ireturn, 1) := by decide +kernel
theorem dX4_isChosen_0 : decode cX4_isChosen 0 = .ok (.aload_n 0, 1) := by decide +kernel
theorem dX4_isChosen_1 : decode cX4_isChosen 1 = .ok (.getfield 49, 3) := by decide +kernel
theorem dX4_isChosen_4 : decode cX4_isChosen 4 = .ok (.iload_n 1, 1) := by decide +kernel
theorem dX4_isChosen_5 : decode cX4_isChosen 5 = .ok (.iaload, 1) := by decide +kernel
theorem dX4_isChosen_6 : decode cX4_isChosen 6 = .ok (.istore_n 3, 1) := by decide +kernel
theorem dX4_isChosen_7 : decode cX4_isChosen 7 = .ok (.iload_n 3, 1) := by decide +kernel
theorem dX4_isChosen_8 : decode cX4_isChosen 8 = .ok (.iconst (-1), 1) := by decide +kernel
theorem dX4_isChosen_9 : decode cX4_isChosen 9 = .ok (.if_icmp .eq 27, 3) := by decide +kernel
theorem dX4_isChosen_12 : decode cX4_isChosen 12 = .ok (.aload_n 0, 1) := by decide +kernel
theorem dX4_isChosen_13 : decode cX4_isChosen 13 = .ok (.getfield 43, 3) := by decide +kernel
theorem dX4_isChosen_16 : decode cX4_isChosen 16 = .ok (.iload_n 3, 1) := by decide +kernel
theorem dX4_isChosen_17 : decode cX4_isChosen 17 = .ok (.iaload, 1) := by decide +kernel
theorem dX4_isChosen_18 : decode cX4_isChosen 18 = .ok (.iload_n 1, 1) := by decide +kernel
theorem dX4_isChosen_19 : decode cX4_isChosen 19 = .ok (.if_icmp .ne 17, 3) := by decide +kernel
theorem dX4_isChosen_22 : decode cX4_isChosen 22 = .ok (.aload_n 0, 1) := by decide +kernel
theorem dX4_isChosen_23 : decode cX4_isChosen 23 = .ok (.getfield 46, 3) := by decide +kernel
theorem dX4_isChosen_26 : decode cX4_isChosen 26 = .ok (.iload_n 3, 1) := by decide +kernel
theorem dX4_isChosen_27 : decode cX4_isChosen 27 = .ok (.iaload, 1) := by decide +kernel
theorem dX4_isChosen_28 : decode cX4_isChosen 28 = .ok (.iload_n 2, 1) := by decide +kernel
theorem dX4_isChosen_29 : decode cX4_isChosen 29 = .ok (.if_icmp .ne 7, 3) := by decide +kernel
theorem dX4_isChosen_32 : decode cX4_isChosen 32 = .ok (.iconst 1, 1) := by decide +kernel
theorem dX4_isChosen_33 : decode cX4_isChosen 33 = .ok (.goto 4, 3) := by decide +kernel
theorem dX4_isChosen_36 : decode cX4_isChosen 36 = .ok (.iconst 0, 1) := by decide +kernel
theorem dX4_isChosen_37 : decode cX4_isChosen 37 = .ok (.ireturn, 1) := by decide +kernel
theorem dX4_foundCount_0 : decode cX4_foundCount 0 = .ok (.iconst 0, 1) := by decide +kernel
theorem dX4_foundCount_1 : decode cX4_foundCount 1 = .ok (.istore_n 1, 1) := by decide +kernel
theorem dX4_foundCount_2 : decode cX4_foundCount 2 = .ok (.iconst 0, 1) := by decide +kernel
theorem dX4_foundCount_3 : decode cX4_foundCount 3 = .ok (.istore_n 2, 1) := by decide +kernel
theorem dX4_foundCount_4 : decode cX4_foundCount 4 = .ok (.iload_n 2, 1) := by decide +kernel
theorem dX4_foundCount_5 : decode cX4_foundCount 5 = .ok (.aload_n 0, 1) := by decide +kernel
theorem dX4_foundCount_6 : decode cX4_foundCount 6 = .ok (.getfield 15, 3) := by decide +kernel
theorem dX4_foundCount_9 : decode cX4_foundCount 9 = .ok (.getfield 60, 3) := by decide +kernel
theorem dX4_foundCount_12 : decode cX4_foundCount 12 = .ok (.if_icmp .ge 21, 3) := by decide +kernel
theorem dX4_foundCount_15 : decode cX4_foundCount 15 = .ok (.iload_n 1, 1) := by decide +kernel
theorem dX4_foundCount_16 : decode cX4_foundCount 16 = .ok (.aload_n 0, 1) := by decide +kernel
theorem dX4_foundCount_17 : decode cX4_foundCount 17 = .ok (.getfield 31, 3) := by decide +kernel
theorem dX4_foundCount_20 : decode cX4_foundCount 20 = .ok (.iload_n 2, 1) := by decide +kernel
theorem dX4_foundCount_21 : decode cX4_foundCount 21 = .ok (.iaload, 1) := by decide +kernel
theorem dX4_foundCount_22 : decode cX4_foundCount 22 = .ok (.invokestatic 150, 3) := by decide +kernel
theorem dX4_foundCount_25 : decode cX4_foundCount 25 = .ok (.iadd, 1) := by decide +kernel
theorem dX4_foundCount_26 : decode cX4_foundCount 26 = .ok (.istore_n 1, 1) := by decide +kernel
theorem dX4_foundCount_27 : decode cX4_foundCount 27 = .ok (.iinc 2 1, 3) := by decide +kernel
theorem dX4_foundCount_30 : decode cX4_foundCount 30 = .ok (.goto (-26), 3) := by decide +kernel
theorem dX4_foundCount_33 : decode cX4_foundCount 33 = .ok (.iload_n 1, 1) := by decide +kernel
theorem dX4_foundCount_34 : decode cX4_foundCount 34 = .ok (.ireturn, 1) := by decide +kernel
theorem dX4_foundAt_0 : decode cX4_foundAt 0 = .ok (.iconst 0, 1) := by decide +kernel
theorem dX4_foundAt_1 : decode cX4_foundAt 1 = .ok (.istore_n 2, 1) := by decide +kernel
theorem dX4_foundAt_2 : decode cX4_foundAt 2 = .ok (.iconst 0, 1) := by decide +kernel
theorem dX4_foundAt_3 : decode cX4_foundAt 3 = .ok (.istore_n 3, 1) := by decide +kernel
theorem dX4_foundAt_4 : decode cX4_foundAt 4 = .ok (.iload_n 3, 1) := by decide +kernel
theorem dX4_foundAt_5 : decode cX4_foundAt 5 = .ok (.aload_n 0, 1) := by decide +kernel
theorem dX4_foundAt_6 : decode cX4_foundAt 6 = .ok (.getfield 15, 3) := by decide +kernel
theorem dX4_foundAt_9 : decode cX4_foundAt 9 = .ok (.getfield 60, 3) := by decide +kernel
theorem dX4_foundAt_12 : decode cX4_foundAt 12 = .ok (.if_icmp .ge 28, 3) := by decide +kernel
theorem dX4_foundAt_15 : decode cX4_foundAt 15 = .ok (.iload_n 2, 1) := by decide +kernel
theorem dX4_foundAt_16 : decode cX4_foundAt 16 = .ok (.aload_n 0, 1) := by decide +kernel
theorem dX4_foundAt_17 : decode cX4_foundAt 17 = .ok (.getfield 31, 3) := by decide +kernel
theorem dX4_foundAt_20 : decode cX4_foundAt 20 = .ok (.iload_n 3, 1) := by decide +kernel
theorem dX4_foundAt_21 : decode cX4_foundAt 21 = .ok (.iaload, 1) := by decide +kernel
theorem dX4_foundAt_22 : decode cX4_foundAt 22 = .ok (.invokestatic 150, 3) := by decide +kernel
theorem dX4_foundAt_25 : decode cX4_foundAt 25 = .ok (.iadd, 1) := by decide +kernel
theorem dX4_foundAt_26 : decode cX4_foundAt 26 = .ok (.istore_n 2, 1) := by decide +kernel
theorem dX4_foundAt_27 : decode cX4_foundAt 27 = .ok (.iload_n 1, 1) := by decide +kernel
theorem dX4_foundAt_28 : decode cX4_foundAt 28 = .ok (.iload_n 2, 1) := by decide +kernel
theorem dX4_foundAt_29 : decode cX4_foundAt 29 = .ok (.if_icmp .ge 5, 3) := by decide +kernel
theorem dX4_foundAt_32 : decode cX4_foundAt 32 = .ok (.iload_n 3, 1) := by decide +kernel
theorem dX4_foundAt_33 : decode cX4_foundAt 33 = .ok (.ireturn, 1) := by decide +kernel
theorem dX4_foundAt_34 : decode cX4_foundAt 34 = .ok (.iinc 3 1, 3) := by decide +kernel
theorem dX4_foundAt_37 : decode cX4_foundAt 37 = .ok (.goto (-33), 3) := by decide +kernel
theorem dX4_foundAt_40 : decode cX4_foundAt 40 = .ok (.iconst (-1), 1) := by decide +kernel
theorem dX4_foundAt_41 : decode cX4_foundAt 41 = .ok (.ireturn, 1) := by decide +kernel
theorem dX4_foundTerm_0 : decode cX4_foundTerm 0 = .ok (.iconst 0, 1) := by decide +kernel
theorem dX4_foundTerm_1 : decode cX4_foundTerm 1 = .ok (.istore_n 2, 1) := by decide +kernel
theorem dX4_foundTerm_2 : decode cX4_foundTerm 2 = .ok (.iconst 0, 1) := by decide +kernel
theorem dX4_foundTerm_3 : decode cX4_foundTerm 3 = .ok (.istore_n 3, 1) := by decide +kernel
theorem dX4_foundTerm_4 : decode cX4_foundTerm 4 = .ok (.iload_n 3, 1) := by decide +kernel
theorem dX4_foundTerm_5 : decode cX4_foundTerm 5 = .ok (.aload_n 0, 1) := by decide +kernel
theorem dX4_foundTerm_6 : decode cX4_foundTerm 6 = .ok (.getfield 15, 3) := by decide +kernel
theorem dX4_foundTerm_9 : decode cX4_foundTerm 9 = .ok (.getfield 60, 3) := by decide +kernel
theorem dX4_foundTerm_12 : decode cX4_foundTerm 12 = .ok (.if_icmp .ge 51, 3) := by decide +kernel
theorem dX4_foundTerm_15 : decode cX4_foundTerm 15 = .ok (.iconst 0, 1) := by decide +kernel
theorem dX4_foundTerm_16 : decode cX4_foundTerm 16 = .ok (.istore 4, 2) := by decide +kernel
theorem dX4_foundTerm_18 : decode cX4_foundTerm 18 = .ok (.iload 4, 2) := by decide +kernel
theorem dX4_foundTerm_20 : decode cX4_foundTerm 20 = .ok (.aload_n 0, 1) := by decide +kernel
theorem dX4_foundTerm_21 : decode cX4_foundTerm 21 = .ok (.getfield 9, 3) := by decide +kernel
theorem dX4_foundTerm_24 : decode cX4_foundTerm 24 = .ok (.getfield 82, 3) := by decide +kernel
theorem dX4_foundTerm_27 : decode cX4_foundTerm 27 = .ok (.if_icmp .ge 30, 3) := by decide +kernel
theorem dX4_foundTerm_30 : decode cX4_foundTerm 30 = .ok (.aload_n 0, 1) := by decide +kernel
theorem dX4_foundTerm_31 : decode cX4_foundTerm 31 = .ok (.iload_n 3, 1) := by decide +kernel
theorem dX4_foundTerm_32 : decode cX4_foundTerm 32 = .ok (.iload 4, 2) := by decide +kernel
theorem dX4_foundTerm_34 : decode cX4_foundTerm 34 = .ok (.invokevirtual 136, 3) := by decide +kernel
theorem dX4_foundTerm_37 : decode cX4_foundTerm 37 = .ok (.ifCond .eq 14, 3) := by decide +kernel
theorem dX4_foundTerm_40 : decode cX4_foundTerm 40 = .ok (.iload_n 2, 1) := by decide +kernel
theorem dX4_foundTerm_41 : decode cX4_foundTerm 41 = .ok (.iload_n 1, 1) := by decide +kernel
theorem dX4_foundTerm_42 : decode cX4_foundTerm 42 = .ok (.if_icmp .ne 6, 3) := by decide +kernel
theorem dX4_foundTerm_45 : decode cX4_foundTerm 45 = .ok (.iload 4, 2) := by decide +kernel
theorem dX4_foundTerm_47 : decode cX4_foundTerm 47 = .ok (.ireturn, 1) := by decide +kernel
theorem dX4_foundTerm_48 : decode cX4_foundTerm 48 = .ok (.iinc 2 1, 3) := by decide +kernel
theorem dX4_foundTerm_51 : decode cX4_foundTerm 51 = .ok (.iinc 4 1, 3) := by decide +kernel
theorem dX4_foundTerm_54 : decode cX4_foundTerm 54 = .ok (.goto (-36), 3) := by decide +kernel
theorem dX4_foundTerm_57 : decode cX4_foundTerm 57 = .ok (.iinc 3 1, 3) := by decide +kernel
theorem dX4_foundTerm_60 : decode cX4_foundTerm 60 = .ok (.goto (-56), 3) := by decide +kernel
theorem dX4_foundTerm_63 : decode cX4_foundTerm 63 = .ok (.iconst (-1), 1) := by decide +kernel
theorem dX4_foundTerm_64 : decode cX4_foundTerm 64 = .ok (.ireturn, 1) := by decide +kernel
theorem dX4_timesFound_0 : decode cX4_timesFound 0 = .ok (.iconst 0, 1) := by decide +kernel
theorem dX4_timesFound_1 : decode cX4_timesFound 1 = .ok (.istore_n 2, 1) := by decide +kernel
theorem dX4_timesFound_2 : decode cX4_timesFound 2 = .ok (.iconst 0, 1) := by decide +kernel
theorem dX4_timesFound_3 : decode cX4_timesFound 3 = .ok (.istore_n 3, 1) := by decide +kernel
theorem dX4_timesFound_4 : decode cX4_timesFound 4 = .ok (.iload_n 3, 1) := by decide +kernel
theorem dX4_timesFound_5 : decode cX4_timesFound 5 = .ok (.aload_n 0, 1) := by decide +kernel
theorem dX4_timesFound_6 : decode cX4_timesFound 6 = .ok (.getfield 15, 3) := by decide +kernel
theorem dX4_timesFound_9 : decode cX4_timesFound 9 = .ok (.getfield 60, 3) := by decide +kernel
theorem dX4_timesFound_12 : decode cX4_timesFound 12 = .ok (.if_icmp .ge 26, 3) := by decide +kernel
theorem dX4_timesFound_15 : decode cX4_timesFound 15 = .ok (.iload_n 2, 1) := by decide +kernel
theorem dX4_timesFound_16 : decode cX4_timesFound 16 = .ok (.aload_n 0, 1) := by decide +kernel
theorem dX4_timesFound_17 : decode cX4_timesFound 17 = .ok (.iload_n 3, 1) := by decide +kernel
theorem dX4_timesFound_18 : decode cX4_timesFound 18 = .ok (.iload_n 1, 1) := by decide +kernel
theorem dX4_timesFound_19 : decode cX4_timesFound 19 = .ok (.invokevirtual 136, 3) := by decide +kernel
theorem dX4_timesFound_22 : decode cX4_timesFound 22 = .ok (.ifCond .eq 7, 3) := by decide +kernel
theorem dX4_timesFound_25 : decode cX4_timesFound 25 = .ok (.iconst 1, 1) := by decide +kernel
theorem dX4_timesFound_26 : decode cX4_timesFound 26 = .ok (.goto 4, 3) := by decide +kernel
theorem dX4_timesFound_29 : decode cX4_timesFound 29 = .ok (.iconst 0, 1) := by decide +kernel
theorem dX4_timesFound_30 : decode cX4_timesFound 30 = .ok (.iadd, 1) := by decide +kernel
theorem dX4_timesFound_31 : decode cX4_timesFound 31 = .ok (.istore_n 2, 1) := by decide +kernel
theorem dX4_timesFound_32 : decode cX4_timesFound 32 = .ok (.iinc 3 1, 3) := by decide +kernel
theorem dX4_timesFound_35 : decode cX4_timesFound 35 = .ok (.goto (-31), 3) := by decide +kernel
theorem dX4_timesFound_38 : decode cX4_timesFound 38 = .ok (.iload_n 2, 1) := by decide +kernel
theorem dX4_timesFound_39 : decode cX4_timesFound 39 = .ok (.ireturn, 1) := by decide +kernel
theorem dX4_timesChosen_0 : decode cX4_timesChosen 0 = .ok (.iconst 0, 1) := by decide +kernel
theorem dX4_timesChosen_1 : decode cX4_timesChosen 1 = .ok (.istore_n 2, 1) := by decide +kernel
theorem dX4_timesChosen_2 : decode cX4_timesChosen 2 = .ok (.iconst 0, 1) := by decide +kernel
theorem dX4_timesChosen_3 : decode cX4_timesChosen 3 = .ok (.istore_n 3, 1) := by decide +kernel
theorem dX4_timesChosen_4 : decode cX4_timesChosen 4 = .ok (.iload_n 3, 1) := by decide +kernel
theorem dX4_timesChosen_5 : decode cX4_timesChosen 5 = .ok (.aload_n 0, 1) := by decide +kernel
theorem dX4_timesChosen_6 : decode cX4_timesChosen 6 = .ok (.getfield 147, 3) := by decide +kernel
theorem dX4_timesChosen_9 : decode cX4_timesChosen 9 = .ok (.if_icmp .ge 27, 3) := by decide +kernel
theorem dX4_timesChosen_12 : decode cX4_timesChosen 12 = .ok (.iload_n 2, 1) := by decide +kernel
theorem dX4_timesChosen_13 : decode cX4_timesChosen 13 = .ok (.aload_n 0, 1) := by decide +kernel
theorem dX4_timesChosen_14 : decode cX4_timesChosen 14 = .ok (.getfield 46, 3) := by decide +kernel
theorem dX4_timesChosen_17 : decode cX4_timesChosen 17 = .ok (.iload_n 3, 1) := by decide +kernel
theorem dX4_timesChosen_18 : decode cX4_timesChosen 18 = .ok (.iaload, 1) := by decide +kernel
theorem dX4_timesChosen_19 : decode cX4_timesChosen 19 = .ok (.iload_n 1, 1) := by decide +kernel
theorem dX4_timesChosen_20 : decode cX4_timesChosen 20 = .ok (.if_icmp .ne 7, 3) := by decide +kernel
theorem dX4_timesChosen_23 : decode cX4_timesChosen 23 = .ok (.iconst 1, 1) := by decide +kernel
theorem dX4_timesChosen_24 : decode cX4_timesChosen 24 = .ok (.goto 4, 3) := by decide +kernel
theorem dX4_timesChosen_27 : decode cX4_timesChosen 27 = .ok (.iconst 0, 1) := by decide +kernel
theorem dX4_timesChosen_28 : decode cX4_timesChosen 28 = .ok (.iadd, 1) := by decide +kernel
theorem dX4_timesChosen_29 : decode cX4_timesChosen 29 = .ok (.istore_n 2, 1) := by decide +kernel
theorem dX4_timesChosen_30 : decode cX4_timesChosen 30 = .ok (.iinc 3 1, 3) := by decide +kernel
theorem dX4_timesChosen_33 : decode cX4_timesChosen 33 = .ok (.goto (-29), 3) := by decide +kernel
theorem dX4_timesChosen_36 : decode cX4_timesChosen 36 = .ok (.iload_n 2, 1) := by decide +kernel
theorem dX4_timesChosen_37 : decode cX4_timesChosen 37 = .ok (.ireturn, 1) := by decide +kernel
theorem dX4_wordsChosen_0 : decode cX4_wordsChosen 0 = .ok (.iconst 0, 1) := by decide +kernel
theorem dX4_wordsChosen_1 : decode cX4_wordsChosen 1 = .ok (.istore_n 1, 1) := by decide +kernel
theorem dX4_wordsChosen_2 : decode cX4_wordsChosen 2 = .ok (.iconst 0, 1) := by decide +kernel
theorem dX4_wordsChosen_3 : decode cX4_wordsChosen 3 = .ok (.istore_n 2, 1) := by decide +kernel
theorem dX4_wordsChosen_4 : decode cX4_wordsChosen 4 = .ok (.iload_n 2, 1) := by decide +kernel
theorem dX4_wordsChosen_5 : decode cX4_wordsChosen 5 = .ok (.aload_n 0, 1) := by decide +kernel
theorem dX4_wordsChosen_6 : decode cX4_wordsChosen 6 = .ok (.getfield 147, 3) := by decide +kernel
theorem dX4_wordsChosen_9 : decode cX4_wordsChosen 9 = .ok (.if_icmp .ge 26, 3) := by decide +kernel
theorem dX4_wordsChosen_12 : decode cX4_wordsChosen 12 = .ok (.iload_n 1, 1) := by decide +kernel
theorem dX4_wordsChosen_13 : decode cX4_wordsChosen 13 = .ok (.aload_n 0, 1) := by decide +kernel
theorem dX4_wordsChosen_14 : decode cX4_wordsChosen 14 = .ok (.getfield 9, 3) := by decide +kernel
theorem dX4_wordsChosen_17 : decode cX4_wordsChosen 17 = .ok (.getfield 85, 3) := by decide +kernel
theorem dX4_wordsChosen_20 : decode cX4_wordsChosen 20 = .ok (.aload_n 0, 1) := by decide +kernel
theorem dX4_wordsChosen_21 : decode cX4_wordsChosen 21 = .ok (.getfield 46, 3) := by decide +kernel
theorem dX4_wordsChosen_24 : decode cX4_wordsChosen 24 = .ok (.iload_n 2, 1) := by decide +kernel
theorem dX4_wordsChosen_25 : decode cX4_wordsChosen 25 = .ok (.iaload, 1) := by decide +kernel
theorem dX4_wordsChosen_26 : decode cX4_wordsChosen 26 = .ok (.iaload, 1) := by decide +kernel
theorem dX4_wordsChosen_27 : decode cX4_wordsChosen 27 = .ok (.iadd, 1) := by decide +kernel
theorem dX4_wordsChosen_28 : decode cX4_wordsChosen 28 = .ok (.istore_n 1, 1) := by decide +kernel
theorem dX4_wordsChosen_29 : decode cX4_wordsChosen 29 = .ok (.iinc 2 1, 3) := by decide +kernel
theorem dX4_wordsChosen_32 : decode cX4_wordsChosen 32 = .ok (.goto (-28), 3) := by decide +kernel
theorem dX4_wordsChosen_35 : decode cX4_wordsChosen 35 = .ok (.iload_n 1, 1) := by decide +kernel
theorem dX4_wordsChosen_36 : decode cX4_wordsChosen 36 = .ok (.ireturn, 1) := by decide +kernel
theorem dX4_insteadCount_0 : decode cX4_insteadCount 0 = .ok (.iconst 0, 1) := by decide +kernel
theorem dX4_insteadCount_1 : decode cX4_insteadCount 1 = .ok (.istore_n 1, 1) := by decide +kernel
theorem dX4_insteadCount_2 : decode cX4_insteadCount 2 = .ok (.iconst 0, 1) := by decide +kernel
theorem dX4_insteadCount_3 : decode cX4_insteadCount 3 = .ok (.istore_n 2, 1) := by decide +kernel
theorem dX4_insteadCount_4 : decode cX4_insteadCount 4 = .ok (.iload_n 2, 1) := by decide +kernel
theorem dX4_insteadCount_5 : decode cX4_insteadCount 5 = .ok (.aload_n 0, 1) := by decide +kernel
theorem dX4_insteadCount_6 : decode cX4_insteadCount 6 = .ok (.getfield 147, 3) := by decide +kernel
theorem dX4_insteadCount_9 : decode cX4_insteadCount 9 = .ok (.if_icmp .ge 33, 3) := by decide +kernel
theorem dX4_insteadCount_12 : decode cX4_insteadCount 12 = .ok (.iload_n 1, 1) := by decide +kernel
theorem dX4_insteadCount_13 : decode cX4_insteadCount 13 = .ok (.aload_n 0, 1) := by decide +kernel
theorem dX4_insteadCount_14 : decode cX4_insteadCount 14 = .ok (.getfield 9, 3) := by decide +kernel
theorem dX4_insteadCount_17 : decode cX4_insteadCount 17 = .ok (.aload_n 0, 1) := by decide +kernel
theorem dX4_insteadCount_18 : decode cX4_insteadCount 18 = .ok (.getfield 46, 3) := by decide +kernel
theorem dX4_insteadCount_21 : decode cX4_insteadCount 21 = .ok (.iload_n 2, 1) := by decide +kernel
theorem dX4_insteadCount_22 : decode cX4_insteadCount 22 = .ok (.iaload, 1) := by decide +kernel
theorem dX4_insteadCount_23 : decode cX4_insteadCount 23 = .ok (.invokevirtual 155, 3) := by decide +kernel
theorem dX4_insteadCount_26 : decode cX4_insteadCount 26 = .ok (.ifCond .eq 7, 3) := by decide +kernel
theorem dX4_insteadCount_29 : decode cX4_insteadCount 29 = .ok (.iconst 1, 1) := by decide +kernel
theorem dX4_insteadCount_30 : decode cX4_insteadCount 30 = .ok (.goto 4, 3) := by decide +kernel
theorem dX4_insteadCount_33 : decode cX4_insteadCount 33 = .ok (.iconst 0, 1) := by decide +kernel
theorem dX4_insteadCount_34 : decode cX4_insteadCount 34 = .ok (.iadd, 1) := by decide +kernel
theorem dX4_insteadCount_35 : decode cX4_insteadCount 35 = .ok (.istore_n 1, 1) := by decide +kernel
theorem dX4_insteadCount_36 : decode cX4_insteadCount 36 = .ok (.iinc 2 1, 3) := by decide +kernel
theorem dX4_insteadCount_39 : decode cX4_insteadCount 39 = .ok (.goto (-35), 3) := by decide +kernel
theorem dX4_insteadCount_42 : decode cX4_insteadCount 42 = .ok (.iload_n 1, 1) := by decide +kernel
theorem dX4_insteadCount_43 : decode cX4_insteadCount 43 = .ok (.ireturn, 1) := by decide +kernel
theorem dX4_insteadOver_0 : decode cX4_insteadOver 0 = .ok (.aload_n 0, 1) := by decide +kernel
theorem dX4_insteadOver_1 : decode cX4_insteadOver 1 = .ok (.getfield 49, 3) := by decide +kernel
theorem dX4_insteadOver_4 : decode cX4_insteadOver 4 = .ok (.iload_n 1, 1) := by decide +kernel
theorem dX4_insteadOver_5 : decode cX4_insteadOver 5 = .ok (.iaload, 1) := by decide +kernel
theorem dX4_insteadOver_6 : decode cX4_insteadOver 6 = .ok (.istore_n 2, 1) := by decide +kernel
theorem dX4_insteadOver_7 : decode cX4_insteadOver 7 = .ok (.iload_n 2, 1) := by decide +kernel
theorem dX4_insteadOver_8 : decode cX4_insteadOver 8 = .ok (.iconst (-1), 1) := by decide +kernel
theorem dX4_insteadOver_9 : decode cX4_insteadOver 9 = .ok (.if_icmp .ne 7, 3) := by decide +kernel
theorem dX4_insteadOver_12 : decode cX4_insteadOver 12 = .ok (.iconst (-1), 1) := by decide +kernel
theorem dX4_insteadOver_13 : decode cX4_insteadOver 13 = .ok (.goto 17, 3) := by decide +kernel
theorem dX4_insteadOver_16 : decode cX4_insteadOver 16 = .ok (.aload_n 0, 1) := by decide +kernel
theorem dX4_insteadOver_17 : decode cX4_insteadOver 17 = .ok (.getfield 9, 3) := by decide +kernel
theorem dX4_insteadOver_20 : decode cX4_insteadOver 20 = .ok (.getfield 158, 3) := by decide +kernel
theorem dX4_insteadOver_23 : decode cX4_insteadOver 23 = .ok (.aload_n 0, 1) := by decide +kernel
theorem dX4_insteadOver_24 : decode cX4_insteadOver 24 = .ok (.getfield 46, 3) := by decide +kernel
theorem dX4_insteadOver_27 : decode cX4_insteadOver 27 = .ok (.iload_n 2, 1) := by decide +kernel
theorem dX4_insteadOver_28 : decode cX4_insteadOver 28 = .ok (.iaload, 1) := by decide +kernel
theorem dX4_insteadOver_29 : decode cX4_insteadOver 29 = .ok (.iaload, 1) := by decide +kernel
theorem dX4_insteadOver_30 : decode cX4_insteadOver 30 = .ok (.ireturn, 1) := by decide +kernel
theorem dX4_reach_0 : decode cX4_reach 0 = .ok (.iconst 4, 1) := by decide +kernel
theorem dX4_reach_1 : decode cX4_reach 1 = .ok (.istore_n 2, 1) := by decide +kernel
theorem dX4_reach_2 : decode cX4_reach 2 = .ok (.iload_n 2, 1) := by decide +kernel
theorem dX4_reach_3 : decode cX4_reach 3 = .ok (.ifCond .le 40, 3) := by decide +kernel
theorem dX4_reach_6 : decode cX4_reach 6 = .ok (.iconst 0, 1) := by decide +kernel
theorem dX4_reach_7 : decode cX4_reach 7 = .ok (.istore_n 3, 1) := by decide +kernel
theorem dX4_reach_8 : decode cX4_reach 8 = .ok (.iload_n 3, 1) := by decide +kernel
theorem dX4_reach_9 : decode cX4_reach 9 = .ok (.aload_n 0, 1) := by decide +kernel
theorem dX4_reach_10 : decode cX4_reach 10 = .ok (.getfield 9, 3) := by decide +kernel
theorem dX4_reach_13 : decode cX4_reach 13 = .ok (.getfield 82, 3) := by decide +kernel
theorem dX4_reach_16 : decode cX4_reach 16 = .ok (.if_icmp .ge 21, 3) := by decide +kernel
theorem dX4_reach_19 : decode cX4_reach 19 = .ok (.aload_n 0, 1) := by decide +kernel
theorem dX4_reach_20 : decode cX4_reach 20 = .ok (.iload_n 1, 1) := by decide +kernel
theorem dX4_reach_21 : decode cX4_reach 21 = .ok (.iload_n 3, 1) := by decide +kernel
theorem dX4_reach_22 : decode cX4_reach 22 = .ok (.iload_n 2, 1) := by decide +kernel
theorem dX4_reach_23 : decode cX4_reach 23 = .ok (.invokevirtual 88, 3) := by decide +kernel
theorem dX4_reach_26 : decode cX4_reach 26 = .ok (.ifCond .eq 5, 3) := by decide +kernel
theorem dX4_reach_29 : decode cX4_reach 29 = .ok (.iload_n 2, 1) := by decide +kernel
theorem dX4_reach_30 : decode cX4_reach 30 = .ok (.ireturn, 1) := by decide +kernel
theorem dX4_reach_31 : decode cX4_reach 31 = .ok (.iinc 3 1, 3) := by decide +kernel
theorem dX4_reach_34 : decode cX4_reach 34 = .ok (.goto (-26), 3) := by decide +kernel
theorem dX4_reach_37 : decode cX4_reach 37 = .ok (.iinc 2 (-1), 3) := by decide +kernel
theorem dX4_reach_40 : decode cX4_reach 40 = .ok (.goto (-38), 3) := by decide +kernel
theorem dX4_reach_43 : decode cX4_reach 43 = .ok (.iconst 0, 1) := by decide +kernel
theorem dX4_reach_44 : decode cX4_reach 44 = .ok (.ireturn, 1) := by decide +kernel
