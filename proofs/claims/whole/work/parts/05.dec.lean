theorem dX8_reach_0 : decode cX8_reach 0 = .ok (.iconst 0, 1) := by decide +kernel
theorem dX8_reach_1 : decode cX8_reach 1 = .ok (.istore_n 2, 1) := by decide +kernel
theorem dX8_reach_2 : decode cX8_reach 2 = .ok (.iconst 0, 1) := by decide +kernel
theorem dX8_reach_3 : decode cX8_reach 3 = .ok (.istore_n 3, 1) := by decide +kernel
theorem dX8_reach_4 : decode cX8_reach 4 = .ok (.iload_n 3, 1) := by decide +kernel
theorem dX8_reach_5 : decode cX8_reach 5 = .ok (.aload_n 0, 1) := by decide +kernel
theorem dX8_reach_6 : decode cX8_reach 6 = .ok (.getfield 7, 3) := by decide +kernel
theorem dX8_reach_9 : decode cX8_reach 9 = .ok (.iconst 0, 1) := by decide +kernel
theorem dX8_reach_10 : decode cX8_reach 10 = .ok (.iaload, 1) := by decide +kernel
theorem dX8_reach_11 : decode cX8_reach 11 = .ok (.if_icmp .ge 63, 3) := by decide +kernel
theorem dX8_reach_14 : decode cX8_reach 14 = .ok (.iconst 1, 1) := by decide +kernel
theorem dX8_reach_15 : decode cX8_reach 15 = .ok (.istore 4, 2) := by decide +kernel
theorem dX8_reach_17 : decode cX8_reach 17 = .ok (.iload 4, 2) := by decide +kernel
theorem dX8_reach_19 : decode cX8_reach 19 = .ok (.aload_n 0, 1) := by decide +kernel
theorem dX8_reach_20 : decode cX8_reach 20 = .ok (.getfield 7, 3) := by decide +kernel
theorem dX8_reach_23 : decode cX8_reach 23 = .ok (.iload_n 3, 1) := by decide +kernel
theorem dX8_reach_24 : decode cX8_reach 24 = .ok (.invokestatic 58, 3) := by decide +kernel
theorem dX8_reach_27 : decode cX8_reach 27 = .ok (.iconst 0, 1) := by decide +kernel
theorem dX8_reach_28 : decode cX8_reach 28 = .ok (.iadd, 1) := by decide +kernel
theorem dX8_reach_29 : decode cX8_reach 29 = .ok (.iaload, 1) := by decide +kernel
theorem dX8_reach_30 : decode cX8_reach 30 = .ok (.if_icmp .gt 38, 3) := by decide +kernel
theorem dX8_reach_33 : decode cX8_reach 33 = .ok (.iload 4, 2) := by decide +kernel
theorem dX8_reach_35 : decode cX8_reach 35 = .ok (.iload_n 2, 1) := by decide +kernel
theorem dX8_reach_36 : decode cX8_reach 36 = .ok (.if_icmp .le 24, 3) := by decide +kernel
theorem dX8_reach_39 : decode cX8_reach 39 = .ok (.aload_n 0, 1) := by decide +kernel
theorem dX8_reach_40 : decode cX8_reach 40 = .ok (.iload_n 3, 1) := by decide +kernel
theorem dX8_reach_41 : decode cX8_reach 41 = .ok (.iload_n 1, 1) := by decide +kernel
theorem dX8_reach_42 : decode cX8_reach 42 = .ok (.iload 4, 2) := by decide +kernel
theorem dX8_reach_44 : decode cX8_reach 44 = .ok (.isub, 1) := by decide +kernel
theorem dX8_reach_45 : decode cX8_reach 45 = .ok (.iconst 1, 1) := by decide +kernel
theorem dX8_reach_46 : decode cX8_reach 46 = .ok (.iadd, 1) := by decide +kernel
theorem dX8_reach_47 : decode cX8_reach 47 = .ok (.iload 4, 2) := by decide +kernel
theorem dX8_reach_49 : decode cX8_reach 49 = .ok (.invokevirtual 152, 3) := by decide +kernel
theorem dX8_reach_52 : decode cX8_reach 52 = .ok (.ifCond .eq 8, 3) := by decide +kernel
theorem dX8_reach_55 : decode cX8_reach 55 = .ok (.iload 4, 2) := by decide +kernel
theorem dX8_reach_57 : decode cX8_reach 57 = .ok (.goto 4, 3) := by decide +kernel
theorem dX8_reach_60 : decode cX8_reach 60 = .ok (.iload_n 2, 1) := by decide +kernel
theorem dX8_reach_61 : decode cX8_reach 61 = .ok (.istore_n 2, 1) := by decide +kernel
theorem dX8_reach_62 : decode cX8_reach 62 = .ok (.iinc 4 1, 3) := by decide +kernel
theorem dX8_reach_65 : decode cX8_reach 65 = .ok (.goto (-48), 3) := by decide +kernel
theorem dX8_reach_68 : decode cX8_reach 68 = .ok (.iinc 3 1, 3) := by decide +kernel
theorem dX8_reach_71 : decode cX8_reach 71 = .ok (.goto (-67), 3) := by decide +kernel
theorem dX8_reach_74 : decode cX8_reach 74 = .ok (.iload_n 2, 1) := by decide +kernel
theorem dX8_reach_75 : decode cX8_reach 75 = .ok (.ireturn, 1) := by decide +kernel
theorem dX8_foundOver_0 : decode cX8_foundOver 0 = .ok (.iconst 0, 1) := by decide +kernel
theorem dX8_foundOver_1 : decode cX8_foundOver 1 = .ok (.istore_n 2, 1) := by decide +kernel
theorem dX8_foundOver_2 : decode cX8_foundOver 2 = .ok (.iconst 0, 1) := by decide +kernel
theorem dX8_foundOver_3 : decode cX8_foundOver 3 = .ok (.istore_n 3, 1) := by decide +kernel
theorem dX8_foundOver_4 : decode cX8_foundOver 4 = .ok (.iload_n 3, 1) := by decide +kernel
theorem dX8_foundOver_5 : decode cX8_foundOver 5 = .ok (.aload_n 0, 1) := by decide +kernel
theorem dX8_foundOver_6 : decode cX8_foundOver 6 = .ok (.getfield 7, 3) := by decide +kernel
theorem dX8_foundOver_9 : decode cX8_foundOver 9 = .ok (.iconst 0, 1) := by decide +kernel
theorem dX8_foundOver_10 : decode cX8_foundOver 10 = .ok (.iaload, 1) := by decide +kernel
theorem dX8_foundOver_11 : decode cX8_foundOver 11 = .ok (.if_icmp .ge 56, 3) := by decide +kernel
theorem dX8_foundOver_14 : decode cX8_foundOver 14 = .ok (.iconst 0, 1) := by decide +kernel
theorem dX8_foundOver_15 : decode cX8_foundOver 15 = .ok (.istore 4, 2) := by decide +kernel
theorem dX8_foundOver_17 : decode cX8_foundOver 17 = .ok (.iload 4, 2) := by decide +kernel
theorem dX8_foundOver_19 : decode cX8_foundOver 19 = .ok (.aload_n 0, 1) := by decide +kernel
theorem dX8_foundOver_20 : decode cX8_foundOver 20 = .ok (.getfield 7, 3) := by decide +kernel
theorem dX8_foundOver_23 : decode cX8_foundOver 23 = .ok (.iload_n 3, 1) := by decide +kernel
theorem dX8_foundOver_24 : decode cX8_foundOver 24 = .ok (.invokestatic 58, 3) := by decide +kernel
theorem dX8_foundOver_27 : decode cX8_foundOver 27 = .ok (.iconst 0, 1) := by decide +kernel
theorem dX8_foundOver_28 : decode cX8_foundOver 28 = .ok (.iadd, 1) := by decide +kernel
theorem dX8_foundOver_29 : decode cX8_foundOver 29 = .ok (.iaload, 1) := by decide +kernel
theorem dX8_foundOver_30 : decode cX8_foundOver 30 = .ok (.if_icmp .ge 31, 3) := by decide +kernel
theorem dX8_foundOver_33 : decode cX8_foundOver 33 = .ok (.iload_n 2, 1) := by decide +kernel
theorem dX8_foundOver_34 : decode cX8_foundOver 34 = .ok (.aload_n 0, 1) := by decide +kernel
theorem dX8_foundOver_35 : decode cX8_foundOver 35 = .ok (.iload_n 3, 1) := by decide +kernel
theorem dX8_foundOver_36 : decode cX8_foundOver 36 = .ok (.iload_n 1, 1) := by decide +kernel
theorem dX8_foundOver_37 : decode cX8_foundOver 37 = .ok (.iload 4, 2) := by decide +kernel
theorem dX8_foundOver_39 : decode cX8_foundOver 39 = .ok (.isub, 1) := by decide +kernel
theorem dX8_foundOver_40 : decode cX8_foundOver 40 = .ok (.invokevirtual 107, 3) := by decide +kernel
theorem dX8_foundOver_43 : decode cX8_foundOver 43 = .ok (.ifCond .eq 9, 3) := by decide +kernel
theorem dX8_foundOver_46 : decode cX8_foundOver 46 = .ok (.iconst 1, 1) := by decide +kernel
theorem dX8_foundOver_47 : decode cX8_foundOver 47 = .ok (.iload_n 3, 1) := by decide +kernel
theorem dX8_foundOver_48 : decode cX8_foundOver 48 = .ok (.ishl, 1) := by decide +kernel
theorem dX8_foundOver_49 : decode cX8_foundOver 49 = .ok (.goto 4, 3) := by decide +kernel
theorem dX8_foundOver_52 : decode cX8_foundOver 52 = .ok (.iconst 0, 1) := by decide +kernel
theorem dX8_foundOver_53 : decode cX8_foundOver 53 = .ok (.ior, 1) := by decide +kernel
theorem dX8_foundOver_54 : decode cX8_foundOver 54 = .ok (.istore_n 2, 1) := by decide +kernel
theorem dX8_foundOver_55 : decode cX8_foundOver 55 = .ok (.iinc 4 1, 3) := by decide +kernel
theorem dX8_foundOver_58 : decode cX8_foundOver 58 = .ok (.goto (-41), 3) := by decide +kernel
theorem dX8_foundOver_61 : decode cX8_foundOver 61 = .ok (.iinc 3 1, 3) := by decide +kernel
theorem dX8_foundOver_64 : decode cX8_foundOver 64 = .ok (.goto (-60), 3) := by decide +kernel
theorem dX8_foundOver_67 : decode cX8_foundOver 67 = .ok (.iload_n 2, 1) := by decide +kernel
theorem dX8_foundOver_68 : decode cX8_foundOver 68 = .ok (.ireturn, 1) := by decide +kernel
theorem dX8_chosenOver_0 : decode cX8_chosenOver 0 = .ok (.aload_n 0, 1) := by decide +kernel
theorem dX8_chosenOver_1 : decode cX8_chosenOver 1 = .ok (.invokevirtual 101, 3) := by decide +kernel
theorem dX8_chosenOver_4 : decode cX8_chosenOver 4 = .ok (.iconst 0, 1) := by decide +kernel
theorem dX8_chosenOver_5 : decode cX8_chosenOver 5 = .ok (.istore_n 2, 1) := by decide +kernel
theorem dX8_chosenOver_6 : decode cX8_chosenOver 6 = .ok (.iconst 0, 1) := by decide +kernel
theorem dX8_chosenOver_7 : decode cX8_chosenOver 7 = .ok (.istore_n 3, 1) := by decide +kernel
theorem dX8_chosenOver_8 : decode cX8_chosenOver 8 = .ok (.iload_n 3, 1) := by decide +kernel
theorem dX8_chosenOver_9 : decode cX8_chosenOver 9 = .ok (.iload_n 1, 1) := by decide +kernel
theorem dX8_chosenOver_10 : decode cX8_chosenOver 10 = .ok (.if_icmp .gt 46, 3) := by decide +kernel
theorem dX8_chosenOver_13 : decode cX8_chosenOver 13 = .ok (.aload_n 0, 1) := by decide +kernel
theorem dX8_chosenOver_14 : decode cX8_chosenOver 14 = .ok (.getfield 38, 3) := by decide +kernel
theorem dX8_chosenOver_17 : decode cX8_chosenOver 17 = .ok (.iload_n 3, 1) := by decide +kernel
theorem dX8_chosenOver_18 : decode cX8_chosenOver 18 = .ok (.iaload, 1) := by decide +kernel
theorem dX8_chosenOver_19 : decode cX8_chosenOver 19 = .ok (.iconst (-1), 1) := by decide +kernel
theorem dX8_chosenOver_20 : decode cX8_chosenOver 20 = .ok (.if_icmp .eq 30, 3) := by decide +kernel
theorem dX8_chosenOver_23 : decode cX8_chosenOver 23 = .ok (.iload_n 3, 1) := by decide +kernel
theorem dX8_chosenOver_24 : decode cX8_chosenOver 24 = .ok (.aload_n 0, 1) := by decide +kernel
theorem dX8_chosenOver_25 : decode cX8_chosenOver 25 = .ok (.getfield 7, 3) := by decide +kernel
theorem dX8_chosenOver_28 : decode cX8_chosenOver 28 = .ok (.aload_n 0, 1) := by decide +kernel
theorem dX8_chosenOver_29 : decode cX8_chosenOver 29 = .ok (.getfield 38, 3) := by decide +kernel
theorem dX8_chosenOver_32 : decode cX8_chosenOver 32 = .ok (.iload_n 3, 1) := by decide +kernel
theorem dX8_chosenOver_33 : decode cX8_chosenOver 33 = .ok (.iaload, 1) := by decide +kernel
theorem dX8_chosenOver_34 : decode cX8_chosenOver 34 = .ok (.invokestatic 58, 3) := by decide +kernel
theorem dX8_chosenOver_37 : decode cX8_chosenOver 37 = .ok (.iconst 0, 1) := by decide +kernel
theorem dX8_chosenOver_38 : decode cX8_chosenOver 38 = .ok (.iadd, 1) := by decide +kernel
theorem dX8_chosenOver_39 : decode cX8_chosenOver 39 = .ok (.iaload, 1) := by decide +kernel
theorem dX8_chosenOver_40 : decode cX8_chosenOver 40 = .ok (.iadd, 1) := by decide +kernel
theorem dX8_chosenOver_41 : decode cX8_chosenOver 41 = .ok (.iload_n 1, 1) := by decide +kernel
theorem dX8_chosenOver_42 : decode cX8_chosenOver 42 = .ok (.if_icmp .le 5, 3) := by decide +kernel
theorem dX8_chosenOver_45 : decode cX8_chosenOver 45 = .ok (.iload_n 2, 1) := by decide +kernel
theorem dX8_chosenOver_46 : decode cX8_chosenOver 46 = .ok (.ireturn, 1) := by decide +kernel
theorem dX8_chosenOver_47 : decode cX8_chosenOver 47 = .ok (.iinc 2 1, 3) := by decide +kernel
theorem dX8_chosenOver_50 : decode cX8_chosenOver 50 = .ok (.iinc 3 1, 3) := by decide +kernel
theorem dX8_chosenOver_53 : decode cX8_chosenOver 53 = .ok (.goto (-45), 3) := by decide +kernel
theorem dX8_chosenOver_56 : decode cX8_chosenOver 56 = .ok (.iconst (-1), 1) := by decide +kernel
theorem dX8_chosenOver_57 : decode cX8_chosenOver 57 = .ok (.ireturn, 1) := by decide +kernel
theorem dX8_word_0 : decode cX8_word 0 = .ok (.aload_n 0, 1) := by decide +kernel
theorem dX8_word_1 : decode cX8_word 1 = .ok (.iload_n 1, 1) := by decide +kernel
theorem dX8_word_2 : decode cX8_word 2 = .ok (.invokevirtual 158, 3) := by decide +kernel
theorem dX8_word_5 : decode cX8_word 5 = .ok (.ifCond .ne 6, 3) := by decide +kernel
theorem dX8_word_8 : decode cX8_word 8 = .ok (.ldc 88, 2) := by decide +kernel
theorem dX8_word_10 : decode cX8_word 10 = .ok (.ireturn, 1) := by decide +kernel
theorem dX8_word_11 : decode cX8_word 11 = .ok (.iload_n 2, 1) := by decide +kernel
theorem dX8_word_12 : decode cX8_word 12 = .ok (.tableswitch 70 0 5 #[40, 40, 40, 52, 58, 64], 40) := by decide +kernel
theorem dX8_word_52 : decode cX8_word 52 = .ok (.aload_n 0, 1) := by decide +kernel
theorem dX8_word_53 : decode cX8_word 53 = .ok (.getfield 23, 3) := by decide +kernel
theorem dX8_word_56 : decode cX8_word 56 = .ok (.bipush 15, 2) := by decide +kernel
theorem dX8_word_58 : decode cX8_word 58 = .ok (.iload_n 1, 1) := by decide +kernel
theorem dX8_word_59 : decode cX8_word 59 = .ok (.imul, 1) := by decide +kernel
theorem dX8_word_60 : decode cX8_word 60 = .ok (.iload_n 2, 1) := by decide +kernel
theorem dX8_word_61 : decode cX8_word 61 = .ok (.iadd, 1) := by decide +kernel
theorem dX8_word_62 : decode cX8_word 62 = .ok (.iaload, 1) := by decide +kernel
theorem dX8_word_63 : decode cX8_word 63 = .ok (.ireturn, 1) := by decide +kernel
theorem dX8_word_64 : decode cX8_word 64 = .ok (.aload_n 0, 1) := by decide +kernel
theorem dX8_word_65 : decode cX8_word 65 = .ok (.iload_n 1, 1) := by decide +kernel
theorem dX8_word_66 : decode cX8_word 66 = .ok (.invokevirtual 161, 3) := by decide +kernel
theorem dX8_word_69 : decode cX8_word 69 = .ok (.ireturn, 1) := by decide +kernel
theorem dX8_word_70 : decode cX8_word 70 = .ok (.aload_n 0, 1) := by decide +kernel
theorem dX8_word_71 : decode cX8_word 71 = .ok (.iload_n 1, 1) := by decide +kernel
theorem dX8_word_72 : decode cX8_word 72 = .ok (.invokevirtual 164, 3) := by decide +kernel
theorem dX8_word_75 : decode cX8_word 75 = .ok (.ireturn, 1) := by decide +kernel
theorem dX8_word_76 : decode cX8_word 76 = .ok (.aload_n 0, 1) := by decide +kernel
theorem dX8_word_77 : decode cX8_word 77 = .ok (.iload_n 1, 1) := by decide +kernel
theorem dX8_word_78 : decode cX8_word 78 = .ok (.invokevirtual 167, 3) := by decide +kernel
theorem dX8_word_81 : decode cX8_word 81 = .ok (.ireturn, 1) := by decide +kernel
theorem dX8_word_82 : decode cX8_word 82 = .ok (.ldc 52, 2) := by decide +kernel
theorem dX8_word_84 : decode cX8_word 84 = .ok (.ireturn, 1) := by decide +kernel
theorem dX8_mends_0 : decode cX8_mends 0 = .ok (.aload_n 0, 1) := by decide +kernel
theorem dX8_mends_1 : decode cX8_mends 1 = .ok (.invokevirtual 101, 3) := by decide +kernel
theorem dX8_mends_4 : decode cX8_mends 4 = .ok (.iconst 0, 1) := by decide +kernel
theorem dX8_mends_5 : decode cX8_mends 5 = .ok (.istore_n 1, 1) := by decide +kernel
theorem dX8_mends_6 : decode cX8_mends 6 = .ok (.iconst 0, 1) := by decide +kernel
theorem dX8_mends_7 : decode cX8_mends 7 = .ok (.istore_n 2, 1) := by decide +kernel
theorem dX8_mends_8 : decode cX8_mends 8 = .ok (.iload_n 2, 1) := by decide +kernel
theorem dX8_mends_9 : decode cX8_mends 9 = .ok (.aload_n 0, 1) := by decide +kernel
theorem dX8_mends_10 : decode cX8_mends 10 = .ok (.getfield 104, 3) := by decide +kernel
theorem dX8_mends_13 : decode cX8_mends 13 = .ok (.if_icmp .ge 289, 3) := by decide +kernel
theorem dX8_mends_16 : decode cX8_mends 16 = .ok (.aload_n 0, 1) := by decide +kernel
theorem dX8_mends_17 : decode cX8_mends 17 = .ok (.getfield 38, 3) := by decide +kernel
theorem dX8_mends_20 : decode cX8_mends 20 = .ok (.iload_n 2, 1) := by decide +kernel
theorem dX8_mends_21 : decode cX8_mends 21 = .ok (.iaload, 1) := by decide +kernel
theorem dX8_mends_22 : decode cX8_mends 22 = .ok (.istore_n 3, 1) := by decide +kernel
theorem dX8_mends_23 : decode cX8_mends 23 = .ok (.iload_n 3, 1) := by decide +kernel
theorem dX8_mends_24 : decode cX8_mends 24 = .ok (.iconst (-1), 1) := by decide +kernel
theorem dX8_mends_25 : decode cX8_mends 25 = .ok (.if_icmp .ne 7, 3) := by decide +kernel
theorem dX8_mends_28 : decode cX8_mends 28 = .ok (.iconst (-1), 1) := by decide +kernel
theorem dX8_mends_29 : decode cX8_mends 29 = .ok (.goto 14, 3) := by decide +kernel
theorem dX8_mends_32 : decode cX8_mends 32 = .ok (.aload_n 0, 1) := by decide +kernel
theorem dX8_mends_33 : decode cX8_mends 33 = .ok (.getfield 7, 3) := by decide +kernel
theorem dX8_mends_36 : decode cX8_mends 36 = .ok (.iload_n 3, 1) := by decide +kernel
theorem dX8_mends_37 : decode cX8_mends 37 = .ok (.invokestatic 58, 3) := by decide +kernel
theorem dX8_mends_40 : decode cX8_mends 40 = .ok (.iconst 3, 1) := by decide +kernel
theorem dX8_mends_41 : decode cX8_mends 41 = .ok (.iadd, 1) := by decide +kernel
theorem dX8_mends_42 : decode cX8_mends 42 = .ok (.iaload, 1) := by decide +kernel
theorem dX8_mends_43 : decode cX8_mends 43 = .ok (.istore 4, 2) := by decide +kernel
theorem dX8_mends_45 : decode cX8_mends 45 = .ok (.iload_n 2, 1) := by decide +kernel
theorem dX8_mends_46 : decode cX8_mends 46 = .ok (.iload 4, 2) := by decide +kernel
theorem dX8_mends_48 : decode cX8_mends 48 = .ok (.iconst (-1), 1) := by decide +kernel
theorem dX8_mends_49 : decode cX8_mends 49 = .ok (.if_icmp .ne 7, 3) := by decide +kernel
theorem dX8_mends_52 : decode cX8_mends 52 = .ok (.iconst 1, 1) := by decide +kernel
theorem dX8_mends_53 : decode cX8_mends 53 = .ok (.goto 14, 3) := by decide +kernel
theorem dX8_mends_56 : decode cX8_mends 56 = .ok (.aload_n 0, 1) := by decide +kernel
theorem dX8_mends_57 : decode cX8_mends 57 = .ok (.getfield 7, 3) := by decide +kernel
theorem dX8_mends_60 : decode cX8_mends 60 = .ok (.iload_n 3, 1) := by decide +kernel
theorem dX8_mends_61 : decode cX8_mends 61 = .ok (.invokestatic 58, 3) := by decide +kernel
theorem dX8_mends_64 : decode cX8_mends 64 = .ok (.iconst 0, 1) := by decide +kernel
theorem dX8_mends_65 : decode cX8_mends 65 = .ok (.iadd, 1) := by decide +kernel
theorem dX8_mends_66 : decode cX8_mends 66 = .ok (.iaload, 1) := by decide +kernel
theorem dX8_mends_67 : decode cX8_mends 67 = .ok (.iadd, 1) := by decide +kernel
theorem dX8_mends_68 : decode cX8_mends 68 = .ok (.istore 5, 2) := by decide +kernel
theorem dX8_mends_70 : decode cX8_mends 70 = .ok (.iload 4, 2) := by decide +kernel
theorem dX8_mends_72 : decode cX8_mends 72 = .ok (.iconst (-1), 1) := by decide +kernel
theorem dX8_mends_73 : decode cX8_mends 73 = .ok (.if_icmp .ne 7, 3) := by decide +kernel
theorem dX8_mends_76 : decode cX8_mends 76 = .ok (.iconst 1, 1) := by decide +kernel
theorem dX8_mends_77 : decode cX8_mends 77 = .ok (.goto 15, 3) := by decide +kernel
theorem dX8_mends_80 : decode cX8_mends 80 = .ok (.aload_n 0, 1) := by decide +kernel
theorem dX8_mends_81 : decode cX8_mends 81 = .ok (.getfield 7, 3) := by decide +kernel
theorem dX8_mends_84 : decode cX8_mends 84 = .ok (.iload 4, 2) := by decide +kernel
theorem dX8_mends_86 : decode cX8_mends 86 = .ok (.invokestatic 58, 3) := by decide +kernel
theorem dX8_mends_89 : decode cX8_mends 89 = .ok (.iconst 0, 1) := by decide +kernel
theorem dX8_mends_90 : decode cX8_mends 90 = .ok (.iadd, 1) := by decide +kernel
theorem dX8_mends_91 : decode cX8_mends 91 = .ok (.iaload, 1) := by decide +kernel
theorem dX8_mends_92 : decode cX8_mends 92 = .ok (.istore 6, 2) := by decide +kernel
theorem dX8_mends_94 : decode cX8_mends 94 = .ok (.iconst 0, 1) := by decide +kernel
theorem dX8_mends_95 : decode cX8_mends 95 = .ok (.istore 7, 2) := by decide +kernel
theorem dX8_mends_97 : decode cX8_mends 97 = .ok (.iload 7, 2) := by decide +kernel
theorem dX8_mends_99 : decode cX8_mends 99 = .ok (.iload 6, 2) := by decide +kernel
theorem dX8_mends_101 : decode cX8_mends 101 = .ok (.if_icmp .ge 121, 3) := by decide +kernel
theorem dX8_mends_104 : decode cX8_mends 104 = .ok (.iload_n 1, 1) := by decide +kernel
theorem dX8_mends_105 : decode cX8_mends 105 = .ok (.ifCond .le 14, 3) := by decide +kernel
theorem dX8_mends_108 : decode cX8_mends 108 = .ok (.aload_n 0, 1) := by decide +kernel
theorem dX8_mends_109 : decode cX8_mends 109 = .ok (.getfield 41, 3) := by decide +kernel
theorem dX8_mends_112 : decode cX8_mends 112 = .ok (.iload_n 1, 1) := by decide +kernel
theorem dX8_mends_113 : decode cX8_mends 113 = .ok (.bipush 32, 2) := by decide +kernel
theorem dX8_mends_115 : decode cX8_mends 115 = .ok (.iastore, 1) := by decide +kernel
theorem dX8_mends_116 : decode cX8_mends 116 = .ok (.iinc 1 1, 3) := by decide +kernel
theorem dX8_mends_119 : decode cX8_mends 119 = .ok (.iload 4, 2) := by decide +kernel
theorem dX8_mends_121 : decode cX8_mends 121 = .ok (.iconst (-1), 1) := by decide +kernel
theorem dX8_mends_122 : decode cX8_mends 122 = .ok (.if_icmp .ne 15, 3) := by decide +kernel
theorem dX8_mends_125 : decode cX8_mends 125 = .ok (.aload_n 0, 1) := by decide +kernel
theorem dX8_mends_126 : decode cX8_mends 126 = .ok (.getfield 23, 3) := by decide +kernel
theorem dX8_mends_129 : decode cX8_mends 129 = .ok (.bipush 15, 2) := by decide +kernel
theorem dX8_mends_131 : decode cX8_mends 131 = .ok (.iload_n 2, 1) := by decide +kernel
theorem dX8_mends_132 : decode cX8_mends 132 = .ok (.imul, 1) := by decide +kernel
theorem dX8_mends_133 : decode cX8_mends 133 = .ok (.iaload, 1) := by decide +kernel
theorem dX8_mends_134 : decode cX8_mends 134 = .ok (.goto 15, 3) := by decide +kernel
theorem dX8_mends_137 : decode cX8_mends 137 = .ok (.aload_n 0, 1) := by decide +kernel
theorem dX8_mends_138 : decode cX8_mends 138 = .ok (.getfield 7, 3) := by decide +kernel
theorem dX8_mends_141 : decode cX8_mends 141 = .ok (.iload 4, 2) := by decide +kernel
theorem dX8_mends_143 : decode cX8_mends 143 = .ok (.iload 7, 2) := by decide +kernel
theorem dX8_mends_145 : decode cX8_mends 145 = .ok (.invokestatic 62, 3) := by decide +kernel
theorem dX8_mends_148 : decode cX8_mends 148 = .ok (.iaload, 1) := by decide +kernel
theorem dX8_mends_149 : decode cX8_mends 149 = .ok (.istore 8, 2) := by decide +kernel
theorem dX8_mends_151 : decode cX8_mends 151 = .ok (.iconst 0, 1) := by decide +kernel
theorem dX8_mends_152 : decode cX8_mends 152 = .ok (.istore 9, 2) := by decide +kernel
theorem dX8_mends_154 : decode cX8_mends 154 = .ok (.iload 9, 2) := by decide +kernel
theorem dX8_mends_156 : decode cX8_mends 156 = .ok (.iload 8, 2) := by decide +kernel
theorem dX8_mends_158 : decode cX8_mends 158 = .ok (.if_icmp .ge 58, 3) := by decide +kernel
theorem dX8_mends_161 : decode cX8_mends 161 = .ok (.aload_n 0, 1) := by decide +kernel
theorem dX8_mends_162 : decode cX8_mends 162 = .ok (.getfield 41, 3) := by decide +kernel
theorem dX8_mends_165 : decode cX8_mends 165 = .ok (.iload_n 1, 1) := by decide +kernel
theorem dX8_mends_166 : decode cX8_mends 166 = .ok (.iload 4, 2) := by decide +kernel
theorem dX8_mends_168 : decode cX8_mends 168 = .ok (.iconst (-1), 1) := by decide +kernel
theorem dX8_mends_169 : decode cX8_mends 169 = .ok (.if_icmp .ne 20, 3) := by decide +kernel
theorem dX8_mends_172 : decode cX8_mends 172 = .ok (.aload_n 0, 1) := by decide +kernel
theorem dX8_mends_173 : decode cX8_mends 173 = .ok (.getfield 23, 3) := by decide +kernel
theorem dX8_mends_176 : decode cX8_mends 176 = .ok (.bipush 15, 2) := by decide +kernel
theorem dX8_mends_178 : decode cX8_mends 178 = .ok (.iload_n 2, 1) := by decide +kernel
theorem dX8_mends_179 : decode cX8_mends 179 = .ok (.imul, 1) := by decide +kernel
theorem dX8_mends_180 : decode cX8_mends 180 = .ok (.iconst 3, 1) := by decide +kernel
theorem dX8_mends_181 : decode cX8_mends 181 = .ok (.iadd, 1) := by decide +kernel
theorem dX8_mends_182 : decode cX8_mends 182 = .ok (.iload 9, 2) := by decide +kernel
theorem dX8_mends_184 : decode cX8_mends 184 = .ok (.iadd, 1) := by decide +kernel
theorem dX8_mends_185 : decode cX8_mends 185 = .ok (.iaload, 1) := by decide +kernel
theorem dX8_mends_186 : decode cX8_mends 186 = .ok (.goto 20, 3) := by decide +kernel
theorem dX8_mends_189 : decode cX8_mends 189 = .ok (.aload_n 0, 1) := by decide +kernel
theorem dX8_mends_190 : decode cX8_mends 190 = .ok (.getfield 7, 3) := by decide +kernel
theorem dX8_mends_193 : decode cX8_mends 193 = .ok (.iload 4, 2) := by decide +kernel
theorem dX8_mends_195 : decode cX8_mends 195 = .ok (.iload 7, 2) := by decide +kernel
theorem dX8_mends_197 : decode cX8_mends 197 = .ok (.invokestatic 62, 3) := by decide +kernel
theorem dX8_mends_200 : decode cX8_mends 200 = .ok (.iconst 1, 1) := by decide +kernel
theorem dX8_mends_201 : decode cX8_mends 201 = .ok (.iadd, 1) := by decide +kernel
theorem dX8_mends_202 : decode cX8_mends 202 = .ok (.iload 9, 2) := by decide +kernel
theorem dX8_mends_204 : decode cX8_mends 204 = .ok (.iadd, 1) := by decide +kernel
theorem dX8_mends_205 : decode cX8_mends 205 = .ok (.iaload, 1) := by decide +kernel
theorem dX8_mends_206 : decode cX8_mends 206 = .ok (.iastore, 1) := by decide +kernel
theorem dX8_mends_207 : decode cX8_mends 207 = .ok (.iinc 1 1, 3) := by decide +kernel
theorem dX8_mends_210 : decode cX8_mends 210 = .ok (.iinc 9 1, 3) := by decide +kernel
theorem dX8_mends_213 : decode cX8_mends 213 = .ok (.goto (-59), 3) := by decide +kernel
theorem dX8_mends_216 : decode cX8_mends 216 = .ok (.iinc 7 1, 3) := by decide +kernel
theorem dX8_mends_219 : decode cX8_mends 219 = .ok (.goto (-122), 3) := by decide +kernel
theorem dX8_mends_222 : decode cX8_mends 222 = .ok (.aload_n 0, 1) := by decide +kernel
theorem dX8_mends_223 : decode cX8_mends 223 = .ok (.getfield 23, 3) := by decide +kernel
theorem dX8_mends_226 : decode cX8_mends 226 = .ok (.bipush 15, 2) := by decide +kernel
theorem dX8_mends_228 : decode cX8_mends 228 = .ok (.iload 5, 2) := by decide +kernel
theorem dX8_mends_230 : decode cX8_mends 230 = .ok (.iconst 1, 1) := by decide +kernel
theorem dX8_mends_231 : decode cX8_mends 231 = .ok (.isub, 1) := by decide +kernel
theorem dX8_mends_232 : decode cX8_mends 232 = .ok (.imul, 1) := by decide +kernel
theorem dX8_mends_233 : decode cX8_mends 233 = .ok (.iconst 1, 1) := by decide +kernel
theorem dX8_mends_234 : decode cX8_mends 234 = .ok (.iadd, 1) := by decide +kernel
theorem dX8_mends_235 : decode cX8_mends 235 = .ok (.iaload, 1) := by decide +kernel
theorem dX8_mends_236 : decode cX8_mends 236 = .ok (.istore 7, 2) := by decide +kernel
theorem dX8_mends_238 : decode cX8_mends 238 = .ok (.iload 5, 2) := by decide +kernel
theorem dX8_mends_240 : decode cX8_mends 240 = .ok (.aload_n 0, 1) := by decide +kernel
theorem dX8_mends_241 : decode cX8_mends 241 = .ok (.getfield 104, 3) := by decide +kernel
theorem dX8_mends_244 : decode cX8_mends 244 = .ok (.if_icmp .eq 20, 3) := by decide +kernel
theorem dX8_mends_247 : decode cX8_mends 247 = .ok (.aload_n 0, 1) := by decide +kernel
theorem dX8_mends_248 : decode cX8_mends 248 = .ok (.getfield 23, 3) := by decide +kernel
theorem dX8_mends_251 : decode cX8_mends 251 = .ok (.bipush 15, 2) := by decide +kernel
theorem dX8_mends_253 : decode cX8_mends 253 = .ok (.iload 5, 2) := by decide +kernel
theorem dX8_mends_255 : decode cX8_mends 255 = .ok (.imul, 1) := by decide +kernel
theorem dX8_mends_256 : decode cX8_mends 256 = .ok (.iconst 1, 1) := by decide +kernel
theorem dX8_mends_257 : decode cX8_mends 257 = .ok (.iadd, 1) := by decide +kernel
theorem dX8_mends_258 : decode cX8_mends 258 = .ok (.iaload, 1) := by decide +kernel
theorem dX8_mends_259 : decode cX8_mends 259 = .ok (.iload 7, 2) := by decide +kernel
theorem dX8_mends_261 : decode cX8_mends 261 = .ok (.if_icmp .eq 7, 3) := by decide +kernel
theorem dX8_mends_264 : decode cX8_mends 264 = .ok (.iconst 1, 1) := by decide +kernel
theorem dX8_mends_265 : decode cX8_mends 265 = .ok (.goto 4, 3) := by decide +kernel
theorem dX8_mends_268 : decode cX8_mends 268 = .ok (.iconst 0, 1) := by decide +kernel
theorem dX8_mends_269 : decode cX8_mends 269 = .ok (.istore 8, 2) := by decide +kernel
theorem dX8_mends_271 : decode cX8_mends 271 = .ok (.iload 8, 2) := by decide +kernel
theorem dX8_mends_273 : decode cX8_mends 273 = .ok (.ifCond .eq 23, 3) := by decide +kernel
theorem dX8_mends_276 : decode cX8_mends 276 = .ok (.iload 7, 2) := by decide +kernel
theorem dX8_mends_278 : decode cX8_mends 278 = .ok (.aload_n 0, 1) := by decide +kernel
theorem dX8_mends_279 : decode cX8_mends 279 = .ok (.getfield 110, 3) := by decide +kernel
theorem dX8_mends_282 : decode cX8_mends 282 = .ok (.if_icmp .ge 14, 3) := by decide +kernel
theorem dX8_mends_285 : decode cX8_mends 285 = .ok (.aload_n 0, 1) := by decide +kernel
theorem dX8_mends_286 : decode cX8_mends 286 = .ok (.getfield 41, 3) := by decide +kernel
theorem dX8_mends_289 : decode cX8_mends 289 = .ok (.iload_n 1, 1) := by decide +kernel
theorem dX8_mends_290 : decode cX8_mends 290 = .ok (.bipush 46, 2) := by decide +kernel
theorem dX8_mends_292 : decode cX8_mends 292 = .ok (.iastore, 1) := by decide +kernel
theorem dX8_mends_293 : decode cX8_mends 293 = .ok (.iinc 1 1, 3) := by decide +kernel
theorem dX8_mends_296 : decode cX8_mends 296 = .ok (.iload 5, 2) := by decide +kernel
theorem dX8_mends_298 : decode cX8_mends 298 = .ok (.istore_n 2, 1) := by decide +kernel
theorem dX8_mends_299 : decode cX8_mends 299 = .ok (.goto (-291), 3) := by decide +kernel
theorem dX8_mends_302 : decode cX8_mends 302 = .ok (.iload_n 1, 1) := by decide +kernel
theorem dX8_mends_303 : decode cX8_mends 303 = .ok (.ireturn, 1) := by decide +kernel
theorem dX8_counts_0 : decode cX8_counts 0 = .ok (.aload_n 0, 1) := by decide +kernel
theorem dX8_counts_1 : decode cX8_counts 1 = .ok (.invokevirtual 101, 3) := by decide +kernel
theorem dX8_counts_4 : decode cX8_counts 4 = .ok (.iconst 0, 1) := by decide +kernel
theorem dX8_counts_5 : decode cX8_counts 5 = .ok (.istore_n 2, 1) := by decide +kernel
theorem dX8_counts_6 : decode cX8_counts 6 = .ok (.iconst 0, 1) := by decide +kernel
theorem dX8_counts_7 : decode cX8_counts 7 = .ok (.istore_n 3, 1) := by decide +kernel
theorem dX8_counts_8 : decode cX8_counts 8 = .ok (.iload_n 3, 1) := by decide +kernel
theorem dX8_counts_9 : decode cX8_counts 9 = .ok (.aload_n 0, 1) := by decide +kernel
theorem dX8_counts_10 : decode cX8_counts 10 = .ok (.getfield 104, 3) := by decide +kernel
theorem dX8_counts_13 : decode cX8_counts 13 = .ok (.if_icmp .ge 127, 3) := by decide +kernel
theorem dX8_counts_16 : decode cX8_counts 16 = .ok (.iconst 0, 1) := by decide +kernel
theorem dX8_counts_17 : decode cX8_counts 17 = .ok (.istore 4, 2) := by decide +kernel
theorem dX8_counts_19 : decode cX8_counts 19 = .ok (.iload 4, 2) := by decide +kernel
theorem dX8_counts_21 : decode cX8_counts 21 = .ok (.aload_n 0, 1) := by decide +kernel
theorem dX8_counts_22 : decode cX8_counts 22 = .ok (.getfield 7, 3) := by decide +kernel
theorem dX8_counts_25 : decode cX8_counts 25 = .ok (.iconst 0, 1) := by decide +kernel
theorem dX8_counts_26 : decode cX8_counts 26 = .ok (.iaload, 1) := by decide +kernel
theorem dX8_counts_27 : decode cX8_counts 27 = .ok (.if_icmp .ge 107, 3) := by decide +kernel
theorem dX8_counts_30 : decode cX8_counts 30 = .ok (.aload_n 0, 1) := by decide +kernel
theorem dX8_counts_31 : decode cX8_counts 31 = .ok (.getfield 38, 3) := by decide +kernel
theorem dX8_counts_34 : decode cX8_counts 34 = .ok (.iload_n 3, 1) := by decide +kernel
theorem dX8_counts_35 : decode cX8_counts 35 = .ok (.iaload, 1) := by decide +kernel
theorem dX8_counts_36 : decode cX8_counts 36 = .ok (.iload 4, 2) := by decide +kernel
theorem dX8_counts_38 : decode cX8_counts 38 = .ok (.if_icmp .ne 7, 3) := by decide +kernel
theorem dX8_counts_41 : decode cX8_counts 41 = .ok (.iconst 1, 1) := by decide +kernel
theorem dX8_counts_42 : decode cX8_counts 42 = .ok (.goto 4, 3) := by decide +kernel
theorem dX8_counts_45 : decode cX8_counts 45 = .ok (.iconst 0, 1) := by decide +kernel
theorem dX8_counts_46 : decode cX8_counts 46 = .ok (.istore 5, 2) := by decide +kernel
theorem dX8_counts_48 : decode cX8_counts 48 = .ok (.iload_n 1, 1) := by decide +kernel
theorem dX8_counts_49 : decode cX8_counts 49 = .ok (.ifCond .ne 13, 3) := by decide +kernel
theorem dX8_counts_52 : decode cX8_counts 52 = .ok (.aload_n 0, 1) := by decide +kernel
theorem dX8_counts_53 : decode cX8_counts 53 = .ok (.iload 4, 2) := by decide +kernel
theorem dX8_counts_55 : decode cX8_counts 55 = .ok (.iload_n 3, 1) := by decide +kernel
theorem dX8_counts_56 : decode cX8_counts 56 = .ok (.invokevirtual 107, 3) := by decide +kernel
theorem dX8_counts_59 : decode cX8_counts 59 = .ok (.goto 34, 3) := by decide +kernel
theorem dX8_counts_62 : decode cX8_counts 62 = .ok (.iload 5, 2) := by decide +kernel
theorem dX8_counts_64 : decode cX8_counts 64 = .ok (.ifCond .eq 28, 3) := by decide +kernel
theorem dX8_counts_67 : decode cX8_counts 67 = .ok (.iload_n 1, 1) := by decide +kernel
theorem dX8_counts_68 : decode cX8_counts 68 = .ok (.iconst 3, 1) := by decide +kernel
theorem dX8_counts_69 : decode cX8_counts 69 = .ok (.if_icmp .lt 19, 3) := by decide +kernel
theorem dX8_counts_72 : decode cX8_counts 72 = .ok (.aload_n 0, 1) := by decide +kernel
theorem dX8_counts_73 : decode cX8_counts 73 = .ok (.getfield 7, 3) := by decide +kernel
theorem dX8_counts_76 : decode cX8_counts 76 = .ok (.iload 4, 2) := by decide +kernel
theorem dX8_counts_78 : decode cX8_counts 78 = .ok (.invokestatic 58, 3) := by decide +kernel
theorem dX8_counts_81 : decode cX8_counts 81 = .ok (.iconst 3, 1) := by decide +kernel
theorem dX8_counts_82 : decode cX8_counts 82 = .ok (.iadd, 1) := by decide +kernel
theorem dX8_counts_83 : decode cX8_counts 83 = .ok (.iaload, 1) := by decide +kernel
theorem dX8_counts_84 : decode cX8_counts 84 = .ok (.iconst (-1), 1) := by decide +kernel
theorem dX8_counts_85 : decode cX8_counts 85 = .ok (.if_icmp .eq 7, 3) := by decide +kernel
theorem dX8_counts_88 : decode cX8_counts 88 = .ok (.iconst 1, 1) := by decide +kernel
theorem dX8_counts_89 : decode cX8_counts 89 = .ok (.goto 4, 3) := by decide +kernel
theorem dX8_counts_92 : decode cX8_counts 92 = .ok (.iconst 0, 1) := by decide +kernel
theorem dX8_counts_93 : decode cX8_counts 93 = .ok (.istore 6, 2) := by decide +kernel
theorem dX8_counts_95 : decode cX8_counts 95 = .ok (.iload_n 2, 1) := by decide +kernel
theorem dX8_counts_96 : decode cX8_counts 96 = .ok (.iload 6, 2) := by decide +kernel
theorem dX8_counts_98 : decode cX8_counts 98 = .ok (.ifCond .ne 7, 3) := by decide +kernel
theorem dX8_counts_101 : decode cX8_counts 101 = .ok (.iconst 0, 1) := by decide +kernel
theorem dX8_counts_102 : decode cX8_counts 102 = .ok (.goto 24, 3) := by decide +kernel
theorem dX8_counts_105 : decode cX8_counts 105 = .ok (.iload_n 1, 1) := by decide +kernel
theorem dX8_counts_106 : decode cX8_counts 106 = .ok (.iconst 2, 1) := by decide +kernel
theorem dX8_counts_107 : decode cX8_counts 107 = .ok (.if_icmp .ne 18, 3) := by decide +kernel
theorem dX8_counts_110 : decode cX8_counts 110 = .ok (.aload_n 0, 1) := by decide +kernel
theorem dX8_counts_111 : decode cX8_counts 111 = .ok (.getfield 7, 3) := by decide +kernel
theorem dX8_counts_114 : decode cX8_counts 114 = .ok (.iload 4, 2) := by decide +kernel
theorem dX8_counts_116 : decode cX8_counts 116 = .ok (.invokestatic 58, 3) := by decide +kernel
theorem dX8_counts_119 : decode cX8_counts 119 = .ok (.iconst 0, 1) := by decide +kernel
theorem dX8_counts_120 : decode cX8_counts 120 = .ok (.iadd, 1) := by decide +kernel
theorem dX8_counts_121 : decode cX8_counts 121 = .ok (.iaload, 1) := by decide +kernel
theorem dX8_counts_122 : decode cX8_counts 122 = .ok (.goto 4, 3) := by decide +kernel
theorem dX8_counts_125 : decode cX8_counts 125 = .ok (.iconst 1, 1) := by decide +kernel
theorem dX8_counts_126 : decode cX8_counts 126 = .ok (.iadd, 1) := by decide +kernel
theorem dX8_counts_127 : decode cX8_counts 127 = .ok (.istore_n 2, 1) := by decide +kernel
theorem dX8_counts_128 : decode cX8_counts 128 = .ok (.iinc 4 1, 3) := by decide +kernel
theorem dX8_counts_131 : decode cX8_counts 131 = .ok (.goto (-112), 3) := by decide +kernel
theorem dX8_counts_134 : decode cX8_counts 134 = .ok (.iinc 3 1, 3) := by decide +kernel
theorem dX8_counts_137 : decode cX8_counts 137 = .ok (.goto (-129), 3) := by decide +kernel
theorem dX8_counts_140 : decode cX8_counts 140 = .ok (.iload_n 2, 1) := by decide +kernel
theorem dX8_counts_141 : decode cX8_counts 141 = .ok (.ireturn, 1) := by decide +kernel
theorem dX8_told_0 : decode cX8_told 0 = .ok (.iload_n 1, 1) := by decide +kernel
theorem dX8_told_1 : decode cX8_told 1 = .ok (.tableswitch 167 0 12 #[67, 74, 81, 86, 91, 96, 122, 128, 134, 145, 151, 157, 162], 67) := by decide +kernel
theorem dX8_told_68 : decode cX8_told 68 = .ok (.aload_n 0, 1) := by decide +kernel
theorem dX8_told_69 : decode cX8_told 69 = .ok (.getfield 7, 3) := by decide +kernel
theorem dX8_told_72 : decode cX8_told 72 = .ok (.iconst 0, 1) := by decide +kernel
theorem dX8_told_73 : decode cX8_told 73 = .ok (.iaload, 1) := by decide +kernel
theorem dX8_told_74 : decode cX8_told 74 = .ok (.ireturn, 1) := by decide +kernel
theorem dX8_told_75 : decode cX8_told 75 = .ok (.aload_n 0, 1) := by decide +kernel
theorem dX8_told_76 : decode cX8_told 76 = .ok (.getfield 7, 3) := by decide +kernel
theorem dX8_told_79 : decode cX8_told 79 = .ok (.iconst 1, 1) := by decide +kernel
theorem dX8_told_80 : decode cX8_told 80 = .ok (.iaload, 1) := by decide +kernel
theorem dX8_told_81 : decode cX8_told 81 = .ok (.ireturn, 1) := by decide +kernel
theorem dX8_told_82 : decode cX8_told 82 = .ok (.aload_n 0, 1) := by decide +kernel
theorem dX8_told_83 : decode cX8_told 83 = .ok (.getfield 53, 3) := by decide +kernel
theorem dX8_told_86 : decode cX8_told 86 = .ok (.ireturn, 1) := by decide +kernel
theorem dX8_told_87 : decode cX8_told 87 = .ok (.aload_n 0, 1) := by decide +kernel
theorem dX8_told_88 : decode cX8_told 88 = .ok (.getfield 104, 3) := by decide +kernel
theorem dX8_told_91 : decode cX8_told 91 = .ok (.ireturn, 1) := by decide +kernel
theorem dX8_told_92 : decode cX8_told 92 = .ok (.aload_n 0, 1) := by decide +kernel
theorem dX8_told_93 : decode cX8_told 93 = .ok (.getfield 110, 3) := by decide +kernel
theorem dX8_told_96 : decode cX8_told 96 = .ok (.ireturn, 1) := by decide +kernel
theorem dX8_told_97 : decode cX8_told 97 = .ok (.aload_n 0, 1) := by decide +kernel
theorem dX8_told_98 : decode cX8_told 98 = .ok (.getfield 104, 3) := by decide +kernel
theorem dX8_told_101 : decode cX8_told 101 = .ok (.bipush 60, 2) := by decide +kernel
theorem dX8_told_103 : decode cX8_told 103 = .ok (.if_icmp .ge 18, 3) := by decide +kernel
theorem dX8_told_106 : decode cX8_told 106 = .ok (.aload_n 0, 1) := by decide +kernel
theorem dX8_told_107 : decode cX8_told 107 = .ok (.getfield 23, 3) := by decide +kernel
theorem dX8_told_110 : decode cX8_told 110 = .ok (.bipush 15, 2) := by decide +kernel
theorem dX8_told_112 : decode cX8_told 112 = .ok (.aload_n 0, 1) := by decide +kernel
theorem dX8_told_113 : decode cX8_told 113 = .ok (.getfield 104, 3) := by decide +kernel
theorem dX8_told_116 : decode cX8_told 116 = .ok (.imul, 1) := by decide +kernel
theorem dX8_told_117 : decode cX8_told 117 = .ok (.iaload, 1) := by decide +kernel
theorem dX8_told_118 : decode cX8_told 118 = .ok (.goto 4, 3) := by decide +kernel
theorem dX8_told_121 : decode cX8_told 121 = .ok (.iconst 0, 1) := by decide +kernel
theorem dX8_told_122 : decode cX8_told 122 = .ok (.ireturn, 1) := by decide +kernel
theorem dX8_told_123 : decode cX8_told 123 = .ok (.aload_n 0, 1) := by decide +kernel
theorem dX8_told_124 : decode cX8_told 124 = .ok (.iconst 0, 1) := by decide +kernel
theorem dX8_told_125 : decode cX8_told 125 = .ok (.invokevirtual 170, 3) := by decide +kernel
theorem dX8_told_128 : decode cX8_told 128 = .ok (.ireturn, 1) := by decide +kernel
theorem dX8_told_129 : decode cX8_told 129 = .ok (.aload_n 0, 1) := by decide +kernel
theorem dX8_told_130 : decode cX8_told 130 = .ok (.iconst 1, 1) := by decide +kernel
theorem dX8_told_131 : decode cX8_told 131 = .ok (.invokevirtual 170, 3) := by decide +kernel
theorem dX8_told_134 : decode cX8_told 134 = .ok (.ireturn, 1) := by decide +kernel
theorem dX8_told_135 : decode cX8_told 135 = .ok (.aload_n 0, 1) := by decide +kernel
theorem dX8_told_136 : decode cX8_told 136 = .ok (.invokevirtual 101, 3) := by decide +kernel
theorem dX8_told_139 : decode cX8_told 139 = .ok (.aload_n 0, 1) := by decide +kernel
theorem dX8_told_140 : decode cX8_told 140 = .ok (.getfield 32, 3) := by decide +kernel
theorem dX8_told_143 : decode cX8_told 143 = .ok (.iconst 0, 1) := by decide +kernel
theorem dX8_told_144 : decode cX8_told 144 = .ok (.iaload, 1) := by decide +kernel
theorem dX8_told_145 : decode cX8_told 145 = .ok (.ireturn, 1) := by decide +kernel
theorem dX8_told_146 : decode cX8_told 146 = .ok (.aload_n 0, 1) := by decide +kernel
theorem dX8_told_147 : decode cX8_told 147 = .ok (.iconst 2, 1) := by decide +kernel
theorem dX8_told_148 : decode cX8_told 148 = .ok (.invokevirtual 170, 3) := by decide +kernel
theorem dX8_told_151 : decode cX8_told 151 = .ok (.ireturn, 1) := by decide +kernel
theorem dX8_told_152 : decode cX8_told 152 = .ok (.aload_n 0, 1) := by decide +kernel
theorem dX8_told_153 : decode cX8_told 153 = .ok (.iconst 3, 1) := by decide +kernel
theorem dX8_told_154 : decode cX8_told 154 = .ok (.invokevirtual 170, 3) := by decide +kernel
theorem dX8_told_157 : decode cX8_told 157 = .ok (.ireturn, 1) := by decide +kernel
theorem dX8_told_158 : decode cX8_told 158 = .ok (.aload_n 0, 1) := by decide +kernel
theorem dX8_told_159 : decode cX8_told 159 = .ok (.invokevirtual 173, 3) := by decide +kernel
theorem dX8_told_162 : decode cX8_told 162 = .ok (.ireturn, 1) := by decide +kernel
theorem dX8_told_163 : decode cX8_told 163 = .ok (.aload_n 0, 1) := by decide +kernel
theorem dX8_told_164 : decode cX8_told 164 = .ok (.invokevirtual 95, 3) := by decide +kernel
theorem dX8_told_167 : decode cX8_told 167 = .ok (.ireturn, 1) := by decide +kernel
theorem dX8_told_168 : decode cX8_told 168 = .ok (.ldc 52, 2) := by decide +kernel
theorem dX8_told_170 : decode cX8_told 170 = .ok (.ireturn, 1) := by decide +kernel
theorem dX8_place_0 : decode cX8_place 0 = .ok (.aload_n 0, 1) := by decide +kernel
theorem dX8_place_1 : decode cX8_place 1 = .ok (.invokevirtual 101, 3) := by decide +kernel
theorem dX8_place_4 : decode cX8_place 4 = .ok (.iload_n 1, 1) := by decide +kernel
theorem dX8_place_5 : decode cX8_place 5 = .ok (.istore_n 3, 1) := by decide +kernel
theorem dX8_place_6 : decode cX8_place 6 = .ok (.iconst 0, 1) := by decide +kernel
theorem dX8_place_7 : decode cX8_place 7 = .ok (.istore 4, 2) := by decide +kernel
theorem dX8_place_9 : decode cX8_place 9 = .ok (.iload 4, 2) := by decide +kernel
theorem dX8_place_11 : decode cX8_place 11 = .ok (.aload_n 0, 1) := by decide +kernel
theorem dX8_place_12 : decode cX8_place 12 = .ok (.getfield 104, 3) := by decide +kernel
theorem dX8_place_15 : decode cX8_place 15 = .ok (.if_icmp .ge 94, 3) := by decide +kernel
theorem dX8_place_18 : decode cX8_place 18 = .ok (.iconst 0, 1) := by decide +kernel
theorem dX8_place_19 : decode cX8_place 19 = .ok (.istore 5, 2) := by decide +kernel
theorem dX8_place_21 : decode cX8_place 21 = .ok (.iload 5, 2) := by decide +kernel
theorem dX8_place_23 : decode cX8_place 23 = .ok (.aload_n 0, 1) := by decide +kernel
theorem dX8_place_24 : decode cX8_place 24 = .ok (.getfield 7, 3) := by decide +kernel
theorem dX8_place_27 : decode cX8_place 27 = .ok (.iconst 0, 1) := by decide +kernel
theorem dX8_place_28 : decode cX8_place 28 = .ok (.iaload, 1) := by decide +kernel
theorem dX8_place_29 : decode cX8_place 29 = .ok (.if_icmp .ge 74, 3) := by decide +kernel
theorem dX8_place_32 : decode cX8_place 32 = .ok (.iload_n 2, 1) := by decide +kernel
theorem dX8_place_33 : decode cX8_place 33 = .ok (.ifCond .eq 23, 3) := by decide +kernel
theorem dX8_place_36 : decode cX8_place 36 = .ok (.aload_n 0, 1) := by decide +kernel
theorem dX8_place_37 : decode cX8_place 37 = .ok (.getfield 38, 3) := by decide +kernel
theorem dX8_place_40 : decode cX8_place 40 = .ok (.iload 4, 2) := by decide +kernel
theorem dX8_place_42 : decode cX8_place 42 = .ok (.iaload, 1) := by decide +kernel
theorem dX8_place_43 : decode cX8_place 43 = .ok (.iload 5, 2) := by decide +kernel
theorem dX8_place_45 : decode cX8_place 45 = .ok (.if_icmp .ne 7, 3) := by decide +kernel
theorem dX8_place_48 : decode cX8_place 48 = .ok (.iconst 1, 1) := by decide +kernel
theorem dX8_place_49 : decode cX8_place 49 = .ok (.goto 15, 3) := by decide +kernel
theorem dX8_place_52 : decode cX8_place 52 = .ok (.iconst 0, 1) := by decide +kernel
theorem dX8_place_53 : decode cX8_place 53 = .ok (.goto 11, 3) := by decide +kernel
theorem dX8_place_56 : decode cX8_place 56 = .ok (.aload_n 0, 1) := by decide +kernel
theorem dX8_place_57 : decode cX8_place 57 = .ok (.iload 5, 2) := by decide +kernel
theorem dX8_place_59 : decode cX8_place 59 = .ok (.iload 4, 2) := by decide +kernel
theorem dX8_place_61 : decode cX8_place 61 = .ok (.invokevirtual 107, 3) := by decide +kernel
theorem dX8_place_64 : decode cX8_place 64 = .ok (.istore 6, 2) := by decide +kernel
theorem dX8_place_66 : decode cX8_place 66 = .ok (.iload 6, 2) := by decide +kernel
theorem dX8_place_68 : decode cX8_place 68 = .ok (.ifCond .eq 16, 3) := by decide +kernel
theorem dX8_place_71 : decode cX8_place 71 = .ok (.iload_n 3, 1) := by decide +kernel
theorem dX8_place_72 : decode cX8_place 72 = .ok (.ifCond .ne 12, 3) := by decide +kernel
theorem dX8_place_75 : decode cX8_place 75 = .ok (.bipush 8, 2) := by decide +kernel
theorem dX8_place_77 : decode cX8_place 77 = .ok (.iload 4, 2) := by decide +kernel
theorem dX8_place_79 : decode cX8_place 79 = .ok (.imul, 1) := by decide +kernel
theorem dX8_place_80 : decode cX8_place 80 = .ok (.iload 5, 2) := by decide +kernel
theorem dX8_place_82 : decode cX8_place 82 = .ok (.iadd, 1) := by decide +kernel
theorem dX8_place_83 : decode cX8_place 83 = .ok (.ireturn, 1) := by decide +kernel
theorem dX8_place_84 : decode cX8_place 84 = .ok (.iload_n 3, 1) := by decide +kernel
theorem dX8_place_85 : decode cX8_place 85 = .ok (.iload 6, 2) := by decide +kernel
theorem dX8_place_87 : decode cX8_place 87 = .ok (.ifCond .eq 7, 3) := by decide +kernel
theorem dX8_place_90 : decode cX8_place 90 = .ok (.iconst 1, 1) := by decide +kernel
theorem dX8_place_91 : decode cX8_place 91 = .ok (.goto 4, 3) := by decide +kernel
theorem dX8_place_94 : decode cX8_place 94 = .ok (.iconst 0, 1) := by decide +kernel
theorem dX8_place_95 : decode cX8_place 95 = .ok (.isub, 1) := by decide +kernel
theorem dX8_place_96 : decode cX8_place 96 = .ok (.istore_n 3, 1) := by decide +kernel
theorem dX8_place_97 : decode cX8_place 97 = .ok (.iinc 5 1, 3) := by decide +kernel
theorem dX8_place_100 : decode cX8_place 100 = .ok (.goto (-79), 3) := by decide +kernel
theorem dX8_place_103 : decode cX8_place 103 = .ok (.iinc 4 1, 3) := by decide +kernel
theorem dX8_place_106 : decode cX8_place 106 = .ok (.goto (-97), 3) := by decide +kernel
theorem dX8_place_109 : decode cX8_place 109 = .ok (.iconst (-1), 1) := by decide +kernel
theorem dX8_place_110 : decode cX8_place 110 = .ok (.ireturn, 1) := by decide +kernel
theorem dX8_found_0 : decode cX8_found 0 = .ok (.iload_n 1, 1) := by decide +kernel
theorem dX8_found_1 : decode cX8_found 1 = .ok (.ifCond .lt 12, 3) := by decide +kernel
theorem dX8_found_4 : decode cX8_found 4 = .ok (.iload_n 2, 1) := by decide +kernel
theorem dX8_found_5 : decode cX8_found 5 = .ok (.iconst 0, 1) := by decide +kernel
theorem dX8_found_6 : decode cX8_found 6 = .ok (.iconst 3, 1) := by decide +kernel
theorem dX8_found_7 : decode cX8_found 7 = .ok (.invokestatic 44, 3) := by decide +kernel
theorem dX8_found_10 : decode cX8_found 10 = .ok (.ifCond .ne 6, 3) := by decide +kernel
theorem dX8_found_13 : decode cX8_found 13 = .ok (.ldc 52, 2) := by decide +kernel
theorem dX8_found_15 : decode cX8_found 15 = .ok (.ireturn, 1) := by decide +kernel
theorem dX8_found_16 : decode cX8_found 16 = .ok (.aload_n 0, 1) := by decide +kernel
theorem dX8_found_17 : decode cX8_found 17 = .ok (.iload_n 1, 1) := by decide +kernel
theorem dX8_found_18 : decode cX8_found 18 = .ok (.iconst 0, 1) := by decide +kernel
theorem dX8_found_19 : decode cX8_found 19 = .ok (.invokevirtual 176, 3) := by decide +kernel
theorem dX8_found_22 : decode cX8_found 22 = .ok (.istore_n 3, 1) := by decide +kernel
theorem dX8_found_23 : decode cX8_found 23 = .ok (.iload_n 3, 1) := by decide +kernel
theorem dX8_found_24 : decode cX8_found 24 = .ok (.iconst (-1), 1) := by decide +kernel
theorem dX8_found_25 : decode cX8_found 25 = .ok (.if_icmp .ne 5, 3) := by decide +kernel
theorem dX8_found_28 : decode cX8_found 28 = .ok (.iconst (-1), 1) := by decide +kernel
theorem dX8_found_29 : decode cX8_found 29 = .ok (.ireturn, 1) := by decide +kernel
theorem dX8_found_30 : decode cX8_found 30 = .ok (.iload_n 2, 1) := by decide +kernel
theorem dX8_found_31 : decode cX8_found 31 = .ok (.ifCond .ne 10, 3) := by decide +kernel
theorem dX8_found_34 : decode cX8_found 34 = .ok (.iload_n 3, 1) := by decide +kernel
theorem dX8_found_35 : decode cX8_found 35 = .ok (.bipush 8, 2) := by decide +kernel
theorem dX8_found_37 : decode cX8_found 37 = .ok (.idiv, 1) := by decide +kernel
theorem dX8_found_38 : decode cX8_found 38 = .ok (.goto 52, 3) := by decide +kernel
theorem dX8_found_41 : decode cX8_found 41 = .ok (.iload_n 2, 1) := by decide +kernel
theorem dX8_found_42 : decode cX8_found 42 = .ok (.iconst 1, 1) := by decide +kernel
theorem dX8_found_43 : decode cX8_found 43 = .ok (.if_icmp .ne 10, 3) := by decide +kernel
theorem dX8_found_46 : decode cX8_found 46 = .ok (.iload_n 3, 1) := by decide +kernel
theorem dX8_found_47 : decode cX8_found 47 = .ok (.bipush 8, 2) := by decide +kernel
theorem dX8_found_49 : decode cX8_found 49 = .ok (.irem, 1) := by decide +kernel
theorem dX8_found_50 : decode cX8_found 50 = .ok (.goto 40, 3) := by decide +kernel
theorem dX8_found_53 : decode cX8_found 53 = .ok (.iload_n 2, 1) := by decide +kernel
theorem dX8_found_54 : decode cX8_found 54 = .ok (.iconst 2, 1) := by decide +kernel
theorem dX8_found_55 : decode cX8_found 55 = .ok (.if_icmp .ne 14, 3) := by decide +kernel
theorem dX8_found_58 : decode cX8_found 58 = .ok (.aload_n 0, 1) := by decide +kernel
theorem dX8_found_59 : decode cX8_found 59 = .ok (.iload_n 3, 1) := by decide +kernel
theorem dX8_found_60 : decode cX8_found 60 = .ok (.bipush 8, 2) := by decide +kernel
theorem dX8_found_62 : decode cX8_found 62 = .ok (.irem, 1) := by decide +kernel
theorem dX8_found_63 : decode cX8_found 63 = .ok (.invokevirtual 155, 3) := by decide +kernel
theorem dX8_found_66 : decode cX8_found 66 = .ok (.goto 24, 3) := by decide +kernel
theorem dX8_found_69 : decode cX8_found 69 = .ok (.aload_n 0, 1) := by decide +kernel
theorem dX8_found_70 : decode cX8_found 70 = .ok (.getfield 38, 3) := by decide +kernel
theorem dX8_found_73 : decode cX8_found 73 = .ok (.iload_n 3, 1) := by decide +kernel
theorem dX8_found_74 : decode cX8_found 74 = .ok (.bipush 8, 2) := by decide +kernel
theorem dX8_found_76 : decode cX8_found 76 = .ok (.idiv, 1) := by decide +kernel
theorem dX8_found_77 : decode cX8_found 77 = .ok (.iaload, 1) := by decide +kernel
theorem dX8_found_78 : decode cX8_found 78 = .ok (.iload_n 3, 1) := by decide +kernel
theorem dX8_found_79 : decode cX8_found 79 = .ok (.bipush 8, 2) := by decide +kernel
theorem dX8_found_81 : decode cX8_found 81 = .ok (.irem, 1) := by decide +kernel
theorem dX8_found_82 : decode cX8_found 82 = .ok (.if_icmp .ne 7, 3) := by decide +kernel
theorem dX8_found_85 : decode cX8_found 85 = .ok (.iconst 1, 1) := by decide +kernel
theorem dX8_found_86 : decode cX8_found 86 = .ok (.goto 4, 3) := by decide +kernel
theorem dX8_found_89 : decode cX8_found 89 = .ok (.iconst 0, 1) := by decide +kernel
theorem dX8_found_90 : decode cX8_found 90 = .ok (.ireturn, 1) := by decide +kernel
theorem dX8_chosen_0 : decode cX8_chosen 0 = .ok (.iload_n 1, 1) := by decide +kernel
theorem dX8_chosen_1 : decode cX8_chosen 1 = .ok (.ifCond .lt 12, 3) := by decide +kernel
theorem dX8_chosen_4 : decode cX8_chosen 4 = .ok (.iload_n 2, 1) := by decide +kernel
theorem dX8_chosen_5 : decode cX8_chosen 5 = .ok (.iconst 0, 1) := by decide +kernel
theorem dX8_chosen_6 : decode cX8_chosen 6 = .ok (.iconst 3, 1) := by decide +kernel
theorem dX8_chosen_7 : decode cX8_chosen 7 = .ok (.invokestatic 44, 3) := by decide +kernel
theorem dX8_chosen_10 : decode cX8_chosen 10 = .ok (.ifCond .ne 6, 3) := by decide +kernel
theorem dX8_chosen_13 : decode cX8_chosen 13 = .ok (.ldc 52, 2) := by decide +kernel
theorem dX8_chosen_15 : decode cX8_chosen 15 = .ok (.ireturn, 1) := by decide +kernel
theorem dX8_chosen_16 : decode cX8_chosen 16 = .ok (.aload_n 0, 1) := by decide +kernel
theorem dX8_chosen_17 : decode cX8_chosen 17 = .ok (.iload_n 1, 1) := by decide +kernel
theorem dX8_chosen_18 : decode cX8_chosen 18 = .ok (.iconst 1, 1) := by decide +kernel
theorem dX8_chosen_19 : decode cX8_chosen 19 = .ok (.invokevirtual 176, 3) := by decide +kernel
theorem dX8_chosen_22 : decode cX8_chosen 22 = .ok (.istore_n 3, 1) := by decide +kernel
theorem dX8_chosen_23 : decode cX8_chosen 23 = .ok (.iload_n 3, 1) := by decide +kernel
theorem dX8_chosen_24 : decode cX8_chosen 24 = .ok (.iconst (-1), 1) := by decide +kernel
theorem dX8_chosen_25 : decode cX8_chosen 25 = .ok (.if_icmp .ne 5, 3) := by decide +kernel
theorem dX8_chosen_28 : decode cX8_chosen 28 = .ok (.iconst (-1), 1) := by decide +kernel
theorem dX8_chosen_29 : decode cX8_chosen 29 = .ok (.ireturn, 1) := by decide +kernel
theorem dX8_chosen_30 : decode cX8_chosen 30 = .ok (.iload_n 2, 1) := by decide +kernel
theorem dX8_chosen_31 : decode cX8_chosen 31 = .ok (.ifCond .ne 10, 3) := by decide +kernel
theorem dX8_chosen_34 : decode cX8_chosen 34 = .ok (.iload_n 3, 1) := by decide +kernel
theorem dX8_chosen_35 : decode cX8_chosen 35 = .ok (.bipush 8, 2) := by decide +kernel
theorem dX8_chosen_37 : decode cX8_chosen 37 = .ok (.idiv, 1) := by decide +kernel
theorem dX8_chosen_38 : decode cX8_chosen 38 = .ok (.goto 45, 3) := by decide +kernel
theorem dX8_chosen_41 : decode cX8_chosen 41 = .ok (.iload_n 2, 1) := by decide +kernel
theorem dX8_chosen_42 : decode cX8_chosen 42 = .ok (.iconst 1, 1) := by decide +kernel
theorem dX8_chosen_43 : decode cX8_chosen 43 = .ok (.if_icmp .ne 10, 3) := by decide +kernel
theorem dX8_chosen_46 : decode cX8_chosen 46 = .ok (.iload_n 3, 1) := by decide +kernel
theorem dX8_chosen_47 : decode cX8_chosen 47 = .ok (.bipush 8, 2) := by decide +kernel
theorem dX8_chosen_49 : decode cX8_chosen 49 = .ok (.irem, 1) := by decide +kernel
theorem dX8_chosen_50 : decode cX8_chosen 50 = .ok (.goto 33, 3) := by decide +kernel
theorem dX8_chosen_53 : decode cX8_chosen 53 = .ok (.iload_n 2, 1) := by decide +kernel
theorem dX8_chosen_54 : decode cX8_chosen 54 = .ok (.iconst 2, 1) := by decide +kernel
theorem dX8_chosen_55 : decode cX8_chosen 55 = .ok (.if_icmp .ne 14, 3) := by decide +kernel
theorem dX8_chosen_58 : decode cX8_chosen 58 = .ok (.aload_n 0, 1) := by decide +kernel
theorem dX8_chosen_59 : decode cX8_chosen 59 = .ok (.iload_n 3, 1) := by decide +kernel
theorem dX8_chosen_60 : decode cX8_chosen 60 = .ok (.bipush 8, 2) := by decide +kernel
theorem dX8_chosen_62 : decode cX8_chosen 62 = .ok (.irem, 1) := by decide +kernel
theorem dX8_chosen_63 : decode cX8_chosen 63 = .ok (.invokevirtual 155, 3) := by decide +kernel
theorem dX8_chosen_66 : decode cX8_chosen 66 = .ok (.goto 17, 3) := by decide +kernel
theorem dX8_chosen_69 : decode cX8_chosen 69 = .ok (.aload_n 0, 1) := by decide +kernel
theorem dX8_chosen_70 : decode cX8_chosen 70 = .ok (.getfield 7, 3) := by decide +kernel
theorem dX8_chosen_73 : decode cX8_chosen 73 = .ok (.iload_n 3, 1) := by decide +kernel
theorem dX8_chosen_74 : decode cX8_chosen 74 = .ok (.bipush 8, 2) := by decide +kernel
theorem dX8_chosen_76 : decode cX8_chosen 76 = .ok (.irem, 1) := by decide +kernel
theorem dX8_chosen_77 : decode cX8_chosen 77 = .ok (.invokestatic 58, 3) := by decide +kernel
theorem dX8_chosen_80 : decode cX8_chosen 80 = .ok (.iconst 3, 1) := by decide +kernel
theorem dX8_chosen_81 : decode cX8_chosen 81 = .ok (.iadd, 1) := by decide +kernel
theorem dX8_chosen_82 : decode cX8_chosen 82 = .ok (.iaload, 1) := by decide +kernel
theorem dX8_chosen_83 : decode cX8_chosen 83 = .ok (.ireturn, 1) := by decide +kernel
theorem dX8_longest_0 : decode cX8_longest 0 = .ok (.aload_n 0, 1) := by decide +kernel
theorem dX8_longest_1 : decode cX8_longest 1 = .ok (.iload_n 1, 1) := by decide +kernel
theorem dX8_longest_2 : decode cX8_longest 2 = .ok (.invokevirtual 158, 3) := by decide +kernel
theorem dX8_longest_5 : decode cX8_longest 5 = .ok (.ifCond .ne 6, 3) := by decide +kernel
theorem dX8_longest_8 : decode cX8_longest 8 = .ok (.ldc 88, 2) := by decide +kernel
theorem dX8_longest_10 : decode cX8_longest 10 = .ok (.ireturn, 1) := by decide +kernel
theorem dX8_longest_11 : decode cX8_longest 11 = .ok (.iconst (-1), 1) := by decide +kernel
theorem dX8_longest_12 : decode cX8_longest 12 = .ok (.istore_n 2, 1) := by decide +kernel
theorem dX8_longest_13 : decode cX8_longest 13 = .ok (.iconst 0, 1) := by decide +kernel
theorem dX8_longest_14 : decode cX8_longest 14 = .ok (.istore_n 3, 1) := by decide +kernel
theorem dX8_longest_15 : decode cX8_longest 15 = .ok (.iconst 0, 1) := by decide +kernel
theorem dX8_longest_16 : decode cX8_longest 16 = .ok (.istore 4, 2) := by decide +kernel
theorem dX8_longest_18 : decode cX8_longest 18 = .ok (.iload 4, 2) := by decide +kernel
theorem dX8_longest_20 : decode cX8_longest 20 = .ok (.aload_n 0, 1) := by decide +kernel
theorem dX8_longest_21 : decode cX8_longest 21 = .ok (.getfield 7, 3) := by decide +kernel
theorem dX8_longest_24 : decode cX8_longest 24 = .ok (.iconst 0, 1) := by decide +kernel
theorem dX8_longest_25 : decode cX8_longest 25 = .ok (.iaload, 1) := by decide +kernel
theorem dX8_longest_26 : decode cX8_longest 26 = .ok (.if_icmp .ge 86, 3) := by decide +kernel
theorem dX8_longest_29 : decode cX8_longest 29 = .ok (.bipush 10, 2) := by decide +kernel
theorem dX8_longest_31 : decode cX8_longest 31 = .ok (.aload_n 0, 1) := by decide +kernel
theorem dX8_longest_32 : decode cX8_longest 32 = .ok (.getfield 7, 3) := by decide +kernel
theorem dX8_longest_35 : decode cX8_longest 35 = .ok (.iload 4, 2) := by decide +kernel
theorem dX8_longest_37 : decode cX8_longest 37 = .ok (.invokestatic 58, 3) := by decide +kernel
theorem dX8_longest_40 : decode cX8_longest 40 = .ok (.iconst 0, 1) := by decide +kernel
theorem dX8_longest_41 : decode cX8_longest 41 = .ok (.iadd, 1) := by decide +kernel
theorem dX8_longest_42 : decode cX8_longest 42 = .ok (.iaload, 1) := by decide +kernel
theorem dX8_longest_43 : decode cX8_longest 43 = .ok (.imul, 1) := by decide +kernel
theorem dX8_longest_44 : decode cX8_longest 44 = .ok (.aload_n 0, 1) := by decide +kernel
theorem dX8_longest_45 : decode cX8_longest 45 = .ok (.getfield 7, 3) := by decide +kernel
theorem dX8_longest_48 : decode cX8_longest 48 = .ok (.iload 4, 2) := by decide +kernel
theorem dX8_longest_50 : decode cX8_longest 50 = .ok (.invokestatic 58, 3) := by decide +kernel
theorem dX8_longest_53 : decode cX8_longest 53 = .ok (.iconst 1, 1) := by decide +kernel
theorem dX8_longest_54 : decode cX8_longest 54 = .ok (.iadd, 1) := by decide +kernel
theorem dX8_longest_55 : decode cX8_longest 55 = .ok (.iaload, 1) := by decide +kernel
theorem dX8_longest_56 : decode cX8_longest 56 = .ok (.iadd, 1) := by decide +kernel
theorem dX8_longest_57 : decode cX8_longest 57 = .ok (.istore 5, 2) := by decide +kernel
theorem dX8_longest_59 : decode cX8_longest 59 = .ok (.iload 5, 2) := by decide +kernel
theorem dX8_longest_61 : decode cX8_longest 61 = .ok (.iload_n 3, 1) := by decide +kernel
theorem dX8_longest_62 : decode cX8_longest 62 = .ok (.if_icmp .le 17, 3) := by decide +kernel
theorem dX8_longest_65 : decode cX8_longest 65 = .ok (.aload_n 0, 1) := by decide +kernel
theorem dX8_longest_66 : decode cX8_longest 66 = .ok (.iload 4, 2) := by decide +kernel
theorem dX8_longest_68 : decode cX8_longest 68 = .ok (.iload_n 1, 1) := by decide +kernel
theorem dX8_longest_69 : decode cX8_longest 69 = .ok (.invokevirtual 107, 3) := by decide +kernel
theorem dX8_longest_72 : decode cX8_longest 72 = .ok (.ifCond .eq 7, 3) := by decide +kernel
theorem dX8_longest_75 : decode cX8_longest 75 = .ok (.iconst 1, 1) := by decide +kernel
theorem dX8_longest_76 : decode cX8_longest 76 = .ok (.goto 4, 3) := by decide +kernel
theorem dX8_longest_79 : decode cX8_longest 79 = .ok (.iconst 0, 1) := by decide +kernel
theorem dX8_longest_80 : decode cX8_longest 80 = .ok (.istore 6, 2) := by decide +kernel
theorem dX8_longest_82 : decode cX8_longest 82 = .ok (.iload 6, 2) := by decide +kernel
theorem dX8_longest_84 : decode cX8_longest 84 = .ok (.ifCond .eq 8, 3) := by decide +kernel
theorem dX8_longest_87 : decode cX8_longest 87 = .ok (.iload 4, 2) := by decide +kernel
theorem dX8_longest_89 : decode cX8_longest 89 = .ok (.goto 4, 3) := by decide +kernel
theorem dX8_longest_92 : decode cX8_longest 92 = .ok (.iload_n 2, 1) := by decide +kernel
theorem dX8_longest_93 : decode cX8_longest 93 = .ok (.istore_n 2, 1) := by decide +kernel
theorem dX8_longest_94 : decode cX8_longest 94 = .ok (.iload 6, 2) := by decide +kernel
theorem dX8_longest_96 : decode cX8_longest 96 = .ok (.ifCond .eq 8, 3) := by decide +kernel
theorem dX8_longest_99 : decode cX8_longest 99 = .ok (.iload 5, 2) := by decide +kernel
theorem dX8_longest_101 : decode cX8_longest 101 = .ok (.goto 4, 3) := by decide +kernel
theorem dX8_longest_104 : decode cX8_longest 104 = .ok (.iload_n 3, 1) := by decide +kernel
theorem dX8_longest_105 : decode cX8_longest 105 = .ok (.istore_n 3, 1) := by decide +kernel
theorem dX8_longest_106 : decode cX8_longest 106 = .ok (.iinc 4 1, 3) := by decide +kernel
theorem dX8_longest_109 : decode cX8_longest 109 = .ok (.goto (-91), 3) := by decide +kernel
theorem dX8_longest_112 : decode cX8_longest 112 = .ok (.iload_n 2, 1) := by decide +kernel
theorem dX8_longest_113 : decode cX8_longest 113 = .ok (.ireturn, 1) := by decide +kernel
theorem dX8_sign_0 : decode cX8_sign 0 = .ok (.iload_n 1, 1) := by decide +kernel
theorem dX8_sign_1 : decode cX8_sign 1 = .ok (.ifCond .ge 6, 3) := by decide +kernel
theorem dX8_sign_4 : decode cX8_sign 4 = .ok (.ldc 52, 2) := by decide +kernel
theorem dX8_sign_6 : decode cX8_sign 6 = .ok (.ireturn, 1) := by decide +kernel
theorem dX8_sign_7 : decode cX8_sign 7 = .ok (.iload_n 1, 1) := by decide +kernel
theorem dX8_sign_8 : decode cX8_sign 8 = .ok (.aload_n 0, 1) := by decide +kernel
theorem dX8_sign_9 : decode cX8_sign 9 = .ok (.invokevirtual 173, 3) := by decide +kernel
theorem dX8_sign_12 : decode cX8_sign 12 = .ok (.if_icmp .ge 12, 3) := by decide +kernel
theorem dX8_sign_15 : decode cX8_sign 15 = .ok (.aload_n 0, 1) := by decide +kernel
theorem dX8_sign_16 : decode cX8_sign 16 = .ok (.getfield 41, 3) := by decide +kernel
theorem dX8_sign_19 : decode cX8_sign 19 = .ok (.iload_n 1, 1) := by decide +kernel
theorem dX8_sign_20 : decode cX8_sign 20 = .ok (.iaload, 1) := by decide +kernel
theorem dX8_sign_21 : decode cX8_sign 21 = .ok (.goto 4, 3) := by decide +kernel
theorem dX8_sign_24 : decode cX8_sign 24 = .ok (.iconst (-1), 1) := by decide +kernel
theorem dX8_sign_25 : decode cX8_sign 25 = .ok (.ireturn, 1) := by decide +kernel
theorem dX8_same_0 : decode cX8_same 0 = .ok (.aload_n 0, 1) := by decide +kernel
theorem dX8_same_1 : decode cX8_same 1 = .ok (.iload_n 1, 1) := by decide +kernel
theorem dX8_same_2 : decode cX8_same 2 = .ok (.invokevirtual 158, 3) := by decide +kernel
theorem dX8_same_5 : decode cX8_same 5 = .ok (.ifCond .eq 16, 3) := by decide +kernel
theorem dX8_same_8 : decode cX8_same 8 = .ok (.aload_n 0, 1) := by decide +kernel
theorem dX8_same_9 : decode cX8_same 9 = .ok (.iload_n 2, 1) := by decide +kernel
theorem dX8_same_10 : decode cX8_same 10 = .ok (.invokevirtual 158, 3) := by decide +kernel
theorem dX8_same_13 : decode cX8_same 13 = .ok (.ifCond .eq 8, 3) := by decide +kernel
theorem dX8_same_16 : decode cX8_same 16 = .ok (.iload_n 1, 1) := by decide +kernel
theorem dX8_same_17 : decode cX8_same 17 = .ok (.iload_n 2, 1) := by decide +kernel
theorem dX8_same_18 : decode cX8_same 18 = .ok (.if_icmp .ne 6, 3) := by decide +kernel
theorem dX8_same_21 : decode cX8_same 21 = .ok (.ldc 88, 2) := by decide +kernel
theorem dX8_same_23 : decode cX8_same 23 = .ok (.ireturn, 1) := by decide +kernel
theorem dX8_same_24 : decode cX8_same 24 = .ok (.aload_n 0, 1) := by decide +kernel
theorem dX8_same_25 : decode cX8_same 25 = .ok (.getfield 23, 3) := by decide +kernel
theorem dX8_same_28 : decode cX8_same 28 = .ok (.bipush 15, 2) := by decide +kernel
theorem dX8_same_30 : decode cX8_same 30 = .ok (.iload_n 1, 1) := by decide +kernel
theorem dX8_same_31 : decode cX8_same 31 = .ok (.imul, 1) := by decide +kernel
theorem dX8_same_32 : decode cX8_same 32 = .ok (.iaload, 1) := by decide +kernel
theorem dX8_same_33 : decode cX8_same 33 = .ok (.aload_n 0, 1) := by decide +kernel
theorem dX8_same_34 : decode cX8_same 34 = .ok (.getfield 23, 3) := by decide +kernel
theorem dX8_same_37 : decode cX8_same 37 = .ok (.bipush 15, 2) := by decide +kernel
theorem dX8_same_39 : decode cX8_same 39 = .ok (.iload_n 2, 1) := by decide +kernel
theorem dX8_same_40 : decode cX8_same 40 = .ok (.imul, 1) := by decide +kernel
theorem dX8_same_41 : decode cX8_same 41 = .ok (.iaload, 1) := by decide +kernel
theorem dX8_same_42 : decode cX8_same 42 = .ok (.if_icmp .ne 35, 3) := by decide +kernel
theorem dX8_same_45 : decode cX8_same 45 = .ok (.aload_n 0, 1) := by decide +kernel
theorem dX8_same_46 : decode cX8_same 46 = .ok (.getfield 23, 3) := by decide +kernel
theorem dX8_same_49 : decode cX8_same 49 = .ok (.bipush 15, 2) := by decide +kernel
theorem dX8_same_51 : decode cX8_same 51 = .ok (.iload_n 1, 1) := by decide +kernel
theorem dX8_same_52 : decode cX8_same 52 = .ok (.imul, 1) := by decide +kernel
theorem dX8_same_53 : decode cX8_same 53 = .ok (.iconst 2, 1) := by decide +kernel
theorem dX8_same_54 : decode cX8_same 54 = .ok (.iadd, 1) := by decide +kernel
theorem dX8_same_55 : decode cX8_same 55 = .ok (.iaload, 1) := by decide +kernel
theorem dX8_same_56 : decode cX8_same 56 = .ok (.ifCond .ne 21, 3) := by decide +kernel
theorem dX8_same_59 : decode cX8_same 59 = .ok (.aload_n 0, 1) := by decide +kernel
theorem dX8_same_60 : decode cX8_same 60 = .ok (.getfield 23, 3) := by decide +kernel
theorem dX8_same_63 : decode cX8_same 63 = .ok (.bipush 15, 2) := by decide +kernel
theorem dX8_same_65 : decode cX8_same 65 = .ok (.iload_n 2, 1) := by decide +kernel
theorem dX8_same_66 : decode cX8_same 66 = .ok (.imul, 1) := by decide +kernel
theorem dX8_same_67 : decode cX8_same 67 = .ok (.iconst 2, 1) := by decide +kernel
theorem dX8_same_68 : decode cX8_same 68 = .ok (.iadd, 1) := by decide +kernel
theorem dX8_same_69 : decode cX8_same 69 = .ok (.iaload, 1) := by decide +kernel
theorem dX8_same_70 : decode cX8_same 70 = .ok (.ifCond .ne 7, 3) := by decide +kernel
theorem dX8_same_73 : decode cX8_same 73 = .ok (.iconst 1, 1) := by decide +kernel
theorem dX8_same_74 : decode cX8_same 74 = .ok (.goto 4, 3) := by decide +kernel
theorem dX8_same_77 : decode cX8_same 77 = .ok (.iconst 0, 1) := by decide +kernel
theorem dX8_same_78 : decode cX8_same 78 = .ok (.istore_n 3, 1) := by decide +kernel
theorem dX8_same_79 : decode cX8_same 79 = .ok (.iconst 0, 1) := by decide +kernel
theorem dX8_same_80 : decode cX8_same 80 = .ok (.istore 4, 2) := by decide +kernel
theorem dX8_same_82 : decode cX8_same 82 = .ok (.iload 4, 2) := by decide +kernel
theorem dX8_same_84 : decode cX8_same 84 = .ok (.aload_n 0, 1) := by decide +kernel
theorem dX8_same_85 : decode cX8_same 85 = .ok (.getfield 23, 3) := by decide +kernel
theorem dX8_same_88 : decode cX8_same 88 = .ok (.bipush 15, 2) := by decide +kernel
theorem dX8_same_90 : decode cX8_same 90 = .ok (.iload_n 1, 1) := by decide +kernel
theorem dX8_same_91 : decode cX8_same 91 = .ok (.imul, 1) := by decide +kernel
theorem dX8_same_92 : decode cX8_same 92 = .ok (.iaload, 1) := by decide +kernel
theorem dX8_same_93 : decode cX8_same 93 = .ok (.if_icmp .ge 50, 3) := by decide +kernel
theorem dX8_same_96 : decode cX8_same 96 = .ok (.iload_n 3, 1) := by decide +kernel
theorem dX8_same_97 : decode cX8_same 97 = .ok (.ifCond .eq 46, 3) := by decide +kernel
theorem dX8_same_100 : decode cX8_same 100 = .ok (.aload_n 0, 1) := by decide +kernel
theorem dX8_same_101 : decode cX8_same 101 = .ok (.getfield 23, 3) := by decide +kernel
theorem dX8_same_104 : decode cX8_same 104 = .ok (.bipush 15, 2) := by decide +kernel
theorem dX8_same_106 : decode cX8_same 106 = .ok (.iload_n 1, 1) := by decide +kernel
theorem dX8_same_107 : decode cX8_same 107 = .ok (.imul, 1) := by decide +kernel
theorem dX8_same_108 : decode cX8_same 108 = .ok (.iconst 3, 1) := by decide +kernel
theorem dX8_same_109 : decode cX8_same 109 = .ok (.iadd, 1) := by decide +kernel
theorem dX8_same_110 : decode cX8_same 110 = .ok (.iload 4, 2) := by decide +kernel
theorem dX8_same_112 : decode cX8_same 112 = .ok (.iadd, 1) := by decide +kernel
theorem dX8_same_113 : decode cX8_same 113 = .ok (.iaload, 1) := by decide +kernel
theorem dX8_same_114 : decode cX8_same 114 = .ok (.aload_n 0, 1) := by decide +kernel
theorem dX8_same_115 : decode cX8_same 115 = .ok (.getfield 23, 3) := by decide +kernel
theorem dX8_same_118 : decode cX8_same 118 = .ok (.bipush 15, 2) := by decide +kernel
theorem dX8_same_120 : decode cX8_same 120 = .ok (.iload_n 2, 1) := by decide +kernel
theorem dX8_same_121 : decode cX8_same 121 = .ok (.imul, 1) := by decide +kernel
theorem dX8_same_122 : decode cX8_same 122 = .ok (.iconst 3, 1) := by decide +kernel
theorem dX8_same_123 : decode cX8_same 123 = .ok (.iadd, 1) := by decide +kernel
theorem dX8_same_124 : decode cX8_same 124 = .ok (.iload 4, 2) := by decide +kernel
theorem dX8_same_126 : decode cX8_same 126 = .ok (.iadd, 1) := by decide +kernel
theorem dX8_same_127 : decode cX8_same 127 = .ok (.iaload, 1) := by decide +kernel
theorem dX8_same_128 : decode cX8_same 128 = .ok (.if_icmp .ne 7, 3) := by decide +kernel
theorem dX8_same_131 : decode cX8_same 131 = .ok (.iconst 1, 1) := by decide +kernel
theorem dX8_same_132 : decode cX8_same 132 = .ok (.goto 4, 3) := by decide +kernel
theorem dX8_same_135 : decode cX8_same 135 = .ok (.iconst 0, 1) := by decide +kernel
theorem dX8_same_136 : decode cX8_same 136 = .ok (.istore_n 3, 1) := by decide +kernel
theorem dX8_same_137 : decode cX8_same 137 = .ok (.iinc 4 1, 3) := by decide +kernel
theorem dX8_same_140 : decode cX8_same 140 = .ok (.goto (-58), 3) := by decide +kernel
theorem dX8_same_143 : decode cX8_same 143 = .ok (.iload_n 3, 1) := by decide +kernel
theorem dX8_same_144 : decode cX8_same 144 = .ok (.ifCond .eq 7, 3) := by decide +kernel
theorem dX8_same_147 : decode cX8_same 147 = .ok (.iconst 1, 1) := by decide +kernel
theorem dX8_same_148 : decode cX8_same 148 = .ok (.goto 4, 3) := by decide +kernel
theorem dX8_same_151 : decode cX8_same 151 = .ok (.iconst 0, 1) := by decide +kernel
theorem dX8_same_152 : decode cX8_same 152 = .ok (.ireturn, 1) := by decide +kernel
theorem dX8_keep_0 : decode cX8_keep 0 = .ok (.iload_n 1, 1) := by decide +kernel
theorem dX8_keep_1 : decode cX8_keep 1 = .ok (.iconst 0, 1) := by decide +kernel
theorem dX8_keep_2 : decode cX8_keep 2 = .ok (.iconst 1, 1) := by decide +kernel
theorem dX8_keep_3 : decode cX8_keep 3 = .ok (.invokestatic 44, 3) := by decide +kernel
theorem dX8_keep_6 : decode cX8_keep 6 = .ok (.ifCond .ne 6, 3) := by decide +kernel
theorem dX8_keep_9 : decode cX8_keep 9 = .ok (.ldc 88, 2) := by decide +kernel
theorem dX8_keep_11 : decode cX8_keep 11 = .ok (.ireturn, 1) := by decide +kernel
theorem dX8_keep_12 : decode cX8_keep 12 = .ok (.iconst 0, 1) := by decide +kernel
theorem dX8_keep_13 : decode cX8_keep 13 = .ok (.istore_n 2, 1) := by decide +kernel
theorem dX8_keep_14 : decode cX8_keep 14 = .ok (.iload_n 2, 1) := by decide +kernel
theorem dX8_keep_15 : decode cX8_keep 15 = .ok (.sipush 475, 3) := by decide +kernel
theorem dX8_keep_18 : decode cX8_keep 18 = .ok (.if_icmp .ge 27, 3) := by decide +kernel
theorem dX8_keep_21 : decode cX8_keep 21 = .ok (.aload_n 0, 1) := by decide +kernel
theorem dX8_keep_22 : decode cX8_keep 22 = .ok (.getfield 13, 3) := by decide +kernel
theorem dX8_keep_25 : decode cX8_keep 25 = .ok (.sipush 475, 3) := by decide +kernel
theorem dX8_keep_28 : decode cX8_keep 28 = .ok (.iload_n 1, 1) := by decide +kernel
theorem dX8_keep_29 : decode cX8_keep 29 = .ok (.imul, 1) := by decide +kernel
theorem dX8_keep_30 : decode cX8_keep 30 = .ok (.iload_n 2, 1) := by decide +kernel
theorem dX8_keep_31 : decode cX8_keep 31 = .ok (.iadd, 1) := by decide +kernel
theorem dX8_keep_32 : decode cX8_keep 32 = .ok (.aload_n 0, 1) := by decide +kernel
theorem dX8_keep_33 : decode cX8_keep 33 = .ok (.getfield 7, 3) := by decide +kernel
theorem dX8_keep_36 : decode cX8_keep 36 = .ok (.iload_n 2, 1) := by decide +kernel
theorem dX8_keep_37 : decode cX8_keep 37 = .ok (.iaload, 1) := by decide +kernel
theorem dX8_keep_38 : decode cX8_keep 38 = .ok (.iastore, 1) := by decide +kernel
theorem dX8_keep_39 : decode cX8_keep 39 = .ok (.iinc 2 1, 3) := by decide +kernel
theorem dX8_keep_42 : decode cX8_keep 42 = .ok (.goto (-28), 3) := by decide +kernel
theorem dX8_keep_45 : decode cX8_keep 45 = .ok (.aload_n 0, 1) := by decide +kernel
theorem dX8_keep_46 : decode cX8_keep 46 = .ok (.getfield 16, 3) := by decide +kernel
theorem dX8_keep_49 : decode cX8_keep 49 = .ok (.iload_n 1, 1) := by decide +kernel
theorem dX8_keep_50 : decode cX8_keep 50 = .ok (.iconst 1, 1) := by decide +kernel
theorem dX8_keep_51 : decode cX8_keep 51 = .ok (.bastore, 1) := by decide +kernel
theorem dX8_keep_52 : decode cX8_keep 52 = .ok (.aload_n 0, 1) := by decide +kernel
theorem dX8_keep_53 : decode cX8_keep 53 = .ok (.getfield 7, 3) := by decide +kernel
theorem dX8_keep_56 : decode cX8_keep 56 = .ok (.iconst 0, 1) := by decide +kernel
theorem dX8_keep_57 : decode cX8_keep 57 = .ok (.iaload, 1) := by decide +kernel
theorem dX8_keep_58 : decode cX8_keep 58 = .ok (.ireturn, 1) := by decide +kernel
theorem dX8_goBack_0 : decode cX8_goBack 0 = .ok (.iload_n 1, 1) := by decide +kernel
theorem dX8_goBack_1 : decode cX8_goBack 1 = .ok (.iconst 0, 1) := by decide +kernel
theorem dX8_goBack_2 : decode cX8_goBack 2 = .ok (.iconst 1, 1) := by decide +kernel
theorem dX8_goBack_3 : decode cX8_goBack 3 = .ok (.invokestatic 44, 3) := by decide +kernel
theorem dX8_goBack_6 : decode cX8_goBack 6 = .ok (.ifCond .ne 6, 3) := by decide +kernel
theorem dX8_goBack_9 : decode cX8_goBack 9 = .ok (.ldc 88, 2) := by decide +kernel
theorem dX8_goBack_11 : decode cX8_goBack 11 = .ok (.ireturn, 1) := by decide +kernel
theorem dX8_goBack_12 : decode cX8_goBack 12 = .ok (.aload_n 0, 1) := by decide +kernel
theorem dX8_goBack_13 : decode cX8_goBack 13 = .ok (.getfield 16, 3) := by decide +kernel
theorem dX8_goBack_16 : decode cX8_goBack 16 = .ok (.iload_n 1, 1) := by decide +kernel
theorem dX8_goBack_17 : decode cX8_goBack 17 = .ok (.baload, 1) := by decide +kernel
theorem dX8_goBack_18 : decode cX8_goBack 18 = .ok (.ifCond .ne 6, 3) := by decide +kernel
theorem dX8_goBack_21 : decode cX8_goBack 21 = .ok (.ldc 77, 2) := by decide +kernel
theorem dX8_goBack_23 : decode cX8_goBack 23 = .ok (.ireturn, 1) := by decide +kernel
theorem dX8_goBack_24 : decode cX8_goBack 24 = .ok (.iconst 0, 1) := by decide +kernel
theorem dX8_goBack_25 : decode cX8_goBack 25 = .ok (.istore_n 2, 1) := by decide +kernel
theorem dX8_goBack_26 : decode cX8_goBack 26 = .ok (.iload_n 2, 1) := by decide +kernel
theorem dX8_goBack_27 : decode cX8_goBack 27 = .ok (.sipush 475, 3) := by decide +kernel
theorem dX8_goBack_30 : decode cX8_goBack 30 = .ok (.if_icmp .ge 27, 3) := by decide +kernel
theorem dX8_goBack_33 : decode cX8_goBack 33 = .ok (.aload_n 0, 1) := by decide +kernel
theorem dX8_goBack_34 : decode cX8_goBack 34 = .ok (.getfield 7, 3) := by decide +kernel
theorem dX8_goBack_37 : decode cX8_goBack 37 = .ok (.iload_n 2, 1) := by decide +kernel
theorem dX8_goBack_38 : decode cX8_goBack 38 = .ok (.aload_n 0, 1) := by decide +kernel
theorem dX8_goBack_39 : decode cX8_goBack 39 = .ok (.getfield 13, 3) := by decide +kernel
theorem dX8_goBack_42 : decode cX8_goBack 42 = .ok (.sipush 475, 3) := by decide +kernel
theorem dX8_goBack_45 : decode cX8_goBack 45 = .ok (.iload_n 1, 1) := by decide +kernel
theorem dX8_goBack_46 : decode cX8_goBack 46 = .ok (.imul, 1) := by decide +kernel
theorem dX8_goBack_47 : decode cX8_goBack 47 = .ok (.iload_n 2, 1) := by decide +kernel
theorem dX8_goBack_48 : decode cX8_goBack 48 = .ok (.iadd, 1) := by decide +kernel
theorem dX8_goBack_49 : decode cX8_goBack 49 = .ok (.iaload, 1) := by decide +kernel
theorem dX8_goBack_50 : decode cX8_goBack 50 = .ok (.iastore, 1) := by decide +kernel
theorem dX8_goBack_51 : decode cX8_goBack 51 = .ok (.iinc 2 1, 3) := by decide +kernel
theorem dX8_goBack_54 : decode cX8_goBack 54 = .ok (.goto (-28), 3) := by decide +kernel
theorem dX8_goBack_57 : decode cX8_goBack 57 = .ok (.aload_n 0, 1) := by decide +kernel
theorem dX8_goBack_58 : decode cX8_goBack 58 = .ok (.getfield 7, 3) := by decide +kernel
theorem dX8_goBack_61 : decode cX8_goBack 61 = .ok (.iconst 0, 1) := by decide +kernel
theorem dX8_goBack_62 : decode cX8_goBack 62 = .ok (.iaload, 1) := by decide +kernel
theorem dX8_goBack_63 : decode cX8_goBack 63 = .ok (.ireturn, 1) := by decide +kernel
theorem dJ6_bitCount_0f7a4_0 : decode cJ6_bitCount_0f7a4 0 = .ok (.iload_n 0, 1) := by decide +kernel
theorem dJ6_bitCount_0f7a4_1 : decode cJ6_bitCount_0f7a4 1 = .ok (.iload_n 0, 1) := by decide +kernel
theorem dJ6_bitCount_0f7a4_2 : decode cJ6_bitCount_0f7a4 2 = .ok (.iconst 1, 1) := by decide +kernel
theorem dJ6_bitCount_0f7a4_3 : decode cJ6_bitCount_0f7a4 3 = .ok (.iushr, 1) := by decide +kernel
theorem dJ6_bitCount_0f7a4_4 : decode cJ6_bitCount_0f7a4 4 = .ok (.ldc_w 265, 3) := by decide +kernel
theorem dJ6_bitCount_0f7a4_7 : decode cJ6_bitCount_0f7a4 7 = .ok (.iand, 1) := by decide +kernel
theorem dJ6_bitCount_0f7a4_8 : decode cJ6_bitCount_0f7a4 8 = .ok (.isub, 1) := by decide +kernel
theorem dJ6_bitCount_0f7a4_9 : decode cJ6_bitCount_0f7a4 9 = .ok (.istore_n 0, 1) := by decide +kernel
theorem dJ6_bitCount_0f7a4_10 : decode cJ6_bitCount_0f7a4 10 = .ok (.iload_n 0, 1) := by decide +kernel
theorem dJ6_bitCount_0f7a4_11 : decode cJ6_bitCount_0f7a4 11 = .ok (.ldc_w 266, 3) := by decide +kernel
theorem dJ6_bitCount_0f7a4_14 : decode cJ6_bitCount_0f7a4 14 = .ok (.iand, 1) := by decide +kernel
theorem dJ6_bitCount_0f7a4_15 : decode cJ6_bitCount_0f7a4 15 = .ok (.iload_n 0, 1) := by decide +kernel
theorem dJ6_bitCount_0f7a4_16 : decode cJ6_bitCount_0f7a4 16 = .ok (.iconst 2, 1) := by decide +kernel
theorem dJ6_bitCount_0f7a4_17 : decode cJ6_bitCount_0f7a4 17 = .ok (.iushr, 1) := by decide +kernel
theorem dJ6_bitCount_0f7a4_18 : decode cJ6_bitCount_0f7a4 18 = .ok (.ldc_w 266, 3) := by decide +kernel
theorem dJ6_bitCount_0f7a4_21 : decode cJ6_bitCount_0f7a4 21 = .ok (.iand, 1) := by decide +kernel
theorem dJ6_bitCount_0f7a4_22 : decode cJ6_bitCount_0f7a4 22 = .ok (.iadd, 1) := by decide +kernel
theorem dJ6_bitCount_0f7a4_23 : decode cJ6_bitCount_0f7a4 23 = .ok (.istore_n 0, 1) := by decide +kernel
theorem dJ6_bitCount_0f7a4_24 : decode cJ6_bitCount_0f7a4 24 = .ok (.iload_n 0, 1) := by decide +kernel
theorem dJ6_bitCount_0f7a4_25 : decode cJ6_bitCount_0f7a4 25 = .ok (.iload_n 0, 1) := by decide +kernel
theorem dJ6_bitCount_0f7a4_26 : decode cJ6_bitCount_0f7a4 26 = .ok (.iconst 4, 1) := by decide +kernel
theorem dJ6_bitCount_0f7a4_27 : decode cJ6_bitCount_0f7a4 27 = .ok (.iushr, 1) := by decide +kernel
theorem dJ6_bitCount_0f7a4_28 : decode cJ6_bitCount_0f7a4 28 = .ok (.iadd, 1) := by decide +kernel
theorem dJ6_bitCount_0f7a4_29 : decode cJ6_bitCount_0f7a4 29 = .ok (.ldc_w 267, 3) := by decide +kernel
theorem dJ6_bitCount_0f7a4_32 : decode cJ6_bitCount_0f7a4 32 = .ok (.iand, 1) := by decide +kernel
theorem dJ6_bitCount_0f7a4_33 : decode cJ6_bitCount_0f7a4 33 = .ok (.istore_n 0, 1) := by decide +kernel
theorem dJ6_bitCount_0f7a4_34 : decode cJ6_bitCount_0f7a4 34 = .ok (.iload_n 0, 1) := by decide +kernel
theorem dJ6_bitCount_0f7a4_35 : decode cJ6_bitCount_0f7a4 35 = .ok (.iload_n 0, 1) := by decide +kernel
theorem dJ6_bitCount_0f7a4_36 : decode cJ6_bitCount_0f7a4 36 = .ok (.bipush 8, 2) := by decide +kernel
theorem dJ6_bitCount_0f7a4_38 : decode cJ6_bitCount_0f7a4 38 = .ok (.iushr, 1) := by decide +kernel
theorem dJ6_bitCount_0f7a4_39 : decode cJ6_bitCount_0f7a4 39 = .ok (.iadd, 1) := by decide +kernel
theorem dJ6_bitCount_0f7a4_40 : decode cJ6_bitCount_0f7a4 40 = .ok (.istore_n 0, 1) := by decide +kernel
theorem dJ6_bitCount_0f7a4_41 : decode cJ6_bitCount_0f7a4 41 = .ok (.iload_n 0, 1) := by decide +kernel
theorem dJ6_bitCount_0f7a4_42 : decode cJ6_bitCount_0f7a4 42 = .ok (.iload_n 0, 1) := by decide +kernel
theorem dJ6_bitCount_0f7a4_43 : decode cJ6_bitCount_0f7a4 43 = .ok (.bipush 16, 2) := by decide +kernel
theorem dJ6_bitCount_0f7a4_45 : decode cJ6_bitCount_0f7a4 45 = .ok (.iushr, 1) := by decide +kernel
theorem dJ6_bitCount_0f7a4_46 : decode cJ6_bitCount_0f7a4 46 = .ok (.iadd, 1) := by decide +kernel
theorem dJ6_bitCount_0f7a4_47 : decode cJ6_bitCount_0f7a4 47 = .ok (.istore_n 0, 1) := by decide +kernel
theorem dJ6_bitCount_0f7a4_48 : decode cJ6_bitCount_0f7a4 48 = .ok (.iload_n 0, 1) := by decide +kernel
theorem dJ6_bitCount_0f7a4_49 : decode cJ6_bitCount_0f7a4 49 = .ok (.bipush 63, 2) := by decide +kernel
theorem dJ6_bitCount_0f7a4_51 : decode cJ6_bitCount_0f7a4 51 = .ok (.iand, 1) := by decide +kernel
theorem dJ6_bitCount_0f7a4_52 : decode cJ6_bitCount_0f7a4 52 = .ok (.ireturn, 1) := by decide +kernel
theorem dL_law_0 : decode cL_law 0 = .ok (.new 7, 3) := by decide +kernel
theorem dL_law_3 : decode cL_law 3 = .ok (.dup, 1) := by decide +kernel
theorem dL_law_4 : decode cL_law 4 = .ok (.invokespecial 9, 3) := by decide +kernel
theorem dL_law_7 : decode cL_law 7 = .ok (.astore_n 1, 1) := by decide +kernel
theorem dL_law_8 : decode cL_law 8 = .ok (.new 10, 3) := by decide +kernel
theorem dL_law_11 : decode cL_law 11 = .ok (.dup, 1) := by decide +kernel
theorem dL_law_12 : decode cL_law 12 = .ok (.invokespecial 12, 3) := by decide +kernel
theorem dL_law_15 : decode cL_law 15 = .ok (.astore_n 2, 1) := by decide +kernel
theorem dL_law_16 : decode cL_law 16 = .ok (.iconst 0, 1) := by decide +kernel
theorem dL_law_17 : decode cL_law 17 = .ok (.istore_n 3, 1) := by decide +kernel
theorem dL_law_18 : decode cL_law 18 = .ok (.iload_n 3, 1) := by decide +kernel
theorem dL_law_19 : decode cL_law 19 = .ok (.aload_n 0, 1) := by decide +kernel
theorem dL_law_20 : decode cL_law 20 = .ok (.arraylength, 1) := by decide +kernel
theorem dL_law_21 : decode cL_law 21 = .ok (.iconst 4, 1) := by decide +kernel
theorem dL_law_22 : decode cL_law 22 = .ok (.isub, 1) := by decide +kernel
theorem dL_law_23 : decode cL_law 23 = .ok (.if_icmp .gt 725, 3) := by decide +kernel
theorem dL_law_26 : decode cL_law 26 = .ok (.aload_n 0, 1) := by decide +kernel
theorem dL_law_27 : decode cL_law 27 = .ok (.iload_n 3, 1) := by decide +kernel
theorem dL_law_28 : decode cL_law 28 = .ok (.iaload, 1) := by decide +kernel
theorem dL_law_29 : decode cL_law 29 = .ok (.bipush 31, 2) := by decide +kernel
theorem dL_law_31 : decode cL_law 31 = .ok (.iand, 1) := by decide +kernel
theorem dL_law_32 : decode cL_law 32 = .ok (.tableswitch 710 0 21 #[104, 127, 160, 173, 196, 219, 252, 275, 318, 351, 394, 417, 430, 463, 496, 519, 552, 585, 608, 631, 664, 687], 104) := by decide +kernel
theorem dL_law_136 : decode cL_law 136 = .ok (.aload_n 1, 1) := by decide +kernel
theorem dL_law_137 : decode cL_law 137 = .ok (.aload_n 0, 1) := by decide +kernel
theorem dL_law_138 : decode cL_law 138 = .ok (.iload_n 3, 1) := by decide +kernel
theorem dL_law_139 : decode cL_law 139 = .ok (.iconst 1, 1) := by decide +kernel
theorem dL_law_140 : decode cL_law 140 = .ok (.iadd, 1) := by decide +kernel
theorem dL_law_141 : decode cL_law 141 = .ok (.iaload, 1) := by decide +kernel
theorem dL_law_142 : decode cL_law 142 = .ok (.invokevirtual 13, 3) := by decide +kernel
theorem dL_law_145 : decode cL_law 145 = .ok (.aload_n 2, 1) := by decide +kernel
theorem dL_law_146 : decode cL_law 146 = .ok (.aload_n 0, 1) := by decide +kernel
theorem dL_law_147 : decode cL_law 147 = .ok (.iload_n 3, 1) := by decide +kernel
theorem dL_law_148 : decode cL_law 148 = .ok (.iconst 1, 1) := by decide +kernel
theorem dL_law_149 : decode cL_law 149 = .ok (.iadd, 1) := by decide +kernel
theorem dL_law_150 : decode cL_law 150 = .ok (.iaload, 1) := by decide +kernel
theorem dL_law_151 : decode cL_law 151 = .ok (.invokevirtual 17, 3) := by decide +kernel
theorem dL_law_154 : decode cL_law 154 = .ok (.if_icmp .eq 588, 3) := by decide +kernel
theorem dL_law_157 : decode cL_law 157 = .ok (.iconst 0, 1) := by decide +kernel
theorem dL_law_158 : decode cL_law 158 = .ok (.ireturn, 1) := by decide +kernel
theorem dL_law_159 : decode cL_law 159 = .ok (.aload_n 1, 1) := by decide +kernel
theorem dL_law_160 : decode cL_law 160 = .ok (.aload_n 0, 1) := by decide +kernel
theorem dL_law_161 : decode cL_law 161 = .ok (.iload_n 3, 1) := by decide +kernel
theorem dL_law_162 : decode cL_law 162 = .ok (.iconst 1, 1) := by decide +kernel
theorem dL_law_163 : decode cL_law 163 = .ok (.iadd, 1) := by decide +kernel
theorem dL_law_164 : decode cL_law 164 = .ok (.iaload, 1) := by decide +kernel
theorem dL_law_165 : decode cL_law 165 = .ok (.aload_n 0, 1) := by decide +kernel
theorem dL_law_166 : decode cL_law 166 = .ok (.iload_n 3, 1) := by decide +kernel
theorem dL_law_167 : decode cL_law 167 = .ok (.iconst 2, 1) := by decide +kernel
theorem dL_law_168 : decode cL_law 168 = .ok (.iadd, 1) := by decide +kernel
theorem dL_law_169 : decode cL_law 169 = .ok (.iaload, 1) := by decide +kernel
theorem dL_law_170 : decode cL_law 170 = .ok (.invokevirtual 18, 3) := by decide +kernel
theorem dL_law_173 : decode cL_law 173 = .ok (.aload_n 2, 1) := by decide +kernel
theorem dL_law_174 : decode cL_law 174 = .ok (.aload_n 0, 1) := by decide +kernel
theorem dL_law_175 : decode cL_law 175 = .ok (.iload_n 3, 1) := by decide +kernel
theorem dL_law_176 : decode cL_law 176 = .ok (.iconst 1, 1) := by decide +kernel
theorem dL_law_177 : decode cL_law 177 = .ok (.iadd, 1) := by decide +kernel
theorem dL_law_178 : decode cL_law 178 = .ok (.iaload, 1) := by decide +kernel
theorem dL_law_179 : decode cL_law 179 = .ok (.aload_n 0, 1) := by decide +kernel
theorem dL_law_180 : decode cL_law 180 = .ok (.iload_n 3, 1) := by decide +kernel
theorem dL_law_181 : decode cL_law 181 = .ok (.iconst 2, 1) := by decide +kernel
theorem dL_law_182 : decode cL_law 182 = .ok (.iadd, 1) := by decide +kernel
theorem dL_law_183 : decode cL_law 183 = .ok (.iaload, 1) := by decide +kernel
theorem dL_law_184 : decode cL_law 184 = .ok (.invokevirtual 22, 3) := by decide +kernel
theorem dL_law_187 : decode cL_law 187 = .ok (.if_icmp .eq 555, 3) := by decide +kernel
theorem dL_law_190 : decode cL_law 190 = .ok (.iconst 0, 1) := by decide +kernel
theorem dL_law_191 : decode cL_law 191 = .ok (.ireturn, 1) := by decide +kernel
theorem dL_law_192 : decode cL_law 192 = .ok (.aload_n 1, 1) := by decide +kernel
theorem dL_law_193 : decode cL_law 193 = .ok (.invokevirtual 23, 3) := by decide +kernel
theorem dL_law_196 : decode cL_law 196 = .ok (.aload_n 2, 1) := by decide +kernel
theorem dL_law_197 : decode cL_law 197 = .ok (.invokevirtual 27, 3) := by decide +kernel
theorem dL_law_200 : decode cL_law 200 = .ok (.if_icmp .eq 542, 3) := by decide +kernel
theorem dL_law_203 : decode cL_law 203 = .ok (.iconst 0, 1) := by decide +kernel
theorem dL_law_204 : decode cL_law 204 = .ok (.ireturn, 1) := by decide +kernel
theorem dL_law_205 : decode cL_law 205 = .ok (.aload_n 1, 1) := by decide +kernel
theorem dL_law_206 : decode cL_law 206 = .ok (.aload_n 0, 1) := by decide +kernel
theorem dL_law_207 : decode cL_law 207 = .ok (.iload_n 3, 1) := by decide +kernel
theorem dL_law_208 : decode cL_law 208 = .ok (.iconst 1, 1) := by decide +kernel
theorem dL_law_209 : decode cL_law 209 = .ok (.iadd, 1) := by decide +kernel
theorem dL_law_210 : decode cL_law 210 = .ok (.iaload, 1) := by decide +kernel
theorem dL_law_211 : decode cL_law 211 = .ok (.invokevirtual 28, 3) := by decide +kernel
theorem dL_law_214 : decode cL_law 214 = .ok (.aload_n 2, 1) := by decide +kernel
theorem dL_law_215 : decode cL_law 215 = .ok (.aload_n 0, 1) := by decide +kernel
theorem dL_law_216 : decode cL_law 216 = .ok (.iload_n 3, 1) := by decide +kernel
theorem dL_law_217 : decode cL_law 217 = .ok (.iconst 1, 1) := by decide +kernel
theorem dL_law_218 : decode cL_law 218 = .ok (.iadd, 1) := by decide +kernel
theorem dL_law_219 : decode cL_law 219 = .ok (.iaload, 1) := by decide +kernel
theorem dL_law_220 : decode cL_law 220 = .ok (.invokevirtual 31, 3) := by decide +kernel
theorem dL_law_223 : decode cL_law 223 = .ok (.if_icmp .eq 519, 3) := by decide +kernel
theorem dL_law_226 : decode cL_law 226 = .ok (.iconst 0, 1) := by decide +kernel
theorem dL_law_227 : decode cL_law 227 = .ok (.ireturn, 1) := by decide +kernel
theorem dL_law_228 : decode cL_law 228 = .ok (.aload_n 1, 1) := by decide +kernel
theorem dL_law_229 : decode cL_law 229 = .ok (.aload_n 0, 1) := by decide +kernel
theorem dL_law_230 : decode cL_law 230 = .ok (.iload_n 3, 1) := by decide +kernel
theorem dL_law_231 : decode cL_law 231 = .ok (.iconst 1, 1) := by decide +kernel
theorem dL_law_232 : decode cL_law 232 = .ok (.iadd, 1) := by decide +kernel
theorem dL_law_233 : decode cL_law 233 = .ok (.iaload, 1) := by decide +kernel
theorem dL_law_234 : decode cL_law 234 = .ok (.invokevirtual 32, 3) := by decide +kernel
theorem dL_law_237 : decode cL_law 237 = .ok (.aload_n 2, 1) := by decide +kernel
theorem dL_law_238 : decode cL_law 238 = .ok (.aload_n 0, 1) := by decide +kernel
theorem dL_law_239 : decode cL_law 239 = .ok (.iload_n 3, 1) := by decide +kernel
theorem dL_law_240 : decode cL_law 240 = .ok (.iconst 1, 1) := by decide +kernel
theorem dL_law_241 : decode cL_law 241 = .ok (.iadd, 1) := by decide +kernel
theorem dL_law_242 : decode cL_law 242 = .ok (.iaload, 1) := by decide +kernel
theorem dL_law_243 : decode cL_law 243 = .ok (.invokevirtual 35, 3) := by decide +kernel
theorem dL_law_246 : decode cL_law 246 = .ok (.if_icmp .eq 496, 3) := by decide +kernel
theorem dL_law_249 : decode cL_law 249 = .ok (.iconst 0, 1) := by decide +kernel
theorem dL_law_250 : decode cL_law 250 = .ok (.ireturn, 1) := by decide +kernel
theorem dL_law_251 : decode cL_law 251 = .ok (.aload_n 1, 1) := by decide +kernel
theorem dL_law_252 : decode cL_law 252 = .ok (.aload_n 0, 1) := by decide +kernel
theorem dL_law_253 : decode cL_law 253 = .ok (.iload_n 3, 1) := by decide +kernel
theorem dL_law_254 : decode cL_law 254 = .ok (.iconst 1, 1) := by decide +kernel
theorem dL_law_255 : decode cL_law 255 = .ok (.iadd, 1) := by decide +kernel
theorem dL_law_256 : decode cL_law 256 = .ok (.iaload, 1) := by decide +kernel
theorem dL_law_257 : decode cL_law 257 = .ok (.aload_n 0, 1) := by decide +kernel
theorem dL_law_258 : decode cL_law 258 = .ok (.iload_n 3, 1) := by decide +kernel
theorem dL_law_259 : decode cL_law 259 = .ok (.iconst 2, 1) := by decide +kernel
theorem dL_law_260 : decode cL_law 260 = .ok (.iadd, 1) := by decide +kernel
theorem dL_law_261 : decode cL_law 261 = .ok (.iaload, 1) := by decide +kernel
theorem dL_law_262 : decode cL_law 262 = .ok (.invokevirtual 36, 3) := by decide +kernel
theorem dL_law_265 : decode cL_law 265 = .ok (.aload_n 2, 1) := by decide +kernel
theorem dL_law_266 : decode cL_law 266 = .ok (.aload_n 0, 1) := by decide +kernel
theorem dL_law_267 : decode cL_law 267 = .ok (.iload_n 3, 1) := by decide +kernel
theorem dL_law_268 : decode cL_law 268 = .ok (.iconst 1, 1) := by decide +kernel
theorem dL_law_269 : decode cL_law 269 = .ok (.iadd, 1) := by decide +kernel
theorem dL_law_270 : decode cL_law 270 = .ok (.iaload, 1) := by decide +kernel
theorem dL_law_271 : decode cL_law 271 = .ok (.aload_n 0, 1) := by decide +kernel
theorem dL_law_272 : decode cL_law 272 = .ok (.iload_n 3, 1) := by decide +kernel
theorem dL_law_273 : decode cL_law 273 = .ok (.iconst 2, 1) := by decide +kernel
theorem dL_law_274 : decode cL_law 274 = .ok (.iadd, 1) := by decide +kernel
theorem dL_law_275 : decode cL_law 275 = .ok (.iaload, 1) := by decide +kernel
theorem dL_law_276 : decode cL_law 276 = .ok (.invokevirtual 39, 3) := by decide +kernel
theorem dL_law_279 : decode cL_law 279 = .ok (.if_icmp .eq 463, 3) := by decide +kernel
theorem dL_law_282 : decode cL_law 282 = .ok (.iconst 0, 1) := by decide +kernel
theorem dL_law_283 : decode cL_law 283 = .ok (.ireturn, 1) := by decide +kernel
theorem dL_law_284 : decode cL_law 284 = .ok (.aload_n 1, 1) := by decide +kernel
theorem dL_law_285 : decode cL_law 285 = .ok (.aload_n 0, 1) := by decide +kernel
theorem dL_law_286 : decode cL_law 286 = .ok (.iload_n 3, 1) := by decide +kernel
theorem dL_law_287 : decode cL_law 287 = .ok (.iconst 1, 1) := by decide +kernel
theorem dL_law_288 : decode cL_law 288 = .ok (.iadd, 1) := by decide +kernel
theorem dL_law_289 : decode cL_law 289 = .ok (.iaload, 1) := by decide +kernel
theorem dL_law_290 : decode cL_law 290 = .ok (.invokevirtual 40, 3) := by decide +kernel
theorem dL_law_293 : decode cL_law 293 = .ok (.aload_n 2, 1) := by decide +kernel
theorem dL_law_294 : decode cL_law 294 = .ok (.aload_n 0, 1) := by decide +kernel
theorem dL_law_295 : decode cL_law 295 = .ok (.iload_n 3, 1) := by decide +kernel
theorem dL_law_296 : decode cL_law 296 = .ok (.iconst 1, 1) := by decide +kernel
theorem dL_law_297 : decode cL_law 297 = .ok (.iadd, 1) := by decide +kernel
theorem dL_law_298 : decode cL_law 298 = .ok (.iaload, 1) := by decide +kernel
theorem dL_law_299 : decode cL_law 299 = .ok (.invokevirtual 43, 3) := by decide +kernel
theorem dL_law_302 : decode cL_law 302 = .ok (.if_icmp .eq 440, 3) := by decide +kernel
theorem dL_law_305 : decode cL_law 305 = .ok (.iconst 0, 1) := by decide +kernel
theorem dL_law_306 : decode cL_law 306 = .ok (.ireturn, 1) := by decide +kernel
theorem dL_law_307 : decode cL_law 307 = .ok (.aload_n 1, 1) := by decide +kernel
theorem dL_law_308 : decode cL_law 308 = .ok (.aload_n 0, 1) := by decide +kernel
theorem dL_law_309 : decode cL_law 309 = .ok (.iload_n 3, 1) := by decide +kernel
theorem dL_law_310 : decode cL_law 310 = .ok (.iconst 1, 1) := by decide +kernel
theorem dL_law_311 : decode cL_law 311 = .ok (.iadd, 1) := by decide +kernel
theorem dL_law_312 : decode cL_law 312 = .ok (.iaload, 1) := by decide +kernel
theorem dL_law_313 : decode cL_law 313 = .ok (.aload_n 0, 1) := by decide +kernel
theorem dL_law_314 : decode cL_law 314 = .ok (.iload_n 3, 1) := by decide +kernel
theorem dL_law_315 : decode cL_law 315 = .ok (.iconst 2, 1) := by decide +kernel
theorem dL_law_316 : decode cL_law 316 = .ok (.iadd, 1) := by decide +kernel
theorem dL_law_317 : decode cL_law 317 = .ok (.iaload, 1) := by decide +kernel
theorem dL_law_318 : decode cL_law 318 = .ok (.aload_n 0, 1) := by decide +kernel
theorem dL_law_319 : decode cL_law 319 = .ok (.iload_n 3, 1) := by decide +kernel
theorem dL_law_320 : decode cL_law 320 = .ok (.iconst 3, 1) := by decide +kernel
theorem dL_law_321 : decode cL_law 321 = .ok (.iadd, 1) := by decide +kernel
theorem dL_law_322 : decode cL_law 322 = .ok (.iaload, 1) := by decide +kernel
theorem dL_law_323 : decode cL_law 323 = .ok (.invokevirtual 44, 3) := by decide +kernel
theorem dL_law_326 : decode cL_law 326 = .ok (.aload_n 2, 1) := by decide +kernel
theorem dL_law_327 : decode cL_law 327 = .ok (.aload_n 0, 1) := by decide +kernel
theorem dL_law_328 : decode cL_law 328 = .ok (.iload_n 3, 1) := by decide +kernel
theorem dL_law_329 : decode cL_law 329 = .ok (.iconst 1, 1) := by decide +kernel
theorem dL_law_330 : decode cL_law 330 = .ok (.iadd, 1) := by decide +kernel
theorem dL_law_331 : decode cL_law 331 = .ok (.iaload, 1) := by decide +kernel
theorem dL_law_332 : decode cL_law 332 = .ok (.aload_n 0, 1) := by decide +kernel
theorem dL_law_333 : decode cL_law 333 = .ok (.iload_n 3, 1) := by decide +kernel
theorem dL_law_334 : decode cL_law 334 = .ok (.iconst 2, 1) := by decide +kernel
theorem dL_law_335 : decode cL_law 335 = .ok (.iadd, 1) := by decide +kernel
theorem dL_law_336 : decode cL_law 336 = .ok (.iaload, 1) := by decide +kernel
theorem dL_law_337 : decode cL_law 337 = .ok (.aload_n 0, 1) := by decide +kernel
theorem dL_law_338 : decode cL_law 338 = .ok (.iload_n 3, 1) := by decide +kernel
theorem dL_law_339 : decode cL_law 339 = .ok (.iconst 3, 1) := by decide +kernel
theorem dL_law_340 : decode cL_law 340 = .ok (.iadd, 1) := by decide +kernel
theorem dL_law_341 : decode cL_law 341 = .ok (.iaload, 1) := by decide +kernel
theorem dL_law_342 : decode cL_law 342 = .ok (.invokevirtual 48, 3) := by decide +kernel
theorem dL_law_345 : decode cL_law 345 = .ok (.if_icmp .eq 397, 3) := by decide +kernel
theorem dL_law_348 : decode cL_law 348 = .ok (.iconst 0, 1) := by decide +kernel
theorem dL_law_349 : decode cL_law 349 = .ok (.ireturn, 1) := by decide +kernel
theorem dL_law_350 : decode cL_law 350 = .ok (.aload_n 1, 1) := by decide +kernel
theorem dL_law_351 : decode cL_law 351 = .ok (.aload_n 0, 1) := by decide +kernel
theorem dL_law_352 : decode cL_law 352 = .ok (.iload_n 3, 1) := by decide +kernel
theorem dL_law_353 : decode cL_law 353 = .ok (.iconst 1, 1) := by decide +kernel
theorem dL_law_354 : decode cL_law 354 = .ok (.iadd, 1) := by decide +kernel
theorem dL_law_355 : decode cL_law 355 = .ok (.iaload, 1) := by decide +kernel
theorem dL_law_356 : decode cL_law 356 = .ok (.aload_n 0, 1) := by decide +kernel
theorem dL_law_357 : decode cL_law 357 = .ok (.iload_n 3, 1) := by decide +kernel
theorem dL_law_358 : decode cL_law 358 = .ok (.iconst 2, 1) := by decide +kernel
theorem dL_law_359 : decode cL_law 359 = .ok (.iadd, 1) := by decide +kernel
theorem dL_law_360 : decode cL_law 360 = .ok (.iaload, 1) := by decide +kernel
theorem dL_law_361 : decode cL_law 361 = .ok (.invokevirtual 49, 3) := by decide +kernel
theorem dL_law_364 : decode cL_law 364 = .ok (.aload_n 2, 1) := by decide +kernel
theorem dL_law_365 : decode cL_law 365 = .ok (.aload_n 0, 1) := by decide +kernel
theorem dL_law_366 : decode cL_law 366 = .ok (.iload_n 3, 1) := by decide +kernel
theorem dL_law_367 : decode cL_law 367 = .ok (.iconst 1, 1) := by decide +kernel
theorem dL_law_368 : decode cL_law 368 = .ok (.iadd, 1) := by decide +kernel
theorem dL_law_369 : decode cL_law 369 = .ok (.iaload, 1) := by decide +kernel
theorem dL_law_370 : decode cL_law 370 = .ok (.aload_n 0, 1) := by decide +kernel
theorem dL_law_371 : decode cL_law 371 = .ok (.iload_n 3, 1) := by decide +kernel
theorem dL_law_372 : decode cL_law 372 = .ok (.iconst 2, 1) := by decide +kernel
theorem dL_law_373 : decode cL_law 373 = .ok (.iadd, 1) := by decide +kernel
theorem dL_law_374 : decode cL_law 374 = .ok (.iaload, 1) := by decide +kernel
theorem dL_law_375 : decode cL_law 375 = .ok (.invokevirtual 52, 3) := by decide +kernel
theorem dL_law_378 : decode cL_law 378 = .ok (.if_icmp .eq 364, 3) := by decide +kernel
theorem dL_law_381 : decode cL_law 381 = .ok (.iconst 0, 1) := by decide +kernel
theorem dL_law_382 : decode cL_law 382 = .ok (.ireturn, 1) := by decide +kernel
theorem dL_law_383 : decode cL_law 383 = .ok (.aload_n 1, 1) := by decide +kernel
theorem dL_law_384 : decode cL_law 384 = .ok (.aload_n 0, 1) := by decide +kernel
theorem dL_law_385 : decode cL_law 385 = .ok (.iload_n 3, 1) := by decide +kernel
theorem dL_law_386 : decode cL_law 386 = .ok (.iconst 1, 1) := by decide +kernel
theorem dL_law_387 : decode cL_law 387 = .ok (.iadd, 1) := by decide +kernel
theorem dL_law_388 : decode cL_law 388 = .ok (.iaload, 1) := by decide +kernel
theorem dL_law_389 : decode cL_law 389 = .ok (.aload_n 0, 1) := by decide +kernel
theorem dL_law_390 : decode cL_law 390 = .ok (.iload_n 3, 1) := by decide +kernel
theorem dL_law_391 : decode cL_law 391 = .ok (.iconst 2, 1) := by decide +kernel
theorem dL_law_392 : decode cL_law 392 = .ok (.iadd, 1) := by decide +kernel
theorem dL_law_393 : decode cL_law 393 = .ok (.iaload, 1) := by decide +kernel
theorem dL_law_394 : decode cL_law 394 = .ok (.aload_n 0, 1) := by decide +kernel
theorem dL_law_395 : decode cL_law 395 = .ok (.iload_n 3, 1) := by decide +kernel
theorem dL_law_396 : decode cL_law 396 = .ok (.iconst 3, 1) := by decide +kernel
theorem dL_law_397 : decode cL_law 397 = .ok (.iadd, 1) := by decide +kernel
theorem dL_law_398 : decode cL_law 398 = .ok (.iaload, 1) := by decide +kernel
theorem dL_law_399 : decode cL_law 399 = .ok (.invokevirtual 53, 3) := by decide +kernel
theorem dL_law_402 : decode cL_law 402 = .ok (.aload_n 2, 1) := by decide +kernel
theorem dL_law_403 : decode cL_law 403 = .ok (.aload_n 0, 1) := by decide +kernel
theorem dL_law_404 : decode cL_law 404 = .ok (.iload_n 3, 1) := by decide +kernel
theorem dL_law_405 : decode cL_law 405 = .ok (.iconst 1, 1) := by decide +kernel
theorem dL_law_406 : decode cL_law 406 = .ok (.iadd, 1) := by decide +kernel
theorem dL_law_407 : decode cL_law 407 = .ok (.iaload, 1) := by decide +kernel
theorem dL_law_408 : decode cL_law 408 = .ok (.aload_n 0, 1) := by decide +kernel
theorem dL_law_409 : decode cL_law 409 = .ok (.iload_n 3, 1) := by decide +kernel
theorem dL_law_410 : decode cL_law 410 = .ok (.iconst 2, 1) := by decide +kernel
theorem dL_law_411 : decode cL_law 411 = .ok (.iadd, 1) := by decide +kernel
theorem dL_law_412 : decode cL_law 412 = .ok (.iaload, 1) := by decide +kernel
theorem dL_law_413 : decode cL_law 413 = .ok (.aload_n 0, 1) := by decide +kernel
theorem dL_law_414 : decode cL_law 414 = .ok (.iload_n 3, 1) := by decide +kernel
theorem dL_law_415 : decode cL_law 415 = .ok (.iconst 3, 1) := by decide +kernel
theorem dL_law_416 : decode cL_law 416 = .ok (.iadd, 1) := by decide +kernel
theorem dL_law_417 : decode cL_law 417 = .ok (.iaload, 1) := by decide +kernel
theorem dL_law_418 : decode cL_law 418 = .ok (.invokevirtual 56, 3) := by decide +kernel
theorem dL_law_421 : decode cL_law 421 = .ok (.if_icmp .eq 321, 3) := by decide +kernel
theorem dL_law_424 : decode cL_law 424 = .ok (.iconst 0, 1) := by decide +kernel
theorem dL_law_425 : decode cL_law 425 = .ok (.ireturn, 1) := by decide +kernel
theorem dL_law_426 : decode cL_law 426 = .ok (.aload_n 1, 1) := by decide +kernel
theorem dL_law_427 : decode cL_law 427 = .ok (.aload_n 0, 1) := by decide +kernel
theorem dL_law_428 : decode cL_law 428 = .ok (.iload_n 3, 1) := by decide +kernel
theorem dL_law_429 : decode cL_law 429 = .ok (.iconst 1, 1) := by decide +kernel
theorem dL_law_430 : decode cL_law 430 = .ok (.iadd, 1) := by decide +kernel
theorem dL_law_431 : decode cL_law 431 = .ok (.iaload, 1) := by decide +kernel
theorem dL_law_432 : decode cL_law 432 = .ok (.invokevirtual 57, 3) := by decide +kernel
theorem dL_law_435 : decode cL_law 435 = .ok (.aload_n 2, 1) := by decide +kernel
theorem dL_law_436 : decode cL_law 436 = .ok (.aload_n 0, 1) := by decide +kernel
theorem dL_law_437 : decode cL_law 437 = .ok (.iload_n 3, 1) := by decide +kernel
theorem dL_law_438 : decode cL_law 438 = .ok (.iconst 1, 1) := by decide +kernel
theorem dL_law_439 : decode cL_law 439 = .ok (.iadd, 1) := by decide +kernel
theorem dL_law_440 : decode cL_law 440 = .ok (.iaload, 1) := by decide +kernel
theorem dL_law_441 : decode cL_law 441 = .ok (.invokevirtual 60, 3) := by decide +kernel
theorem dL_law_444 : decode cL_law 444 = .ok (.if_icmp .eq 298, 3) := by decide +kernel
theorem dL_law_447 : decode cL_law 447 = .ok (.iconst 0, 1) := by decide +kernel
theorem dL_law_448 : decode cL_law 448 = .ok (.ireturn, 1) := by decide +kernel
theorem dL_law_449 : decode cL_law 449 = .ok (.aload_n 1, 1) := by decide +kernel
theorem dL_law_450 : decode cL_law 450 = .ok (.invokevirtual 61, 3) := by decide +kernel
theorem dL_law_453 : decode cL_law 453 = .ok (.aload_n 2, 1) := by decide +kernel
theorem dL_law_454 : decode cL_law 454 = .ok (.invokevirtual 64, 3) := by decide +kernel
theorem dL_law_457 : decode cL_law 457 = .ok (.if_icmp .eq 285, 3) := by decide +kernel
theorem dL_law_460 : decode cL_law 460 = .ok (.iconst 0, 1) := by decide +kernel
theorem dL_law_461 : decode cL_law 461 = .ok (.ireturn, 1) := by decide +kernel
theorem dL_law_462 : decode cL_law 462 = .ok (.aload_n 1, 1) := by decide +kernel
theorem dL_law_463 : decode cL_law 463 = .ok (.aload_n 0, 1) := by decide +kernel
theorem dL_law_464 : decode cL_law 464 = .ok (.iload_n 3, 1) := by decide +kernel
theorem dL_law_465 : decode cL_law 465 = .ok (.iconst 1, 1) := by decide +kernel
theorem dL_law_466 : decode cL_law 466 = .ok (.iadd, 1) := by decide +kernel
theorem dL_law_467 : decode cL_law 467 = .ok (.iaload, 1) := by decide +kernel
theorem dL_law_468 : decode cL_law 468 = .ok (.aload_n 0, 1) := by decide +kernel
theorem dL_law_469 : decode cL_law 469 = .ok (.iload_n 3, 1) := by decide +kernel
theorem dL_law_470 : decode cL_law 470 = .ok (.iconst 2, 1) := by decide +kernel
theorem dL_law_471 : decode cL_law 471 = .ok (.iadd, 1) := by decide +kernel
theorem dL_law_472 : decode cL_law 472 = .ok (.iaload, 1) := by decide +kernel
theorem dL_law_473 : decode cL_law 473 = .ok (.invokevirtual 65, 3) := by decide +kernel
theorem dL_law_476 : decode cL_law 476 = .ok (.aload_n 2, 1) := by decide +kernel
theorem dL_law_477 : decode cL_law 477 = .ok (.aload_n 0, 1) := by decide +kernel
theorem dL_law_478 : decode cL_law 478 = .ok (.iload_n 3, 1) := by decide +kernel
theorem dL_law_479 : decode cL_law 479 = .ok (.iconst 1, 1) := by decide +kernel
theorem dL_law_480 : decode cL_law 480 = .ok (.iadd, 1) := by decide +kernel
theorem dL_law_481 : decode cL_law 481 = .ok (.iaload, 1) := by decide +kernel
theorem dL_law_482 : decode cL_law 482 = .ok (.aload_n 0, 1) := by decide +kernel
theorem dL_law_483 : decode cL_law 483 = .ok (.iload_n 3, 1) := by decide +kernel
theorem dL_law_484 : decode cL_law 484 = .ok (.iconst 2, 1) := by decide +kernel
theorem dL_law_485 : decode cL_law 485 = .ok (.iadd, 1) := by decide +kernel
theorem dL_law_486 : decode cL_law 486 = .ok (.iaload, 1) := by decide +kernel
theorem dL_law_487 : decode cL_law 487 = .ok (.invokevirtual 68, 3) := by decide +kernel
theorem dL_law_490 : decode cL_law 490 = .ok (.if_icmp .eq 252, 3) := by decide +kernel
theorem dL_law_493 : decode cL_law 493 = .ok (.iconst 0, 1) := by decide +kernel
theorem dL_law_494 : decode cL_law 494 = .ok (.ireturn, 1) := by decide +kernel
theorem dL_law_495 : decode cL_law 495 = .ok (.aload_n 1, 1) := by decide +kernel
theorem dL_law_496 : decode cL_law 496 = .ok (.aload_n 0, 1) := by decide +kernel
theorem dL_law_497 : decode cL_law 497 = .ok (.iload_n 3, 1) := by decide +kernel
theorem dL_law_498 : decode cL_law 498 = .ok (.iconst 1, 1) := by decide +kernel
theorem dL_law_499 : decode cL_law 499 = .ok (.iadd, 1) := by decide +kernel
theorem dL_law_500 : decode cL_law 500 = .ok (.iaload, 1) := by decide +kernel
theorem dL_law_501 : decode cL_law 501 = .ok (.aload_n 0, 1) := by decide +kernel
theorem dL_law_502 : decode cL_law 502 = .ok (.iload_n 3, 1) := by decide +kernel
theorem dL_law_503 : decode cL_law 503 = .ok (.iconst 2, 1) := by decide +kernel
theorem dL_law_504 : decode cL_law 504 = .ok (.iadd, 1) := by decide +kernel
theorem dL_law_505 : decode cL_law 505 = .ok (.iaload, 1) := by decide +kernel
theorem dL_law_506 : decode cL_law 506 = .ok (.invokevirtual 69, 3) := by decide +kernel
theorem dL_law_509 : decode cL_law 509 = .ok (.aload_n 2, 1) := by decide +kernel
theorem dL_law_510 : decode cL_law 510 = .ok (.aload_n 0, 1) := by decide +kernel
theorem dL_law_511 : decode cL_law 511 = .ok (.iload_n 3, 1) := by decide +kernel
theorem dL_law_512 : decode cL_law 512 = .ok (.iconst 1, 1) := by decide +kernel
theorem dL_law_513 : decode cL_law 513 = .ok (.iadd, 1) := by decide +kernel
theorem dL_law_514 : decode cL_law 514 = .ok (.iaload, 1) := by decide +kernel
theorem dL_law_515 : decode cL_law 515 = .ok (.aload_n 0, 1) := by decide +kernel
theorem dL_law_516 : decode cL_law 516 = .ok (.iload_n 3, 1) := by decide +kernel
theorem dL_law_517 : decode cL_law 517 = .ok (.iconst 2, 1) := by decide +kernel
theorem dL_law_518 : decode cL_law 518 = .ok (.iadd, 1) := by decide +kernel
theorem dL_law_519 : decode cL_law 519 = .ok (.iaload, 1) := by decide +kernel
theorem dL_law_520 : decode cL_law 520 = .ok (.invokevirtual 72, 3) := by decide +kernel
theorem dL_law_523 : decode cL_law 523 = .ok (.if_icmp .eq 219, 3) := by decide +kernel
theorem dL_law_526 : decode cL_law 526 = .ok (.iconst 0, 1) := by decide +kernel
theorem dL_law_527 : decode cL_law 527 = .ok (.ireturn, 1) := by decide +kernel
theorem dL_law_528 : decode cL_law 528 = .ok (.aload_n 1, 1) := by decide +kernel
theorem dL_law_529 : decode cL_law 529 = .ok (.aload_n 0, 1) := by decide +kernel
theorem dL_law_530 : decode cL_law 530 = .ok (.iload_n 3, 1) := by decide +kernel
theorem dL_law_531 : decode cL_law 531 = .ok (.iconst 1, 1) := by decide +kernel
theorem dL_law_532 : decode cL_law 532 = .ok (.iadd, 1) := by decide +kernel
theorem dL_law_533 : decode cL_law 533 = .ok (.iaload, 1) := by decide +kernel
theorem dL_law_534 : decode cL_law 534 = .ok (.invokevirtual 73, 3) := by decide +kernel
theorem dL_law_537 : decode cL_law 537 = .ok (.aload_n 2, 1) := by decide +kernel
theorem dL_law_538 : decode cL_law 538 = .ok (.aload_n 0, 1) := by decide +kernel
theorem dL_law_539 : decode cL_law 539 = .ok (.iload_n 3, 1) := by decide +kernel
theorem dL_law_540 : decode cL_law 540 = .ok (.iconst 1, 1) := by decide +kernel
theorem dL_law_541 : decode cL_law 541 = .ok (.iadd, 1) := by decide +kernel
theorem dL_law_542 : decode cL_law 542 = .ok (.iaload, 1) := by decide +kernel
theorem dL_law_543 : decode cL_law 543 = .ok (.invokevirtual 76, 3) := by decide +kernel
theorem dL_law_546 : decode cL_law 546 = .ok (.if_icmp .eq 196, 3) := by decide +kernel
theorem dL_law_549 : decode cL_law 549 = .ok (.iconst 0, 1) := by decide +kernel
theorem dL_law_550 : decode cL_law 550 = .ok (.ireturn, 1) := by decide +kernel
theorem dL_law_551 : decode cL_law 551 = .ok (.aload_n 1, 1) := by decide +kernel
theorem dL_law_552 : decode cL_law 552 = .ok (.aload_n 0, 1) := by decide +kernel
theorem dL_law_553 : decode cL_law 553 = .ok (.iload_n 3, 1) := by decide +kernel
theorem dL_law_554 : decode cL_law 554 = .ok (.iconst 1, 1) := by decide +kernel
theorem dL_law_555 : decode cL_law 555 = .ok (.iadd, 1) := by decide +kernel
theorem dL_law_556 : decode cL_law 556 = .ok (.iaload, 1) := by decide +kernel
theorem dL_law_557 : decode cL_law 557 = .ok (.aload_n 0, 1) := by decide +kernel
theorem dL_law_558 : decode cL_law 558 = .ok (.iload_n 3, 1) := by decide +kernel
theorem dL_law_559 : decode cL_law 559 = .ok (.iconst 2, 1) := by decide +kernel
theorem dL_law_560 : decode cL_law 560 = .ok (.iadd, 1) := by decide +kernel
theorem dL_law_561 : decode cL_law 561 = .ok (.iaload, 1) := by decide +kernel
theorem dL_law_562 : decode cL_law 562 = .ok (.invokevirtual 77, 3) := by decide +kernel
theorem dL_law_565 : decode cL_law 565 = .ok (.aload_n 2, 1) := by decide +kernel
theorem dL_law_566 : decode cL_law 566 = .ok (.aload_n 0, 1) := by decide +kernel
theorem dL_law_567 : decode cL_law 567 = .ok (.iload_n 3, 1) := by decide +kernel
theorem dL_law_568 : decode cL_law 568 = .ok (.iconst 1, 1) := by decide +kernel
theorem dL_law_569 : decode cL_law 569 = .ok (.iadd, 1) := by decide +kernel
theorem dL_law_570 : decode cL_law 570 = .ok (.iaload, 1) := by decide +kernel
theorem dL_law_571 : decode cL_law 571 = .ok (.aload_n 0, 1) := by decide +kernel
theorem dL_law_572 : decode cL_law 572 = .ok (.iload_n 3, 1) := by decide +kernel
theorem dL_law_573 : decode cL_law 573 = .ok (.iconst 2, 1) := by decide +kernel
theorem dL_law_574 : decode cL_law 574 = .ok (.iadd, 1) := by decide +kernel
theorem dL_law_575 : decode cL_law 575 = .ok (.iaload, 1) := by decide +kernel
theorem dL_law_576 : decode cL_law 576 = .ok (.invokevirtual 80, 3) := by decide +kernel
theorem dL_law_579 : decode cL_law 579 = .ok (.if_icmp .eq 163, 3) := by decide +kernel
theorem dL_law_582 : decode cL_law 582 = .ok (.iconst 0, 1) := by decide +kernel
theorem dL_law_583 : decode cL_law 583 = .ok (.ireturn, 1) := by decide +kernel
theorem dL_law_584 : decode cL_law 584 = .ok (.aload_n 1, 1) := by decide +kernel
theorem dL_law_585 : decode cL_law 585 = .ok (.aload_n 0, 1) := by decide +kernel
theorem dL_law_586 : decode cL_law 586 = .ok (.iload_n 3, 1) := by decide +kernel
theorem dL_law_587 : decode cL_law 587 = .ok (.iconst 1, 1) := by decide +kernel
theorem dL_law_588 : decode cL_law 588 = .ok (.iadd, 1) := by decide +kernel
theorem dL_law_589 : decode cL_law 589 = .ok (.iaload, 1) := by decide +kernel
theorem dL_law_590 : decode cL_law 590 = .ok (.aload_n 0, 1) := by decide +kernel
theorem dL_law_591 : decode cL_law 591 = .ok (.iload_n 3, 1) := by decide +kernel
theorem dL_law_592 : decode cL_law 592 = .ok (.iconst 2, 1) := by decide +kernel
theorem dL_law_593 : decode cL_law 593 = .ok (.iadd, 1) := by decide +kernel
theorem dL_law_594 : decode cL_law 594 = .ok (.iaload, 1) := by decide +kernel
theorem dL_law_595 : decode cL_law 595 = .ok (.invokevirtual 81, 3) := by decide +kernel
theorem dL_law_598 : decode cL_law 598 = .ok (.aload_n 2, 1) := by decide +kernel
theorem dL_law_599 : decode cL_law 599 = .ok (.aload_n 0, 1) := by decide +kernel
theorem dL_law_600 : decode cL_law 600 = .ok (.iload_n 3, 1) := by decide +kernel
theorem dL_law_601 : decode cL_law 601 = .ok (.iconst 1, 1) := by decide +kernel
theorem dL_law_602 : decode cL_law 602 = .ok (.iadd, 1) := by decide +kernel
theorem dL_law_603 : decode cL_law 603 = .ok (.iaload, 1) := by decide +kernel
theorem dL_law_604 : decode cL_law 604 = .ok (.aload_n 0, 1) := by decide +kernel
theorem dL_law_605 : decode cL_law 605 = .ok (.iload_n 3, 1) := by decide +kernel
theorem dL_law_606 : decode cL_law 606 = .ok (.iconst 2, 1) := by decide +kernel
theorem dL_law_607 : decode cL_law 607 = .ok (.iadd, 1) := by decide +kernel
theorem dL_law_608 : decode cL_law 608 = .ok (.iaload, 1) := by decide +kernel
theorem dL_law_609 : decode cL_law 609 = .ok (.invokevirtual 84, 3) := by decide +kernel
theorem dL_law_612 : decode cL_law 612 = .ok (.if_icmp .eq 130, 3) := by decide +kernel
theorem dL_law_615 : decode cL_law 615 = .ok (.iconst 0, 1) := by decide +kernel
theorem dL_law_616 : decode cL_law 616 = .ok (.ireturn, 1) := by decide +kernel
theorem dL_law_617 : decode cL_law 617 = .ok (.aload_n 1, 1) := by decide +kernel
theorem dL_law_618 : decode cL_law 618 = .ok (.aload_n 0, 1) := by decide +kernel
theorem dL_law_619 : decode cL_law 619 = .ok (.iload_n 3, 1) := by decide +kernel
theorem dL_law_620 : decode cL_law 620 = .ok (.iconst 1, 1) := by decide +kernel
theorem dL_law_621 : decode cL_law 621 = .ok (.iadd, 1) := by decide +kernel
theorem dL_law_622 : decode cL_law 622 = .ok (.iaload, 1) := by decide +kernel
theorem dL_law_623 : decode cL_law 623 = .ok (.invokevirtual 85, 3) := by decide +kernel
theorem dL_law_626 : decode cL_law 626 = .ok (.aload_n 2, 1) := by decide +kernel
theorem dL_law_627 : decode cL_law 627 = .ok (.aload_n 0, 1) := by decide +kernel
theorem dL_law_628 : decode cL_law 628 = .ok (.iload_n 3, 1) := by decide +kernel
theorem dL_law_629 : decode cL_law 629 = .ok (.iconst 1, 1) := by decide +kernel
theorem dL_law_630 : decode cL_law 630 = .ok (.iadd, 1) := by decide +kernel
theorem dL_law_631 : decode cL_law 631 = .ok (.iaload, 1) := by decide +kernel
theorem dL_law_632 : decode cL_law 632 = .ok (.invokevirtual 88, 3) := by decide +kernel
theorem dL_law_635 : decode cL_law 635 = .ok (.if_icmp .eq 107, 3) := by decide +kernel
theorem dL_law_638 : decode cL_law 638 = .ok (.iconst 0, 1) := by decide +kernel
theorem dL_law_639 : decode cL_law 639 = .ok (.ireturn, 1) := by decide +kernel
theorem dL_law_640 : decode cL_law 640 = .ok (.aload_n 1, 1) := by decide +kernel
theorem dL_law_641 : decode cL_law 641 = .ok (.aload_n 0, 1) := by decide +kernel
theorem dL_law_642 : decode cL_law 642 = .ok (.iload_n 3, 1) := by decide +kernel
theorem dL_law_643 : decode cL_law 643 = .ok (.iconst 1, 1) := by decide +kernel
theorem dL_law_644 : decode cL_law 644 = .ok (.iadd, 1) := by decide +kernel
theorem dL_law_645 : decode cL_law 645 = .ok (.iaload, 1) := by decide +kernel
theorem dL_law_646 : decode cL_law 646 = .ok (.invokevirtual 89, 3) := by decide +kernel
theorem dL_law_649 : decode cL_law 649 = .ok (.aload_n 2, 1) := by decide +kernel
theorem dL_law_650 : decode cL_law 650 = .ok (.aload_n 0, 1) := by decide +kernel
theorem dL_law_651 : decode cL_law 651 = .ok (.iload_n 3, 1) := by decide +kernel
theorem dL_law_652 : decode cL_law 652 = .ok (.iconst 1, 1) := by decide +kernel
theorem dL_law_653 : decode cL_law 653 = .ok (.iadd, 1) := by decide +kernel
theorem dL_law_654 : decode cL_law 654 = .ok (.iaload, 1) := by decide +kernel
theorem dL_law_655 : decode cL_law 655 = .ok (.invokevirtual 92, 3) := by decide +kernel
theorem dL_law_658 : decode cL_law 658 = .ok (.if_icmp .eq 84, 3) := by decide +kernel
theorem dL_law_661 : decode cL_law 661 = .ok (.iconst 0, 1) := by decide +kernel
theorem dL_law_662 : decode cL_law 662 = .ok (.ireturn, 1) := by decide +kernel
theorem dL_law_663 : decode cL_law 663 = .ok (.aload_n 1, 1) := by decide +kernel
theorem dL_law_664 : decode cL_law 664 = .ok (.aload_n 0, 1) := by decide +kernel
theorem dL_law_665 : decode cL_law 665 = .ok (.iload_n 3, 1) := by decide +kernel
theorem dL_law_666 : decode cL_law 666 = .ok (.iconst 1, 1) := by decide +kernel
theorem dL_law_667 : decode cL_law 667 = .ok (.iadd, 1) := by decide +kernel
theorem dL_law_668 : decode cL_law 668 = .ok (.iaload, 1) := by decide +kernel
theorem dL_law_669 : decode cL_law 669 = .ok (.aload_n 0, 1) := by decide +kernel
theorem dL_law_670 : decode cL_law 670 = .ok (.iload_n 3, 1) := by decide +kernel
theorem dL_law_671 : decode cL_law 671 = .ok (.iconst 2, 1) := by decide +kernel
theorem dL_law_672 : decode cL_law 672 = .ok (.iadd, 1) := by decide +kernel
theorem dL_law_673 : decode cL_law 673 = .ok (.iaload, 1) := by decide +kernel
theorem dL_law_674 : decode cL_law 674 = .ok (.invokevirtual 93, 3) := by decide +kernel
theorem dL_law_677 : decode cL_law 677 = .ok (.aload_n 2, 1) := by decide +kernel
theorem dL_law_678 : decode cL_law 678 = .ok (.aload_n 0, 1) := by decide +kernel
theorem dL_law_679 : decode cL_law 679 = .ok (.iload_n 3, 1) := by decide +kernel
theorem dL_law_680 : decode cL_law 680 = .ok (.iconst 1, 1) := by decide +kernel
theorem dL_law_681 : decode cL_law 681 = .ok (.iadd, 1) := by decide +kernel
theorem dL_law_682 : decode cL_law 682 = .ok (.iaload, 1) := by decide +kernel
theorem dL_law_683 : decode cL_law 683 = .ok (.aload_n 0, 1) := by decide +kernel
theorem dL_law_684 : decode cL_law 684 = .ok (.iload_n 3, 1) := by decide +kernel
theorem dL_law_685 : decode cL_law 685 = .ok (.iconst 2, 1) := by decide +kernel
theorem dL_law_686 : decode cL_law 686 = .ok (.iadd, 1) := by decide +kernel
theorem dL_law_687 : decode cL_law 687 = .ok (.iaload, 1) := by decide +kernel
theorem dL_law_688 : decode cL_law 688 = .ok (.invokevirtual 96, 3) := by decide +kernel
theorem dL_law_691 : decode cL_law 691 = .ok (.if_icmp .eq 51, 3) := by decide +kernel
theorem dL_law_694 : decode cL_law 694 = .ok (.iconst 0, 1) := by decide +kernel
theorem dL_law_695 : decode cL_law 695 = .ok (.ireturn, 1) := by decide +kernel
theorem dL_law_696 : decode cL_law 696 = .ok (.aload_n 1, 1) := by decide +kernel
theorem dL_law_697 : decode cL_law 697 = .ok (.aload_n 0, 1) := by decide +kernel
theorem dL_law_698 : decode cL_law 698 = .ok (.iload_n 3, 1) := by decide +kernel
theorem dL_law_699 : decode cL_law 699 = .ok (.iconst 1, 1) := by decide +kernel
theorem dL_law_700 : decode cL_law 700 = .ok (.iadd, 1) := by decide +kernel
theorem dL_law_701 : decode cL_law 701 = .ok (.iaload, 1) := by decide +kernel
theorem dL_law_702 : decode cL_law 702 = .ok (.invokevirtual 97, 3) := by decide +kernel
theorem dL_law_705 : decode cL_law 705 = .ok (.aload_n 2, 1) := by decide +kernel
theorem dL_law_706 : decode cL_law 706 = .ok (.aload_n 0, 1) := by decide +kernel
theorem dL_law_707 : decode cL_law 707 = .ok (.iload_n 3, 1) := by decide +kernel
theorem dL_law_708 : decode cL_law 708 = .ok (.iconst 1, 1) := by decide +kernel
theorem dL_law_709 : decode cL_law 709 = .ok (.iadd, 1) := by decide +kernel
theorem dL_law_710 : decode cL_law 710 = .ok (.iaload, 1) := by decide +kernel
theorem dL_law_711 : decode cL_law 711 = .ok (.invokevirtual 100, 3) := by decide +kernel
theorem dL_law_714 : decode cL_law 714 = .ok (.if_icmp .eq 28, 3) := by decide +kernel
theorem dL_law_717 : decode cL_law 717 = .ok (.iconst 0, 1) := by decide +kernel
theorem dL_law_718 : decode cL_law 718 = .ok (.ireturn, 1) := by decide +kernel
theorem dL_law_719 : decode cL_law 719 = .ok (.aload_n 1, 1) := by decide +kernel
theorem dL_law_720 : decode cL_law 720 = .ok (.aload_n 0, 1) := by decide +kernel
theorem dL_law_721 : decode cL_law 721 = .ok (.iload_n 3, 1) := by decide +kernel
theorem dL_law_722 : decode cL_law 722 = .ok (.iconst 1, 1) := by decide +kernel
theorem dL_law_723 : decode cL_law 723 = .ok (.iadd, 1) := by decide +kernel
theorem dL_law_724 : decode cL_law 724 = .ok (.iaload, 1) := by decide +kernel
theorem dL_law_725 : decode cL_law 725 = .ok (.invokevirtual 101, 3) := by decide +kernel
theorem dL_law_728 : decode cL_law 728 = .ok (.aload_n 2, 1) := by decide +kernel
theorem dL_law_729 : decode cL_law 729 = .ok (.aload_n 0, 1) := by decide +kernel
theorem dL_law_730 : decode cL_law 730 = .ok (.iload_n 3, 1) := by decide +kernel
theorem dL_law_731 : decode cL_law 731 = .ok (.iconst 1, 1) := by decide +kernel
theorem dL_law_732 : decode cL_law 732 = .ok (.iadd, 1) := by decide +kernel
theorem dL_law_733 : decode cL_law 733 = .ok (.iaload, 1) := by decide +kernel
theorem dL_law_734 : decode cL_law 734 = .ok (.invokevirtual 104, 3) := by decide +kernel
theorem dL_law_737 : decode cL_law 737 = .ok (.if_icmp .eq 5, 3) := by decide +kernel
theorem dL_law_740 : decode cL_law 740 = .ok (.iconst 0, 1) := by decide +kernel
theorem dL_law_741 : decode cL_law 741 = .ok (.ireturn, 1) := by decide +kernel
theorem dL_law_742 : decode cL_law 742 = .ok (.iinc 3 4, 3) := by decide +kernel
theorem dL_law_745 : decode cL_law 745 = .ok (.goto (-727), 3) := by decide +kernel
theorem dL_law_748 : decode cL_law 748 = .ok (.iconst 1, 1) := by decide +kernel
theorem dL_law_749 : decode cL_law 749 = .ok (.ireturn, 1) := by decide +kernel
