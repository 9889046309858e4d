theorem dX8_parts_0 : decode cX8_parts 0 = .ok (.iconst 0, 1) := by decide +kernel
theorem dX8_parts_1 : decode cX8_parts 1 = .ok (.istore_n 1, 1) := by decide +kernel
theorem dX8_parts_2 : decode cX8_parts 2 = .ok (.iconst 0, 1) := by decide +kernel
theorem dX8_parts_3 : decode cX8_parts 3 = .ok (.istore_n 2, 1) := by decide +kernel
theorem dX8_parts_4 : decode cX8_parts 4 = .ok (.iconst 0, 1) := by decide +kernel
theorem dX8_parts_5 : decode cX8_parts 5 = .ok (.istore_n 3, 1) := by decide +kernel
theorem dX8_parts_6 : decode cX8_parts 6 = .ok (.iload_n 3, 1) := by decide +kernel
theorem dX8_parts_7 : decode cX8_parts 7 = .ok (.aload_n 0, 1) := by decide +kernel
theorem dX8_parts_8 : decode cX8_parts 8 = .ok (.getfield 53, 3) := by decide +kernel
theorem dX8_parts_11 : decode cX8_parts 11 = .ok (.if_icmp .ge 73, 3) := by decide +kernel
theorem dX8_parts_14 : decode cX8_parts 14 = .ok (.aload_n 0, 1) := by decide +kernel
theorem dX8_parts_15 : decode cX8_parts 15 = .ok (.getfield 20, 3) := by decide +kernel
theorem dX8_parts_18 : decode cX8_parts 18 = .ok (.iload_n 3, 1) := by decide +kernel
theorem dX8_parts_19 : decode cX8_parts 19 = .ok (.iaload, 1) := by decide +kernel
theorem dX8_parts_20 : decode cX8_parts 20 = .ok (.bipush 32, 2) := by decide +kernel
theorem dX8_parts_22 : decode cX8_parts 22 = .ok (.if_icmp .eq 7, 3) := by decide +kernel
theorem dX8_parts_25 : decode cX8_parts 25 = .ok (.iconst 1, 1) := by decide +kernel
theorem dX8_parts_26 : decode cX8_parts 26 = .ok (.goto 4, 3) := by decide +kernel
theorem dX8_parts_29 : decode cX8_parts 29 = .ok (.iconst 0, 1) := by decide +kernel
theorem dX8_parts_30 : decode cX8_parts 30 = .ok (.istore 4, 2) := by decide +kernel
theorem dX8_parts_32 : decode cX8_parts 32 = .ok (.iload 4, 2) := by decide +kernel
theorem dX8_parts_34 : decode cX8_parts 34 = .ok (.ifCond .eq 24, 3) := by decide +kernel
theorem dX8_parts_37 : decode cX8_parts 37 = .ok (.iload_n 2, 1) := by decide +kernel
theorem dX8_parts_38 : decode cX8_parts 38 = .ok (.ifCond .ne 20, 3) := by decide +kernel
theorem dX8_parts_41 : decode cX8_parts 41 = .ok (.aload_n 0, 1) := by decide +kernel
theorem dX8_parts_42 : decode cX8_parts 42 = .ok (.getfield 26, 3) := by decide +kernel
theorem dX8_parts_45 : decode cX8_parts 45 = .ok (.iload_n 1, 1) := by decide +kernel
theorem dX8_parts_46 : decode cX8_parts 46 = .ok (.iload_n 3, 1) := by decide +kernel
theorem dX8_parts_47 : decode cX8_parts 47 = .ok (.iastore, 1) := by decide +kernel
theorem dX8_parts_48 : decode cX8_parts 48 = .ok (.aload_n 0, 1) := by decide +kernel
theorem dX8_parts_49 : decode cX8_parts 49 = .ok (.getfield 29, 3) := by decide +kernel
theorem dX8_parts_52 : decode cX8_parts 52 = .ok (.iload_n 1, 1) := by decide +kernel
theorem dX8_parts_53 : decode cX8_parts 53 = .ok (.iconst 0, 1) := by decide +kernel
theorem dX8_parts_54 : decode cX8_parts 54 = .ok (.iastore, 1) := by decide +kernel
theorem dX8_parts_55 : decode cX8_parts 55 = .ok (.iinc 1 1, 3) := by decide +kernel
theorem dX8_parts_58 : decode cX8_parts 58 = .ok (.iload 4, 2) := by decide +kernel
theorem dX8_parts_60 : decode cX8_parts 60 = .ok (.ifCond .eq 15, 3) := by decide +kernel
theorem dX8_parts_63 : decode cX8_parts 63 = .ok (.aload_n 0, 1) := by decide +kernel
theorem dX8_parts_64 : decode cX8_parts 64 = .ok (.getfield 29, 3) := by decide +kernel
theorem dX8_parts_67 : decode cX8_parts 67 = .ok (.iload_n 1, 1) := by decide +kernel
theorem dX8_parts_68 : decode cX8_parts 68 = .ok (.iconst 1, 1) := by decide +kernel
theorem dX8_parts_69 : decode cX8_parts 69 = .ok (.isub, 1) := by decide +kernel
theorem dX8_parts_70 : decode cX8_parts 70 = .ok (.dup2, 1) := by decide +kernel
theorem dX8_parts_71 : decode cX8_parts 71 = .ok (.iaload, 1) := by decide +kernel
theorem dX8_parts_72 : decode cX8_parts 72 = .ok (.iconst 1, 1) := by decide +kernel
theorem dX8_parts_73 : decode cX8_parts 73 = .ok (.iadd, 1) := by decide +kernel
theorem dX8_parts_74 : decode cX8_parts 74 = .ok (.iastore, 1) := by decide +kernel
theorem dX8_parts_75 : decode cX8_parts 75 = .ok (.iload 4, 2) := by decide +kernel
theorem dX8_parts_77 : decode cX8_parts 77 = .ok (.istore_n 2, 1) := by decide +kernel
theorem dX8_parts_78 : decode cX8_parts 78 = .ok (.iinc 3 1, 3) := by decide +kernel
theorem dX8_parts_81 : decode cX8_parts 81 = .ok (.goto (-75), 3) := by decide +kernel
theorem dX8_parts_84 : decode cX8_parts 84 = .ok (.iload_n 1, 1) := by decide +kernel
theorem dX8_parts_85 : decode cX8_parts 85 = .ok (.ireturn, 1) := by decide +kernel
theorem dX8_isSame_0 : decode cX8_isSame 0 = .ok (.aload_n 0, 1) := by decide +kernel
theorem dX8_isSame_1 : decode cX8_isSame 1 = .ok (.getfield 29, 3) := by decide +kernel
theorem dX8_isSame_4 : decode cX8_isSame 4 = .ok (.iload_n 1, 1) := by decide +kernel
theorem dX8_isSame_5 : decode cX8_isSame 5 = .ok (.iaload, 1) := by decide +kernel
theorem dX8_isSame_6 : decode cX8_isSame 6 = .ok (.aload_n 0, 1) := by decide +kernel
theorem dX8_isSame_7 : decode cX8_isSame 7 = .ok (.getfield 7, 3) := by decide +kernel
theorem dX8_isSame_10 : decode cX8_isSame 10 = .ok (.iload_n 2, 1) := by decide +kernel
theorem dX8_isSame_11 : decode cX8_isSame 11 = .ok (.iaload, 1) := by decide +kernel
theorem dX8_isSame_12 : decode cX8_isSame 12 = .ok (.if_icmp .ne 7, 3) := by decide +kernel
theorem dX8_isSame_15 : decode cX8_isSame 15 = .ok (.iconst 1, 1) := by decide +kernel
theorem dX8_isSame_16 : decode cX8_isSame 16 = .ok (.goto 4, 3) := by decide +kernel
theorem dX8_isSame_19 : decode cX8_isSame 19 = .ok (.iconst 0, 1) := by decide +kernel
theorem dX8_isSame_20 : decode cX8_isSame 20 = .ok (.istore_n 3, 1) := by decide +kernel
theorem dX8_isSame_21 : decode cX8_isSame 21 = .ok (.iconst 0, 1) := by decide +kernel
theorem dX8_isSame_22 : decode cX8_isSame 22 = .ok (.istore 4, 2) := by decide +kernel
theorem dX8_isSame_24 : decode cX8_isSame 24 = .ok (.iload 4, 2) := by decide +kernel
theorem dX8_isSame_26 : decode cX8_isSame 26 = .ok (.aload_n 0, 1) := by decide +kernel
theorem dX8_isSame_27 : decode cX8_isSame 27 = .ok (.getfield 29, 3) := by decide +kernel
theorem dX8_isSame_30 : decode cX8_isSame 30 = .ok (.iload_n 1, 1) := by decide +kernel
theorem dX8_isSame_31 : decode cX8_isSame 31 = .ok (.iaload, 1) := by decide +kernel
theorem dX8_isSame_32 : decode cX8_isSame 32 = .ok (.if_icmp .ge 47, 3) := by decide +kernel
theorem dX8_isSame_35 : decode cX8_isSame 35 = .ok (.iload_n 3, 1) := by decide +kernel
theorem dX8_isSame_36 : decode cX8_isSame 36 = .ok (.ifCond .eq 43, 3) := by decide +kernel
theorem dX8_isSame_39 : decode cX8_isSame 39 = .ok (.aload_n 0, 1) := by decide +kernel
theorem dX8_isSame_40 : decode cX8_isSame 40 = .ok (.getfield 20, 3) := by decide +kernel
theorem dX8_isSame_43 : decode cX8_isSame 43 = .ok (.aload_n 0, 1) := by decide +kernel
theorem dX8_isSame_44 : decode cX8_isSame 44 = .ok (.getfield 26, 3) := by decide +kernel
theorem dX8_isSame_47 : decode cX8_isSame 47 = .ok (.iload_n 1, 1) := by decide +kernel
theorem dX8_isSame_48 : decode cX8_isSame 48 = .ok (.iaload, 1) := by decide +kernel
theorem dX8_isSame_49 : decode cX8_isSame 49 = .ok (.iload 4, 2) := by decide +kernel
theorem dX8_isSame_51 : decode cX8_isSame 51 = .ok (.iadd, 1) := by decide +kernel
theorem dX8_isSame_52 : decode cX8_isSame 52 = .ok (.iaload, 1) := by decide +kernel
theorem dX8_isSame_53 : decode cX8_isSame 53 = .ok (.aload_n 0, 1) := by decide +kernel
theorem dX8_isSame_54 : decode cX8_isSame 54 = .ok (.getfield 7, 3) := by decide +kernel
theorem dX8_isSame_57 : decode cX8_isSame 57 = .ok (.iload_n 2, 1) := by decide +kernel
theorem dX8_isSame_58 : decode cX8_isSame 58 = .ok (.iconst 1, 1) := by decide +kernel
theorem dX8_isSame_59 : decode cX8_isSame 59 = .ok (.iadd, 1) := by decide +kernel
theorem dX8_isSame_60 : decode cX8_isSame 60 = .ok (.iload 4, 2) := by decide +kernel
theorem dX8_isSame_62 : decode cX8_isSame 62 = .ok (.iadd, 1) := by decide +kernel
theorem dX8_isSame_63 : decode cX8_isSame 63 = .ok (.iaload, 1) := by decide +kernel
theorem dX8_isSame_64 : decode cX8_isSame 64 = .ok (.if_icmp .ne 7, 3) := by decide +kernel
theorem dX8_isSame_67 : decode cX8_isSame 67 = .ok (.iconst 1, 1) := by decide +kernel
theorem dX8_isSame_68 : decode cX8_isSame 68 = .ok (.goto 4, 3) := by decide +kernel
theorem dX8_isSame_71 : decode cX8_isSame 71 = .ok (.iconst 0, 1) := by decide +kernel
theorem dX8_isSame_72 : decode cX8_isSame 72 = .ok (.istore_n 3, 1) := by decide +kernel
theorem dX8_isSame_73 : decode cX8_isSame 73 = .ok (.iinc 4 1, 3) := by decide +kernel
theorem dX8_isSame_76 : decode cX8_isSame 76 = .ok (.goto (-52), 3) := by decide +kernel
theorem dX8_isSame_79 : decode cX8_isSame 79 = .ok (.iload_n 3, 1) := by decide +kernel
theorem dX8_isSame_80 : decode cX8_isSame 80 = .ok (.ireturn, 1) := by decide +kernel
theorem dX8_isTermThere_0 : decode cX8_isTermThere 0 = .ok (.iconst 0, 1) := by decide +kernel
theorem dX8_isTermThere_1 : decode cX8_isTermThere 1 = .ok (.istore_n 2, 1) := by decide +kernel
theorem dX8_isTermThere_2 : decode cX8_isTermThere 2 = .ok (.iconst 0, 1) := by decide +kernel
theorem dX8_isTermThere_3 : decode cX8_isTermThere 3 = .ok (.istore_n 3, 1) := by decide +kernel
theorem dX8_isTermThere_4 : decode cX8_isTermThere 4 = .ok (.iload_n 3, 1) := by decide +kernel
theorem dX8_isTermThere_5 : decode cX8_isTermThere 5 = .ok (.aload_n 0, 1) := by decide +kernel
theorem dX8_isTermThere_6 : decode cX8_isTermThere 6 = .ok (.getfield 7, 3) := by decide +kernel
theorem dX8_isTermThere_9 : decode cX8_isTermThere 9 = .ok (.iconst 0, 1) := by decide +kernel
theorem dX8_isTermThere_10 : decode cX8_isTermThere 10 = .ok (.iaload, 1) := by decide +kernel
theorem dX8_isTermThere_11 : decode cX8_isTermThere 11 = .ok (.if_icmp .ge 80, 3) := by decide +kernel
theorem dX8_isTermThere_14 : decode cX8_isTermThere 14 = .ok (.aload_n 0, 1) := by decide +kernel
theorem dX8_isTermThere_15 : decode cX8_isTermThere 15 = .ok (.getfield 7, 3) := by decide +kernel
theorem dX8_isTermThere_18 : decode cX8_isTermThere 18 = .ok (.iload_n 3, 1) := by decide +kernel
theorem dX8_isTermThere_19 : decode cX8_isTermThere 19 = .ok (.invokestatic 58, 3) := by decide +kernel
theorem dX8_isTermThere_22 : decode cX8_isTermThere 22 = .ok (.iconst 0, 1) := by decide +kernel
theorem dX8_isTermThere_23 : decode cX8_isTermThere 23 = .ok (.iadd, 1) := by decide +kernel
theorem dX8_isTermThere_24 : decode cX8_isTermThere 24 = .ok (.iaload, 1) := by decide +kernel
theorem dX8_isTermThere_25 : decode cX8_isTermThere 25 = .ok (.iload_n 1, 1) := by decide +kernel
theorem dX8_isTermThere_26 : decode cX8_isTermThere 26 = .ok (.if_icmp .ne 7, 3) := by decide +kernel
theorem dX8_isTermThere_29 : decode cX8_isTermThere 29 = .ok (.iconst 1, 1) := by decide +kernel
theorem dX8_isTermThere_30 : decode cX8_isTermThere 30 = .ok (.goto 4, 3) := by decide +kernel
theorem dX8_isTermThere_33 : decode cX8_isTermThere 33 = .ok (.iconst 0, 1) := by decide +kernel
theorem dX8_isTermThere_34 : decode cX8_isTermThere 34 = .ok (.istore 4, 2) := by decide +kernel
theorem dX8_isTermThere_36 : decode cX8_isTermThere 36 = .ok (.iconst 0, 1) := by decide +kernel
theorem dX8_isTermThere_37 : decode cX8_isTermThere 37 = .ok (.istore 5, 2) := by decide +kernel
theorem dX8_isTermThere_39 : decode cX8_isTermThere 39 = .ok (.iload 5, 2) := by decide +kernel
theorem dX8_isTermThere_41 : decode cX8_isTermThere 41 = .ok (.iload_n 1, 1) := by decide +kernel
theorem dX8_isTermThere_42 : decode cX8_isTermThere 42 = .ok (.if_icmp .ge 28, 3) := by decide +kernel
theorem dX8_isTermThere_45 : decode cX8_isTermThere 45 = .ok (.iload 4, 2) := by decide +kernel
theorem dX8_isTermThere_47 : decode cX8_isTermThere 47 = .ok (.ifCond .eq 23, 3) := by decide +kernel
theorem dX8_isTermThere_50 : decode cX8_isTermThere 50 = .ok (.aload_n 0, 1) := by decide +kernel
theorem dX8_isTermThere_51 : decode cX8_isTermThere 51 = .ok (.iload 5, 2) := by decide +kernel
theorem dX8_isTermThere_53 : decode cX8_isTermThere 53 = .ok (.iload_n 3, 1) := by decide +kernel
theorem dX8_isTermThere_54 : decode cX8_isTermThere 54 = .ok (.iload 5, 2) := by decide +kernel
theorem dX8_isTermThere_56 : decode cX8_isTermThere 56 = .ok (.invokestatic 62, 3) := by decide +kernel
theorem dX8_isTermThere_59 : decode cX8_isTermThere 59 = .ok (.invokevirtual 66, 3) := by decide +kernel
theorem dX8_isTermThere_62 : decode cX8_isTermThere 62 = .ok (.istore 4, 2) := by decide +kernel
theorem dX8_isTermThere_64 : decode cX8_isTermThere 64 = .ok (.iinc 5 1, 3) := by decide +kernel
theorem dX8_isTermThere_67 : decode cX8_isTermThere 67 = .ok (.goto (-28), 3) := by decide +kernel
theorem dX8_isTermThere_70 : decode cX8_isTermThere 70 = .ok (.iload_n 2, 1) := by decide +kernel
theorem dX8_isTermThere_71 : decode cX8_isTermThere 71 = .ok (.ifCond .ne 8, 3) := by decide +kernel
theorem dX8_isTermThere_74 : decode cX8_isTermThere 74 = .ok (.iload 4, 2) := by decide +kernel
theorem dX8_isTermThere_76 : decode cX8_isTermThere 76 = .ok (.ifCond .eq 7, 3) := by decide +kernel
theorem dX8_isTermThere_79 : decode cX8_isTermThere 79 = .ok (.iconst 1, 1) := by decide +kernel
theorem dX8_isTermThere_80 : decode cX8_isTermThere 80 = .ok (.goto 4, 3) := by decide +kernel
theorem dX8_isTermThere_83 : decode cX8_isTermThere 83 = .ok (.iconst 0, 1) := by decide +kernel
theorem dX8_isTermThere_84 : decode cX8_isTermThere 84 = .ok (.istore_n 2, 1) := by decide +kernel
theorem dX8_isTermThere_85 : decode cX8_isTermThere 85 = .ok (.iinc 3 1, 3) := by decide +kernel
theorem dX8_isTermThere_88 : decode cX8_isTermThere 88 = .ok (.goto (-84), 3) := by decide +kernel
theorem dX8_isTermThere_91 : decode cX8_isTermThere 91 = .ok (.iload_n 2, 1) := by decide +kernel
theorem dX8_isTermThere_92 : decode cX8_isTermThere 92 = .ok (.ireturn, 1) := by decide +kernel
theorem dX8_writes_0 : decode cX8_writes 0 = .ok (.aload_n 0, 1) := by decide +kernel
theorem dX8_writes_1 : decode cX8_writes 1 = .ok (.getfield 7, 3) := by decide +kernel
theorem dX8_writes_4 : decode cX8_writes 4 = .ok (.iload_n 2, 1) := by decide +kernel
theorem dX8_writes_5 : decode cX8_writes 5 = .ok (.aload_n 0, 1) := by decide +kernel
theorem dX8_writes_6 : decode cX8_writes 6 = .ok (.getfield 29, 3) := by decide +kernel
theorem dX8_writes_9 : decode cX8_writes 9 = .ok (.iload_n 1, 1) := by decide +kernel
theorem dX8_writes_10 : decode cX8_writes 10 = .ok (.iaload, 1) := by decide +kernel
theorem dX8_writes_11 : decode cX8_writes 11 = .ok (.iastore, 1) := by decide +kernel
theorem dX8_writes_12 : decode cX8_writes 12 = .ok (.iconst 0, 1) := by decide +kernel
theorem dX8_writes_13 : decode cX8_writes 13 = .ok (.istore_n 3, 1) := by decide +kernel
theorem dX8_writes_14 : decode cX8_writes 14 = .ok (.iload_n 3, 1) := by decide +kernel
theorem dX8_writes_15 : decode cX8_writes 15 = .ok (.aload_n 0, 1) := by decide +kernel
theorem dX8_writes_16 : decode cX8_writes 16 = .ok (.getfield 29, 3) := by decide +kernel
theorem dX8_writes_19 : decode cX8_writes 19 = .ok (.iload_n 1, 1) := by decide +kernel
theorem dX8_writes_20 : decode cX8_writes 20 = .ok (.iaload, 1) := by decide +kernel
theorem dX8_writes_21 : decode cX8_writes 21 = .ok (.if_icmp .ge 32, 3) := by decide +kernel
theorem dX8_writes_24 : decode cX8_writes 24 = .ok (.aload_n 0, 1) := by decide +kernel
theorem dX8_writes_25 : decode cX8_writes 25 = .ok (.getfield 7, 3) := by decide +kernel
theorem dX8_writes_28 : decode cX8_writes 28 = .ok (.iload_n 2, 1) := by decide +kernel
theorem dX8_writes_29 : decode cX8_writes 29 = .ok (.iconst 1, 1) := by decide +kernel
theorem dX8_writes_30 : decode cX8_writes 30 = .ok (.iadd, 1) := by decide +kernel
theorem dX8_writes_31 : decode cX8_writes 31 = .ok (.iload_n 3, 1) := by decide +kernel
theorem dX8_writes_32 : decode cX8_writes 32 = .ok (.iadd, 1) := by decide +kernel
theorem dX8_writes_33 : decode cX8_writes 33 = .ok (.aload_n 0, 1) := by decide +kernel
theorem dX8_writes_34 : decode cX8_writes 34 = .ok (.getfield 20, 3) := by decide +kernel
theorem dX8_writes_37 : decode cX8_writes 37 = .ok (.aload_n 0, 1) := by decide +kernel
theorem dX8_writes_38 : decode cX8_writes 38 = .ok (.getfield 26, 3) := by decide +kernel
theorem dX8_writes_41 : decode cX8_writes 41 = .ok (.iload_n 1, 1) := by decide +kernel
theorem dX8_writes_42 : decode cX8_writes 42 = .ok (.iaload, 1) := by decide +kernel
theorem dX8_writes_43 : decode cX8_writes 43 = .ok (.iload_n 3, 1) := by decide +kernel
theorem dX8_writes_44 : decode cX8_writes 44 = .ok (.iadd, 1) := by decide +kernel
theorem dX8_writes_45 : decode cX8_writes 45 = .ok (.iaload, 1) := by decide +kernel
theorem dX8_writes_46 : decode cX8_writes 46 = .ok (.iastore, 1) := by decide +kernel
theorem dX8_writes_47 : decode cX8_writes 47 = .ok (.iinc 3 1, 3) := by decide +kernel
theorem dX8_writes_50 : decode cX8_writes 50 = .ok (.goto (-36), 3) := by decide +kernel
theorem dX8_writes_53 : decode cX8_writes 53 = .ok (.return_, 1) := by decide +kernel
theorem dX8_term_0 : decode cX8_term 0 = .ok (.iload_n 1, 1) := by decide +kernel
theorem dX8_term_1 : decode cX8_term 1 = .ok (.iconst 1, 1) := by decide +kernel
theorem dX8_term_2 : decode cX8_term 2 = .ok (.bipush 9, 2) := by decide +kernel
theorem dX8_term_4 : decode cX8_term 4 = .ok (.invokestatic 44, 3) := by decide +kernel
theorem dX8_term_7 : decode cX8_term 7 = .ok (.ifCond .eq 12, 3) := by decide +kernel
theorem dX8_term_10 : decode cX8_term 10 = .ok (.iload_n 2, 1) := by decide +kernel
theorem dX8_term_11 : decode cX8_term 11 = .ok (.iconst 0, 1) := by decide +kernel
theorem dX8_term_12 : decode cX8_term 12 = .ok (.iconst 1, 1) := by decide +kernel
theorem dX8_term_13 : decode cX8_term 13 = .ok (.invokestatic 44, 3) := by decide +kernel
theorem dX8_term_16 : decode cX8_term 16 = .ok (.ifCond .ne 6, 3) := by decide +kernel
theorem dX8_term_19 : decode cX8_term 19 = .ok (.ldc 52, 2) := by decide +kernel
theorem dX8_term_21 : decode cX8_term 21 = .ok (.ireturn, 1) := by decide +kernel
theorem dX8_term_22 : decode cX8_term 22 = .ok (.aload_n 0, 1) := by decide +kernel
theorem dX8_term_23 : decode cX8_term 23 = .ok (.invokevirtual 70, 3) := by decide +kernel
theorem dX8_term_26 : decode cX8_term 26 = .ok (.istore_n 3, 1) := by decide +kernel
theorem dX8_term_27 : decode cX8_term 27 = .ok (.aload_n 0, 1) := by decide +kernel
theorem dX8_term_28 : decode cX8_term 28 = .ok (.iconst 0, 1) := by decide +kernel
theorem dX8_term_29 : decode cX8_term 29 = .ok (.putfield 53, 3) := by decide +kernel
theorem dX8_term_32 : decode cX8_term 32 = .ok (.iload_n 3, 1) := by decide +kernel
theorem dX8_term_33 : decode cX8_term 33 = .ok (.iconst 1, 1) := by decide +kernel
theorem dX8_term_34 : decode cX8_term 34 = .ok (.iconst 4, 1) := by decide +kernel
theorem dX8_term_35 : decode cX8_term 35 = .ok (.invokestatic 44, 3) := by decide +kernel
theorem dX8_term_38 : decode cX8_term 38 = .ok (.istore 4, 2) := by decide +kernel
theorem dX8_term_40 : decode cX8_term 40 = .ok (.iconst 0, 1) := by decide +kernel
theorem dX8_term_41 : decode cX8_term 41 = .ok (.istore 5, 2) := by decide +kernel
theorem dX8_term_43 : decode cX8_term 43 = .ok (.iload 5, 2) := by decide +kernel
theorem dX8_term_45 : decode cX8_term 45 = .ok (.iload_n 3, 1) := by decide +kernel
theorem dX8_term_46 : decode cX8_term 46 = .ok (.if_icmp .ge 33, 3) := by decide +kernel
theorem dX8_term_49 : decode cX8_term 49 = .ok (.iload 4, 2) := by decide +kernel
theorem dX8_term_51 : decode cX8_term 51 = .ok (.ifCond .eq 19, 3) := by decide +kernel
theorem dX8_term_54 : decode cX8_term 54 = .ok (.aload_n 0, 1) := by decide +kernel
theorem dX8_term_55 : decode cX8_term 55 = .ok (.getfield 29, 3) := by decide +kernel
theorem dX8_term_58 : decode cX8_term 58 = .ok (.iload 5, 2) := by decide +kernel
theorem dX8_term_60 : decode cX8_term 60 = .ok (.iaload, 1) := by decide +kernel
theorem dX8_term_61 : decode cX8_term 61 = .ok (.bipush 12, 2) := by decide +kernel
theorem dX8_term_63 : decode cX8_term 63 = .ok (.if_icmp .gt 7, 3) := by decide +kernel
theorem dX8_term_66 : decode cX8_term 66 = .ok (.iconst 1, 1) := by decide +kernel
theorem dX8_term_67 : decode cX8_term 67 = .ok (.goto 4, 3) := by decide +kernel
theorem dX8_term_70 : decode cX8_term 70 = .ok (.iconst 0, 1) := by decide +kernel
theorem dX8_term_71 : decode cX8_term 71 = .ok (.istore 4, 2) := by decide +kernel
theorem dX8_term_73 : decode cX8_term 73 = .ok (.iinc 5 1, 3) := by decide +kernel
theorem dX8_term_76 : decode cX8_term 76 = .ok (.goto (-33), 3) := by decide +kernel
theorem dX8_term_79 : decode cX8_term 79 = .ok (.iload 4, 2) := by decide +kernel
theorem dX8_term_81 : decode cX8_term 81 = .ok (.ifCond .eq 11, 3) := by decide +kernel
theorem dX8_term_84 : decode cX8_term 84 = .ok (.aload_n 0, 1) := by decide +kernel
theorem dX8_term_85 : decode cX8_term 85 = .ok (.iload_n 3, 1) := by decide +kernel
theorem dX8_term_86 : decode cX8_term 86 = .ok (.invokevirtual 74, 3) := by decide +kernel
theorem dX8_term_89 : decode cX8_term 89 = .ok (.ifCond .eq 6, 3) := by decide +kernel
theorem dX8_term_92 : decode cX8_term 92 = .ok (.ldc 77, 2) := by decide +kernel
theorem dX8_term_94 : decode cX8_term 94 = .ok (.ireturn, 1) := by decide +kernel
theorem dX8_term_95 : decode cX8_term 95 = .ok (.aload_n 0, 1) := by decide +kernel
theorem dX8_term_96 : decode cX8_term 96 = .ok (.getfield 7, 3) := by decide +kernel
theorem dX8_term_99 : decode cX8_term 99 = .ok (.iconst 0, 1) := by decide +kernel
theorem dX8_term_100 : decode cX8_term 100 = .ok (.iaload, 1) := by decide +kernel
theorem dX8_term_101 : decode cX8_term 101 = .ok (.bipush 8, 2) := by decide +kernel
theorem dX8_term_103 : decode cX8_term 103 = .ok (.if_icmp .ne 6, 3) := by decide +kernel
theorem dX8_term_106 : decode cX8_term 106 = .ok (.ldc 57, 2) := by decide +kernel
theorem dX8_term_108 : decode cX8_term 108 = .ok (.ireturn, 1) := by decide +kernel
theorem dX8_term_109 : decode cX8_term 109 = .ok (.aload_n 0, 1) := by decide +kernel
theorem dX8_term_110 : decode cX8_term 110 = .ok (.getfield 7, 3) := by decide +kernel
theorem dX8_term_113 : decode cX8_term 113 = .ok (.iconst 0, 1) := by decide +kernel
theorem dX8_term_114 : decode cX8_term 114 = .ok (.iaload, 1) := by decide +kernel
theorem dX8_term_115 : decode cX8_term 115 = .ok (.istore 5, 2) := by decide +kernel
theorem dX8_term_117 : decode cX8_term 117 = .ok (.aload_n 0, 1) := by decide +kernel
theorem dX8_term_118 : decode cX8_term 118 = .ok (.getfield 7, 3) := by decide +kernel
theorem dX8_term_121 : decode cX8_term 121 = .ok (.iload 5, 2) := by decide +kernel
theorem dX8_term_123 : decode cX8_term 123 = .ok (.invokestatic 58, 3) := by decide +kernel
theorem dX8_term_126 : decode cX8_term 126 = .ok (.iconst 0, 1) := by decide +kernel
theorem dX8_term_127 : decode cX8_term 127 = .ok (.iadd, 1) := by decide +kernel
theorem dX8_term_128 : decode cX8_term 128 = .ok (.iload_n 3, 1) := by decide +kernel
theorem dX8_term_129 : decode cX8_term 129 = .ok (.iastore, 1) := by decide +kernel
theorem dX8_term_130 : decode cX8_term 130 = .ok (.aload_n 0, 1) := by decide +kernel
theorem dX8_term_131 : decode cX8_term 131 = .ok (.getfield 7, 3) := by decide +kernel
theorem dX8_term_134 : decode cX8_term 134 = .ok (.iload 5, 2) := by decide +kernel
theorem dX8_term_136 : decode cX8_term 136 = .ok (.invokestatic 58, 3) := by decide +kernel
theorem dX8_term_139 : decode cX8_term 139 = .ok (.iconst 1, 1) := by decide +kernel
theorem dX8_term_140 : decode cX8_term 140 = .ok (.iadd, 1) := by decide +kernel
theorem dX8_term_141 : decode cX8_term 141 = .ok (.iload_n 1, 1) := by decide +kernel
theorem dX8_term_142 : decode cX8_term 142 = .ok (.iastore, 1) := by decide +kernel
theorem dX8_term_143 : decode cX8_term 143 = .ok (.aload_n 0, 1) := by decide +kernel
theorem dX8_term_144 : decode cX8_term 144 = .ok (.getfield 7, 3) := by decide +kernel
theorem dX8_term_147 : decode cX8_term 147 = .ok (.iload 5, 2) := by decide +kernel
theorem dX8_term_149 : decode cX8_term 149 = .ok (.invokestatic 58, 3) := by decide +kernel
theorem dX8_term_152 : decode cX8_term 152 = .ok (.iconst 2, 1) := by decide +kernel
theorem dX8_term_153 : decode cX8_term 153 = .ok (.iadd, 1) := by decide +kernel
theorem dX8_term_154 : decode cX8_term 154 = .ok (.iload_n 2, 1) := by decide +kernel
theorem dX8_term_155 : decode cX8_term 155 = .ok (.iastore, 1) := by decide +kernel
theorem dX8_term_156 : decode cX8_term 156 = .ok (.aload_n 0, 1) := by decide +kernel
theorem dX8_term_157 : decode cX8_term 157 = .ok (.getfield 7, 3) := by decide +kernel
theorem dX8_term_160 : decode cX8_term 160 = .ok (.iload 5, 2) := by decide +kernel
theorem dX8_term_162 : decode cX8_term 162 = .ok (.invokestatic 58, 3) := by decide +kernel
theorem dX8_term_165 : decode cX8_term 165 = .ok (.iconst 3, 1) := by decide +kernel
theorem dX8_term_166 : decode cX8_term 166 = .ok (.iadd, 1) := by decide +kernel
theorem dX8_term_167 : decode cX8_term 167 = .ok (.iconst (-1), 1) := by decide +kernel
theorem dX8_term_168 : decode cX8_term 168 = .ok (.iastore, 1) := by decide +kernel
theorem dX8_term_169 : decode cX8_term 169 = .ok (.iconst 0, 1) := by decide +kernel
theorem dX8_term_170 : decode cX8_term 170 = .ok (.istore 6, 2) := by decide +kernel
theorem dX8_term_172 : decode cX8_term 172 = .ok (.iload 6, 2) := by decide +kernel
theorem dX8_term_174 : decode cX8_term 174 = .ok (.iload_n 3, 1) := by decide +kernel
theorem dX8_term_175 : decode cX8_term 175 = .ok (.if_icmp .ge 22, 3) := by decide +kernel
theorem dX8_term_178 : decode cX8_term 178 = .ok (.aload_n 0, 1) := by decide +kernel
theorem dX8_term_179 : decode cX8_term 179 = .ok (.iload 6, 2) := by decide +kernel
theorem dX8_term_181 : decode cX8_term 181 = .ok (.iload 5, 2) := by decide +kernel
theorem dX8_term_183 : decode cX8_term 183 = .ok (.iload 6, 2) := by decide +kernel
theorem dX8_term_185 : decode cX8_term 185 = .ok (.invokestatic 62, 3) := by decide +kernel
theorem dX8_term_188 : decode cX8_term 188 = .ok (.invokevirtual 78, 3) := by decide +kernel
theorem dX8_term_191 : decode cX8_term 191 = .ok (.iinc 6 1, 3) := by decide +kernel
theorem dX8_term_194 : decode cX8_term 194 = .ok (.goto (-22), 3) := by decide +kernel
theorem dX8_term_197 : decode cX8_term 197 = .ok (.aload_n 0, 1) := by decide +kernel
theorem dX8_term_198 : decode cX8_term 198 = .ok (.getfield 7, 3) := by decide +kernel
theorem dX8_term_201 : decode cX8_term 201 = .ok (.iconst 0, 1) := by decide +kernel
theorem dX8_term_202 : decode cX8_term 202 = .ok (.dup2, 1) := by decide +kernel
theorem dX8_term_203 : decode cX8_term 203 = .ok (.iaload, 1) := by decide +kernel
theorem dX8_term_204 : decode cX8_term 204 = .ok (.iconst 1, 1) := by decide +kernel
theorem dX8_term_205 : decode cX8_term 205 = .ok (.iadd, 1) := by decide +kernel
theorem dX8_term_206 : decode cX8_term 206 = .ok (.iastore, 1) := by decide +kernel
theorem dX8_term_207 : decode cX8_term 207 = .ok (.iload 5, 2) := by decide +kernel
theorem dX8_term_209 : decode cX8_term 209 = .ok (.ireturn, 1) := by decide +kernel
theorem dX8_ending_0 : decode cX8_ending 0 = .ok (.aload_n 0, 1) := by decide +kernel
theorem dX8_ending_1 : decode cX8_ending 1 = .ok (.invokevirtual 70, 3) := by decide +kernel
theorem dX8_ending_4 : decode cX8_ending 4 = .ok (.istore_n 1, 1) := by decide +kernel
theorem dX8_ending_5 : decode cX8_ending 5 = .ok (.aload_n 0, 1) := by decide +kernel
theorem dX8_ending_6 : decode cX8_ending 6 = .ok (.iconst 0, 1) := by decide +kernel
theorem dX8_ending_7 : decode cX8_ending 7 = .ok (.putfield 53, 3) := by decide +kernel
theorem dX8_ending_10 : decode cX8_ending 10 = .ok (.iload_n 1, 1) := by decide +kernel
theorem dX8_ending_11 : decode cX8_ending 11 = .ok (.iconst 1, 1) := by decide +kernel
theorem dX8_ending_12 : decode cX8_ending 12 = .ok (.if_icmp .ne 17, 3) := by decide +kernel
theorem dX8_ending_15 : decode cX8_ending 15 = .ok (.aload_n 0, 1) := by decide +kernel
theorem dX8_ending_16 : decode cX8_ending 16 = .ok (.getfield 29, 3) := by decide +kernel
theorem dX8_ending_19 : decode cX8_ending 19 = .ok (.iconst 0, 1) := by decide +kernel
theorem dX8_ending_20 : decode cX8_ending 20 = .ok (.iaload, 1) := by decide +kernel
theorem dX8_ending_21 : decode cX8_ending 21 = .ok (.iconst 4, 1) := by decide +kernel
theorem dX8_ending_22 : decode cX8_ending 22 = .ok (.if_icmp .gt 7, 3) := by decide +kernel
theorem dX8_ending_25 : decode cX8_ending 25 = .ok (.iconst 1, 1) := by decide +kernel
theorem dX8_ending_26 : decode cX8_ending 26 = .ok (.goto 4, 3) := by decide +kernel
theorem dX8_ending_29 : decode cX8_ending 29 = .ok (.iconst 0, 1) := by decide +kernel
theorem dX8_ending_30 : decode cX8_ending 30 = .ok (.istore_n 2, 1) := by decide +kernel
theorem dX8_ending_31 : decode cX8_ending 31 = .ok (.iconst 0, 1) := by decide +kernel
theorem dX8_ending_32 : decode cX8_ending 32 = .ok (.istore_n 3, 1) := by decide +kernel
theorem dX8_ending_33 : decode cX8_ending 33 = .ok (.iload_n 3, 1) := by decide +kernel
theorem dX8_ending_34 : decode cX8_ending 34 = .ok (.aload_n 0, 1) := by decide +kernel
theorem dX8_ending_35 : decode cX8_ending 35 = .ok (.getfield 7, 3) := by decide +kernel
theorem dX8_ending_38 : decode cX8_ending 38 = .ok (.iconst 1, 1) := by decide +kernel
theorem dX8_ending_39 : decode cX8_ending 39 = .ok (.iaload, 1) := by decide +kernel
theorem dX8_ending_40 : decode cX8_ending 40 = .ok (.if_icmp .ge 31, 3) := by decide +kernel
theorem dX8_ending_43 : decode cX8_ending 43 = .ok (.iload_n 2, 1) := by decide +kernel
theorem dX8_ending_44 : decode cX8_ending 44 = .ok (.ifCond .eq 27, 3) := by decide +kernel
theorem dX8_ending_47 : decode cX8_ending 47 = .ok (.aload_n 0, 1) := by decide +kernel
theorem dX8_ending_48 : decode cX8_ending 48 = .ok (.iconst 0, 1) := by decide +kernel
theorem dX8_ending_49 : decode cX8_ending 49 = .ok (.iload_n 3, 1) := by decide +kernel
theorem dX8_ending_50 : decode cX8_ending 50 = .ok (.invokestatic 82, 3) := by decide +kernel
theorem dX8_ending_53 : decode cX8_ending 53 = .ok (.invokevirtual 66, 3) := by decide +kernel
theorem dX8_ending_56 : decode cX8_ending 56 = .ok (.ifCond .ne 7, 3) := by decide +kernel
theorem dX8_ending_59 : decode cX8_ending 59 = .ok (.iconst 1, 1) := by decide +kernel
theorem dX8_ending_60 : decode cX8_ending 60 = .ok (.goto 4, 3) := by decide +kernel
theorem dX8_ending_63 : decode cX8_ending 63 = .ok (.iconst 0, 1) := by decide +kernel
theorem dX8_ending_64 : decode cX8_ending 64 = .ok (.istore_n 2, 1) := by decide +kernel
theorem dX8_ending_65 : decode cX8_ending 65 = .ok (.iinc 3 1, 3) := by decide +kernel
theorem dX8_ending_68 : decode cX8_ending 68 = .ok (.goto (-35), 3) := by decide +kernel
theorem dX8_ending_71 : decode cX8_ending 71 = .ok (.iload_n 2, 1) := by decide +kernel
theorem dX8_ending_72 : decode cX8_ending 72 = .ok (.ifCond .ne 6, 3) := by decide +kernel
theorem dX8_ending_75 : decode cX8_ending 75 = .ok (.ldc 77, 2) := by decide +kernel
theorem dX8_ending_77 : decode cX8_ending 77 = .ok (.ireturn, 1) := by decide +kernel
theorem dX8_ending_78 : decode cX8_ending 78 = .ok (.aload_n 0, 1) := by decide +kernel
theorem dX8_ending_79 : decode cX8_ending 79 = .ok (.getfield 7, 3) := by decide +kernel
theorem dX8_ending_82 : decode cX8_ending 82 = .ok (.iconst 1, 1) := by decide +kernel
theorem dX8_ending_83 : decode cX8_ending 83 = .ok (.iaload, 1) := by decide +kernel
theorem dX8_ending_84 : decode cX8_ending 84 = .ok (.iconst 5, 1) := by decide +kernel
theorem dX8_ending_85 : decode cX8_ending 85 = .ok (.if_icmp .ne 6, 3) := by decide +kernel
theorem dX8_ending_88 : decode cX8_ending 88 = .ok (.ldc 57, 2) := by decide +kernel
theorem dX8_ending_90 : decode cX8_ending 90 = .ok (.ireturn, 1) := by decide +kernel
theorem dX8_ending_91 : decode cX8_ending 91 = .ok (.aload_n 0, 1) := by decide +kernel
theorem dX8_ending_92 : decode cX8_ending 92 = .ok (.iconst 0, 1) := by decide +kernel
theorem dX8_ending_93 : decode cX8_ending 93 = .ok (.aload_n 0, 1) := by decide +kernel
theorem dX8_ending_94 : decode cX8_ending 94 = .ok (.getfield 7, 3) := by decide +kernel
theorem dX8_ending_97 : decode cX8_ending 97 = .ok (.iconst 1, 1) := by decide +kernel
theorem dX8_ending_98 : decode cX8_ending 98 = .ok (.iaload, 1) := by decide +kernel
theorem dX8_ending_99 : decode cX8_ending 99 = .ok (.invokestatic 82, 3) := by decide +kernel
theorem dX8_ending_102 : decode cX8_ending 102 = .ok (.invokevirtual 78, 3) := by decide +kernel
theorem dX8_ending_105 : decode cX8_ending 105 = .ok (.aload_n 0, 1) := by decide +kernel
theorem dX8_ending_106 : decode cX8_ending 106 = .ok (.getfield 7, 3) := by decide +kernel
theorem dX8_ending_109 : decode cX8_ending 109 = .ok (.iconst 1, 1) := by decide +kernel
theorem dX8_ending_110 : decode cX8_ending 110 = .ok (.dup2, 1) := by decide +kernel
theorem dX8_ending_111 : decode cX8_ending 111 = .ok (.iaload, 1) := by decide +kernel
theorem dX8_ending_112 : decode cX8_ending 112 = .ok (.iconst 1, 1) := by decide +kernel
theorem dX8_ending_113 : decode cX8_ending 113 = .ok (.iadd, 1) := by decide +kernel
theorem dX8_ending_114 : decode cX8_ending 114 = .ok (.iastore, 1) := by decide +kernel
theorem dX8_ending_115 : decode cX8_ending 115 = .ok (.aload_n 0, 1) := by decide +kernel
theorem dX8_ending_116 : decode cX8_ending 116 = .ok (.getfield 7, 3) := by decide +kernel
theorem dX8_ending_119 : decode cX8_ending 119 = .ok (.iconst 1, 1) := by decide +kernel
theorem dX8_ending_120 : decode cX8_ending 120 = .ok (.iaload, 1) := by decide +kernel
theorem dX8_ending_121 : decode cX8_ending 121 = .ok (.iconst 1, 1) := by decide +kernel
theorem dX8_ending_122 : decode cX8_ending 122 = .ok (.isub, 1) := by decide +kernel
theorem dX8_ending_123 : decode cX8_ending 123 = .ok (.ireturn, 1) := by decide +kernel
theorem dX8_isPreferred_0 : decode cX8_isPreferred 0 = .ok (.iconst 0, 1) := by decide +kernel
theorem dX8_isPreferred_1 : decode cX8_isPreferred 1 = .ok (.istore_n 2, 1) := by decide +kernel
theorem dX8_isPreferred_2 : decode cX8_isPreferred 2 = .ok (.iconst 0, 1) := by decide +kernel
theorem dX8_isPreferred_3 : decode cX8_isPreferred 3 = .ok (.istore_n 3, 1) := by decide +kernel
theorem dX8_isPreferred_4 : decode cX8_isPreferred 4 = .ok (.iload_n 3, 1) := by decide +kernel
theorem dX8_isPreferred_5 : decode cX8_isPreferred 5 = .ok (.aload_n 0, 1) := by decide +kernel
theorem dX8_isPreferred_6 : decode cX8_isPreferred 6 = .ok (.getfield 7, 3) := by decide +kernel
theorem dX8_isPreferred_9 : decode cX8_isPreferred 9 = .ok (.iconst 0, 1) := by decide +kernel
theorem dX8_isPreferred_10 : decode cX8_isPreferred 10 = .ok (.iaload, 1) := by decide +kernel
theorem dX8_isPreferred_11 : decode cX8_isPreferred 11 = .ok (.if_icmp .ge 34, 3) := by decide +kernel
theorem dX8_isPreferred_14 : decode cX8_isPreferred 14 = .ok (.iload_n 2, 1) := by decide +kernel
theorem dX8_isPreferred_15 : decode cX8_isPreferred 15 = .ok (.ifCond .ne 18, 3) := by decide +kernel
theorem dX8_isPreferred_18 : decode cX8_isPreferred 18 = .ok (.aload_n 0, 1) := by decide +kernel
theorem dX8_isPreferred_19 : decode cX8_isPreferred 19 = .ok (.getfield 7, 3) := by decide +kernel
theorem dX8_isPreferred_22 : decode cX8_isPreferred 22 = .ok (.iload_n 3, 1) := by decide +kernel
theorem dX8_isPreferred_23 : decode cX8_isPreferred 23 = .ok (.invokestatic 58, 3) := by decide +kernel
theorem dX8_isPreferred_26 : decode cX8_isPreferred 26 = .ok (.iconst 3, 1) := by decide +kernel
theorem dX8_isPreferred_27 : decode cX8_isPreferred 27 = .ok (.iadd, 1) := by decide +kernel
theorem dX8_isPreferred_28 : decode cX8_isPreferred 28 = .ok (.iaload, 1) := by decide +kernel
theorem dX8_isPreferred_29 : decode cX8_isPreferred 29 = .ok (.iload_n 1, 1) := by decide +kernel
theorem dX8_isPreferred_30 : decode cX8_isPreferred 30 = .ok (.if_icmp .ne 7, 3) := by decide +kernel
theorem dX8_isPreferred_33 : decode cX8_isPreferred 33 = .ok (.iconst 1, 1) := by decide +kernel
theorem dX8_isPreferred_34 : decode cX8_isPreferred 34 = .ok (.goto 4, 3) := by decide +kernel
theorem dX8_isPreferred_37 : decode cX8_isPreferred 37 = .ok (.iconst 0, 1) := by decide +kernel
theorem dX8_isPreferred_38 : decode cX8_isPreferred 38 = .ok (.istore_n 2, 1) := by decide +kernel
theorem dX8_isPreferred_39 : decode cX8_isPreferred 39 = .ok (.iinc 3 1, 3) := by decide +kernel
theorem dX8_isPreferred_42 : decode cX8_isPreferred 42 = .ok (.goto (-38), 3) := by decide +kernel
theorem dX8_isPreferred_45 : decode cX8_isPreferred 45 = .ok (.iload_n 2, 1) := by decide +kernel
theorem dX8_isPreferred_46 : decode cX8_isPreferred 46 = .ok (.ireturn, 1) := by decide +kernel
theorem dX8_forbidden_0 : decode cX8_forbidden 0 = .ok (.iconst 0, 1) := by decide +kernel
theorem dX8_forbidden_1 : decode cX8_forbidden 1 = .ok (.istore_n 1, 1) := by decide +kernel
theorem dX8_forbidden_2 : decode cX8_forbidden 2 = .ok (.iconst 0, 1) := by decide +kernel
theorem dX8_forbidden_3 : decode cX8_forbidden 3 = .ok (.istore_n 2, 1) := by decide +kernel
theorem dX8_forbidden_4 : decode cX8_forbidden 4 = .ok (.iload_n 2, 1) := by decide +kernel
theorem dX8_forbidden_5 : decode cX8_forbidden 5 = .ok (.aload_n 0, 1) := by decide +kernel
theorem dX8_forbidden_6 : decode cX8_forbidden 6 = .ok (.getfield 7, 3) := by decide +kernel
theorem dX8_forbidden_9 : decode cX8_forbidden 9 = .ok (.iconst 0, 1) := by decide +kernel
theorem dX8_forbidden_10 : decode cX8_forbidden 10 = .ok (.iaload, 1) := by decide +kernel
theorem dX8_forbidden_11 : decode cX8_forbidden 11 = .ok (.if_icmp .ge 34, 3) := by decide +kernel
theorem dX8_forbidden_14 : decode cX8_forbidden 14 = .ok (.iload_n 1, 1) := by decide +kernel
theorem dX8_forbidden_15 : decode cX8_forbidden 15 = .ok (.aload_n 0, 1) := by decide +kernel
theorem dX8_forbidden_16 : decode cX8_forbidden 16 = .ok (.getfield 7, 3) := by decide +kernel
theorem dX8_forbidden_19 : decode cX8_forbidden 19 = .ok (.iload_n 2, 1) := by decide +kernel
theorem dX8_forbidden_20 : decode cX8_forbidden 20 = .ok (.invokestatic 58, 3) := by decide +kernel
theorem dX8_forbidden_23 : decode cX8_forbidden 23 = .ok (.iconst 3, 1) := by decide +kernel
theorem dX8_forbidden_24 : decode cX8_forbidden 24 = .ok (.iadd, 1) := by decide +kernel
theorem dX8_forbidden_25 : decode cX8_forbidden 25 = .ok (.iaload, 1) := by decide +kernel
theorem dX8_forbidden_26 : decode cX8_forbidden 26 = .ok (.iconst (-1), 1) := by decide +kernel
theorem dX8_forbidden_27 : decode cX8_forbidden 27 = .ok (.if_icmp .eq 9, 3) := by decide +kernel
theorem dX8_forbidden_30 : decode cX8_forbidden 30 = .ok (.iconst 1, 1) := by decide +kernel
theorem dX8_forbidden_31 : decode cX8_forbidden 31 = .ok (.iload_n 2, 1) := by decide +kernel
theorem dX8_forbidden_32 : decode cX8_forbidden 32 = .ok (.ishl, 1) := by decide +kernel
theorem dX8_forbidden_33 : decode cX8_forbidden 33 = .ok (.goto 4, 3) := by decide +kernel
theorem dX8_forbidden_36 : decode cX8_forbidden 36 = .ok (.iconst 0, 1) := by decide +kernel
theorem dX8_forbidden_37 : decode cX8_forbidden 37 = .ok (.ior, 1) := by decide +kernel
theorem dX8_forbidden_38 : decode cX8_forbidden 38 = .ok (.istore_n 1, 1) := by decide +kernel
theorem dX8_forbidden_39 : decode cX8_forbidden 39 = .ok (.iinc 2 1, 3) := by decide +kernel
theorem dX8_forbidden_42 : decode cX8_forbidden 42 = .ok (.goto (-38), 3) := by decide +kernel
theorem dX8_forbidden_45 : decode cX8_forbidden 45 = .ok (.iload_n 1, 1) := by decide +kernel
theorem dX8_forbidden_46 : decode cX8_forbidden 46 = .ok (.ireturn, 1) := by decide +kernel
theorem dX8_ones_0 : decode cX8_ones 0 = .ok (.iconst 0, 1) := by decide +kernel
theorem dX8_ones_1 : decode cX8_ones 1 = .ok (.istore_n 1, 1) := by decide +kernel
theorem dX8_ones_2 : decode cX8_ones 2 = .ok (.iconst 0, 1) := by decide +kernel
theorem dX8_ones_3 : decode cX8_ones 3 = .ok (.istore_n 2, 1) := by decide +kernel
theorem dX8_ones_4 : decode cX8_ones 4 = .ok (.iload_n 2, 1) := by decide +kernel
theorem dX8_ones_5 : decode cX8_ones 5 = .ok (.bipush 8, 2) := by decide +kernel
theorem dX8_ones_7 : decode cX8_ones 7 = .ok (.if_icmp .ge 17, 3) := by decide +kernel
theorem dX8_ones_10 : decode cX8_ones 10 = .ok (.iload_n 1, 1) := by decide +kernel
theorem dX8_ones_11 : decode cX8_ones 11 = .ok (.iload_n 0, 1) := by decide +kernel
theorem dX8_ones_12 : decode cX8_ones 12 = .ok (.iload_n 2, 1) := by decide +kernel
theorem dX8_ones_13 : decode cX8_ones 13 = .ok (.ishr, 1) := by decide +kernel
theorem dX8_ones_14 : decode cX8_ones 14 = .ok (.iconst 1, 1) := by decide +kernel
theorem dX8_ones_15 : decode cX8_ones 15 = .ok (.iand, 1) := by decide +kernel
theorem dX8_ones_16 : decode cX8_ones 16 = .ok (.iadd, 1) := by decide +kernel
theorem dX8_ones_17 : decode cX8_ones 17 = .ok (.istore_n 1, 1) := by decide +kernel
theorem dX8_ones_18 : decode cX8_ones 18 = .ok (.iinc 2 1, 3) := by decide +kernel
theorem dX8_ones_21 : decode cX8_ones 21 = .ok (.goto (-17), 3) := by decide +kernel
theorem dX8_ones_24 : decode cX8_ones 24 = .ok (.iload_n 1, 1) := by decide +kernel
theorem dX8_ones_25 : decode cX8_ones 25 = .ok (.ireturn, 1) := by decide +kernel
theorem dX8_dropTerm_0 : decode cX8_dropTerm 0 = .ok (.aload_n 0, 1) := by decide +kernel
theorem dX8_dropTerm_1 : decode cX8_dropTerm 1 = .ok (.iload_n 1, 1) := by decide +kernel
theorem dX8_dropTerm_2 : decode cX8_dropTerm 2 = .ok (.invokevirtual 85, 3) := by decide +kernel
theorem dX8_dropTerm_5 : decode cX8_dropTerm 5 = .ok (.ifCond .ne 6, 3) := by decide +kernel
theorem dX8_dropTerm_8 : decode cX8_dropTerm 8 = .ok (.ldc 88, 2) := by decide +kernel
theorem dX8_dropTerm_10 : decode cX8_dropTerm 10 = .ok (.ireturn, 1) := by decide +kernel
theorem dX8_dropTerm_11 : decode cX8_dropTerm 11 = .ok (.aload_n 0, 1) := by decide +kernel
theorem dX8_dropTerm_12 : decode cX8_dropTerm 12 = .ok (.iload_n 1, 1) := by decide +kernel
theorem dX8_dropTerm_13 : decode cX8_dropTerm 13 = .ok (.invokevirtual 89, 3) := by decide +kernel
theorem dX8_dropTerm_16 : decode cX8_dropTerm 16 = .ok (.ifCond .eq 6, 3) := by decide +kernel
theorem dX8_dropTerm_19 : decode cX8_dropTerm 19 = .ok (.ldc 77, 2) := by decide +kernel
theorem dX8_dropTerm_21 : decode cX8_dropTerm 21 = .ok (.ireturn, 1) := by decide +kernel
theorem dX8_dropTerm_22 : decode cX8_dropTerm 22 = .ok (.iload_n 1, 1) := by decide +kernel
theorem dX8_dropTerm_23 : decode cX8_dropTerm 23 = .ok (.invokestatic 58, 3) := by decide +kernel
theorem dX8_dropTerm_26 : decode cX8_dropTerm 26 = .ok (.istore_n 2, 1) := by decide +kernel
theorem dX8_dropTerm_27 : decode cX8_dropTerm 27 = .ok (.iload_n 2, 1) := by decide +kernel
theorem dX8_dropTerm_28 : decode cX8_dropTerm 28 = .ok (.bipush 56, 2) := by decide +kernel
theorem dX8_dropTerm_30 : decode cX8_dropTerm 30 = .ok (.iadd, 1) := by decide +kernel
theorem dX8_dropTerm_31 : decode cX8_dropTerm 31 = .ok (.sipush 450, 3) := by decide +kernel
theorem dX8_dropTerm_34 : decode cX8_dropTerm 34 = .ok (.if_icmp .ge 24, 3) := by decide +kernel
theorem dX8_dropTerm_37 : decode cX8_dropTerm 37 = .ok (.aload_n 0, 1) := by decide +kernel
theorem dX8_dropTerm_38 : decode cX8_dropTerm 38 = .ok (.getfield 7, 3) := by decide +kernel
theorem dX8_dropTerm_41 : decode cX8_dropTerm 41 = .ok (.iload_n 2, 1) := by decide +kernel
theorem dX8_dropTerm_42 : decode cX8_dropTerm 42 = .ok (.aload_n 0, 1) := by decide +kernel
theorem dX8_dropTerm_43 : decode cX8_dropTerm 43 = .ok (.getfield 7, 3) := by decide +kernel
theorem dX8_dropTerm_46 : decode cX8_dropTerm 46 = .ok (.iload_n 2, 1) := by decide +kernel
theorem dX8_dropTerm_47 : decode cX8_dropTerm 47 = .ok (.bipush 56, 2) := by decide +kernel
theorem dX8_dropTerm_49 : decode cX8_dropTerm 49 = .ok (.iadd, 1) := by decide +kernel
theorem dX8_dropTerm_50 : decode cX8_dropTerm 50 = .ok (.iaload, 1) := by decide +kernel
theorem dX8_dropTerm_51 : decode cX8_dropTerm 51 = .ok (.iastore, 1) := by decide +kernel
theorem dX8_dropTerm_52 : decode cX8_dropTerm 52 = .ok (.iinc 2 1, 3) := by decide +kernel
theorem dX8_dropTerm_55 : decode cX8_dropTerm 55 = .ok (.goto (-28), 3) := by decide +kernel
theorem dX8_dropTerm_58 : decode cX8_dropTerm 58 = .ok (.aload_n 0, 1) := by decide +kernel
theorem dX8_dropTerm_59 : decode cX8_dropTerm 59 = .ok (.getfield 7, 3) := by decide +kernel
theorem dX8_dropTerm_62 : decode cX8_dropTerm 62 = .ok (.iconst 0, 1) := by decide +kernel
theorem dX8_dropTerm_63 : decode cX8_dropTerm 63 = .ok (.dup2, 1) := by decide +kernel
theorem dX8_dropTerm_64 : decode cX8_dropTerm 64 = .ok (.iaload, 1) := by decide +kernel
theorem dX8_dropTerm_65 : decode cX8_dropTerm 65 = .ok (.iconst 1, 1) := by decide +kernel
theorem dX8_dropTerm_66 : decode cX8_dropTerm 66 = .ok (.isub, 1) := by decide +kernel
theorem dX8_dropTerm_67 : decode cX8_dropTerm 67 = .ok (.iastore, 1) := by decide +kernel
theorem dX8_dropTerm_68 : decode cX8_dropTerm 68 = .ok (.iconst 0, 1) := by decide +kernel
theorem dX8_dropTerm_69 : decode cX8_dropTerm 69 = .ok (.istore_n 2, 1) := by decide +kernel
theorem dX8_dropTerm_70 : decode cX8_dropTerm 70 = .ok (.iload_n 2, 1) := by decide +kernel
theorem dX8_dropTerm_71 : decode cX8_dropTerm 71 = .ok (.aload_n 0, 1) := by decide +kernel
theorem dX8_dropTerm_72 : decode cX8_dropTerm 72 = .ok (.getfield 7, 3) := by decide +kernel
theorem dX8_dropTerm_75 : decode cX8_dropTerm 75 = .ok (.iconst 0, 1) := by decide +kernel
theorem dX8_dropTerm_76 : decode cX8_dropTerm 76 = .ok (.iaload, 1) := by decide +kernel
theorem dX8_dropTerm_77 : decode cX8_dropTerm 77 = .ok (.if_icmp .ge 40, 3) := by decide +kernel
theorem dX8_dropTerm_80 : decode cX8_dropTerm 80 = .ok (.iload_n 2, 1) := by decide +kernel
theorem dX8_dropTerm_81 : decode cX8_dropTerm 81 = .ok (.invokestatic 58, 3) := by decide +kernel
theorem dX8_dropTerm_84 : decode cX8_dropTerm 84 = .ok (.iconst 3, 1) := by decide +kernel
theorem dX8_dropTerm_85 : decode cX8_dropTerm 85 = .ok (.iadd, 1) := by decide +kernel
theorem dX8_dropTerm_86 : decode cX8_dropTerm 86 = .ok (.istore_n 3, 1) := by decide +kernel
theorem dX8_dropTerm_87 : decode cX8_dropTerm 87 = .ok (.aload_n 0, 1) := by decide +kernel
theorem dX8_dropTerm_88 : decode cX8_dropTerm 88 = .ok (.getfield 7, 3) := by decide +kernel
theorem dX8_dropTerm_91 : decode cX8_dropTerm 91 = .ok (.iload_n 3, 1) := by decide +kernel
theorem dX8_dropTerm_92 : decode cX8_dropTerm 92 = .ok (.dup2, 1) := by decide +kernel
theorem dX8_dropTerm_93 : decode cX8_dropTerm 93 = .ok (.iaload, 1) := by decide +kernel
theorem dX8_dropTerm_94 : decode cX8_dropTerm 94 = .ok (.aload_n 0, 1) := by decide +kernel
theorem dX8_dropTerm_95 : decode cX8_dropTerm 95 = .ok (.getfield 7, 3) := by decide +kernel
theorem dX8_dropTerm_98 : decode cX8_dropTerm 98 = .ok (.iload_n 3, 1) := by decide +kernel
theorem dX8_dropTerm_99 : decode cX8_dropTerm 99 = .ok (.iaload, 1) := by decide +kernel
theorem dX8_dropTerm_100 : decode cX8_dropTerm 100 = .ok (.iload_n 1, 1) := by decide +kernel
theorem dX8_dropTerm_101 : decode cX8_dropTerm 101 = .ok (.if_icmp .le 7, 3) := by decide +kernel
theorem dX8_dropTerm_104 : decode cX8_dropTerm 104 = .ok (.iconst 1, 1) := by decide +kernel
theorem dX8_dropTerm_105 : decode cX8_dropTerm 105 = .ok (.goto 4, 3) := by decide +kernel
theorem dX8_dropTerm_108 : decode cX8_dropTerm 108 = .ok (.iconst 0, 1) := by decide +kernel
theorem dX8_dropTerm_109 : decode cX8_dropTerm 109 = .ok (.isub, 1) := by decide +kernel
theorem dX8_dropTerm_110 : decode cX8_dropTerm 110 = .ok (.iastore, 1) := by decide +kernel
theorem dX8_dropTerm_111 : decode cX8_dropTerm 111 = .ok (.iinc 2 1, 3) := by decide +kernel
theorem dX8_dropTerm_114 : decode cX8_dropTerm 114 = .ok (.goto (-44), 3) := by decide +kernel
theorem dX8_dropTerm_117 : decode cX8_dropTerm 117 = .ok (.aload_n 0, 1) := by decide +kernel
theorem dX8_dropTerm_118 : decode cX8_dropTerm 118 = .ok (.getfield 7, 3) := by decide +kernel
theorem dX8_dropTerm_121 : decode cX8_dropTerm 121 = .ok (.iconst 0, 1) := by decide +kernel
theorem dX8_dropTerm_122 : decode cX8_dropTerm 122 = .ok (.iaload, 1) := by decide +kernel
theorem dX8_dropTerm_123 : decode cX8_dropTerm 123 = .ok (.ireturn, 1) := by decide +kernel
theorem dX8_dropEnding_0 : decode cX8_dropEnding 0 = .ok (.aload_n 0, 1) := by decide +kernel
theorem dX8_dropEnding_1 : decode cX8_dropEnding 1 = .ok (.iload_n 1, 1) := by decide +kernel
theorem dX8_dropEnding_2 : decode cX8_dropEnding 2 = .ok (.invokevirtual 92, 3) := by decide +kernel
theorem dX8_dropEnding_5 : decode cX8_dropEnding 5 = .ok (.ifCond .ne 6, 3) := by decide +kernel
theorem dX8_dropEnding_8 : decode cX8_dropEnding 8 = .ok (.ldc 88, 2) := by decide +kernel
theorem dX8_dropEnding_10 : decode cX8_dropEnding 10 = .ok (.ireturn, 1) := by decide +kernel
theorem dX8_dropEnding_11 : decode cX8_dropEnding 11 = .ok (.iload_n 1, 1) := by decide +kernel
theorem dX8_dropEnding_12 : decode cX8_dropEnding 12 = .ok (.invokestatic 82, 3) := by decide +kernel
theorem dX8_dropEnding_15 : decode cX8_dropEnding 15 = .ok (.istore_n 2, 1) := by decide +kernel
theorem dX8_dropEnding_16 : decode cX8_dropEnding 16 = .ok (.iload_n 2, 1) := by decide +kernel
theorem dX8_dropEnding_17 : decode cX8_dropEnding 17 = .ok (.iconst 5, 1) := by decide +kernel
theorem dX8_dropEnding_18 : decode cX8_dropEnding 18 = .ok (.iadd, 1) := by decide +kernel
theorem dX8_dropEnding_19 : decode cX8_dropEnding 19 = .ok (.sipush 475, 3) := by decide +kernel
theorem dX8_dropEnding_22 : decode cX8_dropEnding 22 = .ok (.if_icmp .ge 23, 3) := by decide +kernel
theorem dX8_dropEnding_25 : decode cX8_dropEnding 25 = .ok (.aload_n 0, 1) := by decide +kernel
theorem dX8_dropEnding_26 : decode cX8_dropEnding 26 = .ok (.getfield 7, 3) := by decide +kernel
theorem dX8_dropEnding_29 : decode cX8_dropEnding 29 = .ok (.iload_n 2, 1) := by decide +kernel
theorem dX8_dropEnding_30 : decode cX8_dropEnding 30 = .ok (.aload_n 0, 1) := by decide +kernel
theorem dX8_dropEnding_31 : decode cX8_dropEnding 31 = .ok (.getfield 7, 3) := by decide +kernel
theorem dX8_dropEnding_34 : decode cX8_dropEnding 34 = .ok (.iload_n 2, 1) := by decide +kernel
theorem dX8_dropEnding_35 : decode cX8_dropEnding 35 = .ok (.iconst 5, 1) := by decide +kernel
theorem dX8_dropEnding_36 : decode cX8_dropEnding 36 = .ok (.iadd, 1) := by decide +kernel
theorem dX8_dropEnding_37 : decode cX8_dropEnding 37 = .ok (.iaload, 1) := by decide +kernel
theorem dX8_dropEnding_38 : decode cX8_dropEnding 38 = .ok (.iastore, 1) := by decide +kernel
theorem dX8_dropEnding_39 : decode cX8_dropEnding 39 = .ok (.iinc 2 1, 3) := by decide +kernel
theorem dX8_dropEnding_42 : decode cX8_dropEnding 42 = .ok (.goto (-26), 3) := by decide +kernel
theorem dX8_dropEnding_45 : decode cX8_dropEnding 45 = .ok (.aload_n 0, 1) := by decide +kernel
theorem dX8_dropEnding_46 : decode cX8_dropEnding 46 = .ok (.getfield 7, 3) := by decide +kernel
theorem dX8_dropEnding_49 : decode cX8_dropEnding 49 = .ok (.iconst 1, 1) := by decide +kernel
theorem dX8_dropEnding_50 : decode cX8_dropEnding 50 = .ok (.dup2, 1) := by decide +kernel
theorem dX8_dropEnding_51 : decode cX8_dropEnding 51 = .ok (.iaload, 1) := by decide +kernel
theorem dX8_dropEnding_52 : decode cX8_dropEnding 52 = .ok (.iconst 1, 1) := by decide +kernel
theorem dX8_dropEnding_53 : decode cX8_dropEnding 53 = .ok (.isub, 1) := by decide +kernel
theorem dX8_dropEnding_54 : decode cX8_dropEnding 54 = .ok (.iastore, 1) := by decide +kernel
theorem dX8_dropEnding_55 : decode cX8_dropEnding 55 = .ok (.aload_n 0, 1) := by decide +kernel
theorem dX8_dropEnding_56 : decode cX8_dropEnding 56 = .ok (.getfield 7, 3) := by decide +kernel
theorem dX8_dropEnding_59 : decode cX8_dropEnding 59 = .ok (.iconst 1, 1) := by decide +kernel
theorem dX8_dropEnding_60 : decode cX8_dropEnding 60 = .ok (.iaload, 1) := by decide +kernel
theorem dX8_dropEnding_61 : decode cX8_dropEnding 61 = .ok (.ireturn, 1) := by decide +kernel
theorem dX8_forbid_0 : decode cX8_forbid 0 = .ok (.aload_n 0, 1) := by decide +kernel
theorem dX8_forbid_1 : decode cX8_forbid 1 = .ok (.iload_n 1, 1) := by decide +kernel
theorem dX8_forbid_2 : decode cX8_forbid 2 = .ok (.invokevirtual 85, 3) := by decide +kernel
theorem dX8_forbid_5 : decode cX8_forbid 5 = .ok (.ifCond .eq 16, 3) := by decide +kernel
theorem dX8_forbid_8 : decode cX8_forbid 8 = .ok (.aload_n 0, 1) := by decide +kernel
theorem dX8_forbid_9 : decode cX8_forbid 9 = .ok (.iload_n 2, 1) := by decide +kernel
theorem dX8_forbid_10 : decode cX8_forbid 10 = .ok (.invokevirtual 85, 3) := by decide +kernel
theorem dX8_forbid_13 : decode cX8_forbid 13 = .ok (.ifCond .eq 8, 3) := by decide +kernel
theorem dX8_forbid_16 : decode cX8_forbid 16 = .ok (.iload_n 1, 1) := by decide +kernel
theorem dX8_forbid_17 : decode cX8_forbid 17 = .ok (.iload_n 2, 1) := by decide +kernel
theorem dX8_forbid_18 : decode cX8_forbid 18 = .ok (.if_icmp .ne 6, 3) := by decide +kernel
theorem dX8_forbid_21 : decode cX8_forbid 21 = .ok (.ldc 88, 2) := by decide +kernel
theorem dX8_forbid_23 : decode cX8_forbid 23 = .ok (.ireturn, 1) := by decide +kernel
theorem dX8_forbid_24 : decode cX8_forbid 24 = .ok (.aload_n 0, 1) := by decide +kernel
theorem dX8_forbid_25 : decode cX8_forbid 25 = .ok (.iload_n 1, 1) := by decide +kernel
theorem dX8_forbid_26 : decode cX8_forbid 26 = .ok (.invokevirtual 89, 3) := by decide +kernel
theorem dX8_forbid_29 : decode cX8_forbid 29 = .ok (.ifCond .ne 18, 3) := by decide +kernel
theorem dX8_forbid_32 : decode cX8_forbid 32 = .ok (.aload_n 0, 1) := by decide +kernel
theorem dX8_forbid_33 : decode cX8_forbid 33 = .ok (.getfield 7, 3) := by decide +kernel
theorem dX8_forbid_36 : decode cX8_forbid 36 = .ok (.iload_n 2, 1) := by decide +kernel
theorem dX8_forbid_37 : decode cX8_forbid 37 = .ok (.invokestatic 58, 3) := by decide +kernel
theorem dX8_forbid_40 : decode cX8_forbid 40 = .ok (.iconst 3, 1) := by decide +kernel
theorem dX8_forbid_41 : decode cX8_forbid 41 = .ok (.iadd, 1) := by decide +kernel
theorem dX8_forbid_42 : decode cX8_forbid 42 = .ok (.iaload, 1) := by decide +kernel
theorem dX8_forbid_43 : decode cX8_forbid 43 = .ok (.iconst (-1), 1) := by decide +kernel
theorem dX8_forbid_44 : decode cX8_forbid 44 = .ok (.if_icmp .eq 6, 3) := by decide +kernel
theorem dX8_forbid_47 : decode cX8_forbid 47 = .ok (.ldc 77, 2) := by decide +kernel
theorem dX8_forbid_49 : decode cX8_forbid 49 = .ok (.ireturn, 1) := by decide +kernel
theorem dX8_forbid_50 : decode cX8_forbid 50 = .ok (.aload_n 0, 1) := by decide +kernel
theorem dX8_forbid_51 : decode cX8_forbid 51 = .ok (.getfield 7, 3) := by decide +kernel
theorem dX8_forbid_54 : decode cX8_forbid 54 = .ok (.iload_n 1, 1) := by decide +kernel
theorem dX8_forbid_55 : decode cX8_forbid 55 = .ok (.invokestatic 58, 3) := by decide +kernel
theorem dX8_forbid_58 : decode cX8_forbid 58 = .ok (.iconst 3, 1) := by decide +kernel
theorem dX8_forbid_59 : decode cX8_forbid 59 = .ok (.iadd, 1) := by decide +kernel
theorem dX8_forbid_60 : decode cX8_forbid 60 = .ok (.iload_n 2, 1) := by decide +kernel
theorem dX8_forbid_61 : decode cX8_forbid 61 = .ok (.iastore, 1) := by decide +kernel
theorem dX8_forbid_62 : decode cX8_forbid 62 = .ok (.aload_n 0, 1) := by decide +kernel
theorem dX8_forbid_63 : decode cX8_forbid 63 = .ok (.invokevirtual 95, 3) := by decide +kernel
theorem dX8_forbid_66 : decode cX8_forbid 66 = .ok (.invokestatic 98, 3) := by decide +kernel
theorem dX8_forbid_69 : decode cX8_forbid 69 = .ok (.ireturn, 1) := by decide +kernel
theorem dX8_allow_0 : decode cX8_allow 0 = .ok (.aload_n 0, 1) := by decide +kernel
theorem dX8_allow_1 : decode cX8_allow 1 = .ok (.iload_n 1, 1) := by decide +kernel
theorem dX8_allow_2 : decode cX8_allow 2 = .ok (.invokevirtual 85, 3) := by decide +kernel
theorem dX8_allow_5 : decode cX8_allow 5 = .ok (.ifCond .ne 6, 3) := by decide +kernel
theorem dX8_allow_8 : decode cX8_allow 8 = .ok (.ldc 88, 2) := by decide +kernel
theorem dX8_allow_10 : decode cX8_allow 10 = .ok (.ireturn, 1) := by decide +kernel
theorem dX8_allow_11 : decode cX8_allow 11 = .ok (.aload_n 0, 1) := by decide +kernel
theorem dX8_allow_12 : decode cX8_allow 12 = .ok (.getfield 7, 3) := by decide +kernel
theorem dX8_allow_15 : decode cX8_allow 15 = .ok (.iload_n 1, 1) := by decide +kernel
theorem dX8_allow_16 : decode cX8_allow 16 = .ok (.invokestatic 58, 3) := by decide +kernel
theorem dX8_allow_19 : decode cX8_allow 19 = .ok (.iconst 3, 1) := by decide +kernel
theorem dX8_allow_20 : decode cX8_allow 20 = .ok (.iadd, 1) := by decide +kernel
theorem dX8_allow_21 : decode cX8_allow 21 = .ok (.iaload, 1) := by decide +kernel
theorem dX8_allow_22 : decode cX8_allow 22 = .ok (.iconst (-1), 1) := by decide +kernel
theorem dX8_allow_23 : decode cX8_allow 23 = .ok (.if_icmp .ne 6, 3) := by decide +kernel
theorem dX8_allow_26 : decode cX8_allow 26 = .ok (.ldc 77, 2) := by decide +kernel
theorem dX8_allow_28 : decode cX8_allow 28 = .ok (.ireturn, 1) := by decide +kernel
theorem dX8_allow_29 : decode cX8_allow 29 = .ok (.aload_n 0, 1) := by decide +kernel
theorem dX8_allow_30 : decode cX8_allow 30 = .ok (.getfield 7, 3) := by decide +kernel
theorem dX8_allow_33 : decode cX8_allow 33 = .ok (.iload_n 1, 1) := by decide +kernel
theorem dX8_allow_34 : decode cX8_allow 34 = .ok (.invokestatic 58, 3) := by decide +kernel
theorem dX8_allow_37 : decode cX8_allow 37 = .ok (.iconst 3, 1) := by decide +kernel
theorem dX8_allow_38 : decode cX8_allow 38 = .ok (.iadd, 1) := by decide +kernel
theorem dX8_allow_39 : decode cX8_allow 39 = .ok (.iconst (-1), 1) := by decide +kernel
theorem dX8_allow_40 : decode cX8_allow 40 = .ok (.iastore, 1) := by decide +kernel
theorem dX8_allow_41 : decode cX8_allow 41 = .ok (.aload_n 0, 1) := by decide +kernel
theorem dX8_allow_42 : decode cX8_allow 42 = .ok (.invokevirtual 95, 3) := by decide +kernel
theorem dX8_allow_45 : decode cX8_allow 45 = .ok (.invokestatic 98, 3) := by decide +kernel
theorem dX8_allow_48 : decode cX8_allow 48 = .ok (.ireturn, 1) := by decide +kernel
theorem dX8_change_0 : decode cX8_change 0 = .ok (.aload_n 0, 1) := by decide +kernel
theorem dX8_change_1 : decode cX8_change 1 = .ok (.iload_n 1, 1) := by decide +kernel
theorem dX8_change_2 : decode cX8_change 2 = .ok (.invokevirtual 85, 3) := by decide +kernel
theorem dX8_change_5 : decode cX8_change 5 = .ok (.ifCond .ne 6, 3) := by decide +kernel
theorem dX8_change_8 : decode cX8_change 8 = .ok (.ldc 88, 2) := by decide +kernel
theorem dX8_change_10 : decode cX8_change 10 = .ok (.ireturn, 1) := by decide +kernel
theorem dX8_change_11 : decode cX8_change 11 = .ok (.iload_n 2, 1) := by decide +kernel
theorem dX8_change_12 : decode cX8_change 12 = .ok (.ifCond .ne 13, 3) := by decide +kernel
theorem dX8_change_15 : decode cX8_change 15 = .ok (.iload_n 3, 1) := by decide +kernel
theorem dX8_change_16 : decode cX8_change 16 = .ok (.iconst 1, 1) := by decide +kernel
theorem dX8_change_17 : decode cX8_change 17 = .ok (.bipush 9, 2) := by decide +kernel
theorem dX8_change_19 : decode cX8_change 19 = .ok (.invokestatic 44, 3) := by decide +kernel
theorem dX8_change_22 : decode cX8_change 22 = .ok (.ifCond .ne 17, 3) := by decide +kernel
theorem dX8_change_25 : decode cX8_change 25 = .ok (.iload_n 2, 1) := by decide +kernel
theorem dX8_change_26 : decode cX8_change 26 = .ok (.iconst 1, 1) := by decide +kernel
theorem dX8_change_27 : decode cX8_change 27 = .ok (.if_icmp .ne 16, 3) := by decide +kernel
theorem dX8_change_30 : decode cX8_change 30 = .ok (.iload_n 3, 1) := by decide +kernel
theorem dX8_change_31 : decode cX8_change 31 = .ok (.iconst 0, 1) := by decide +kernel
theorem dX8_change_32 : decode cX8_change 32 = .ok (.iconst 1, 1) := by decide +kernel
theorem dX8_change_33 : decode cX8_change 33 = .ok (.invokestatic 44, 3) := by decide +kernel
theorem dX8_change_36 : decode cX8_change 36 = .ok (.ifCond .eq 7, 3) := by decide +kernel
theorem dX8_change_39 : decode cX8_change 39 = .ok (.iconst 1, 1) := by decide +kernel
theorem dX8_change_40 : decode cX8_change 40 = .ok (.goto 4, 3) := by decide +kernel
theorem dX8_change_43 : decode cX8_change 43 = .ok (.iconst 0, 1) := by decide +kernel
theorem dX8_change_44 : decode cX8_change 44 = .ok (.istore 4, 2) := by decide +kernel
theorem dX8_change_46 : decode cX8_change 46 = .ok (.iload 4, 2) := by decide +kernel
theorem dX8_change_48 : decode cX8_change 48 = .ok (.ifCond .ne 6, 3) := by decide +kernel
theorem dX8_change_51 : decode cX8_change 51 = .ok (.ldc 52, 2) := by decide +kernel
theorem dX8_change_53 : decode cX8_change 53 = .ok (.ireturn, 1) := by decide +kernel
theorem dX8_change_54 : decode cX8_change 54 = .ok (.iload_n 1, 1) := by decide +kernel
theorem dX8_change_55 : decode cX8_change 55 = .ok (.invokestatic 58, 3) := by decide +kernel
theorem dX8_change_58 : decode cX8_change 58 = .ok (.iload_n 2, 1) := by decide +kernel
theorem dX8_change_59 : decode cX8_change 59 = .ok (.ifCond .ne 7, 3) := by decide +kernel
theorem dX8_change_62 : decode cX8_change 62 = .ok (.iconst 1, 1) := by decide +kernel
theorem dX8_change_63 : decode cX8_change 63 = .ok (.goto 4, 3) := by decide +kernel
theorem dX8_change_66 : decode cX8_change 66 = .ok (.iconst 2, 1) := by decide +kernel
theorem dX8_change_67 : decode cX8_change 67 = .ok (.iadd, 1) := by decide +kernel
theorem dX8_change_68 : decode cX8_change 68 = .ok (.istore 5, 2) := by decide +kernel
theorem dX8_change_70 : decode cX8_change 70 = .ok (.aload_n 0, 1) := by decide +kernel
theorem dX8_change_71 : decode cX8_change 71 = .ok (.getfield 7, 3) := by decide +kernel
theorem dX8_change_74 : decode cX8_change 74 = .ok (.iload 5, 2) := by decide +kernel
theorem dX8_change_76 : decode cX8_change 76 = .ok (.iaload, 1) := by decide +kernel
theorem dX8_change_77 : decode cX8_change 77 = .ok (.istore 6, 2) := by decide +kernel
theorem dX8_change_79 : decode cX8_change 79 = .ok (.aload_n 0, 1) := by decide +kernel
theorem dX8_change_80 : decode cX8_change 80 = .ok (.getfield 7, 3) := by decide +kernel
theorem dX8_change_83 : decode cX8_change 83 = .ok (.iload 5, 2) := by decide +kernel
theorem dX8_change_85 : decode cX8_change 85 = .ok (.iload_n 3, 1) := by decide +kernel
theorem dX8_change_86 : decode cX8_change 86 = .ok (.iastore, 1) := by decide +kernel
theorem dX8_change_87 : decode cX8_change 87 = .ok (.iload 6, 2) := by decide +kernel
theorem dX8_change_89 : decode cX8_change 89 = .ok (.ireturn, 1) := by decide +kernel
theorem dX8_termOf_0 : decode cX8_termOf 0 = .ok (.aload_n 0, 1) := by decide +kernel
theorem dX8_termOf_1 : decode cX8_termOf 1 = .ok (.iload_n 1, 1) := by decide +kernel
theorem dX8_termOf_2 : decode cX8_termOf 2 = .ok (.invokevirtual 85, 3) := by decide +kernel
theorem dX8_termOf_5 : decode cX8_termOf 5 = .ok (.ifCond .ne 6, 3) := by decide +kernel
theorem dX8_termOf_8 : decode cX8_termOf 8 = .ok (.ldc 88, 2) := by decide +kernel
theorem dX8_termOf_10 : decode cX8_termOf 10 = .ok (.ireturn, 1) := by decide +kernel
theorem dX8_termOf_11 : decode cX8_termOf 11 = .ok (.iload_n 2, 1) := by decide +kernel
theorem dX8_termOf_12 : decode cX8_termOf 12 = .ok (.iconst 0, 1) := by decide +kernel
theorem dX8_termOf_13 : decode cX8_termOf 13 = .ok (.iconst 5, 1) := by decide +kernel
theorem dX8_termOf_14 : decode cX8_termOf 14 = .ok (.invokestatic 44, 3) := by decide +kernel
theorem dX8_termOf_17 : decode cX8_termOf 17 = .ok (.ifCond .ne 6, 3) := by decide +kernel
theorem dX8_termOf_20 : decode cX8_termOf 20 = .ok (.ldc 52, 2) := by decide +kernel
theorem dX8_termOf_22 : decode cX8_termOf 22 = .ok (.ireturn, 1) := by decide +kernel
theorem dX8_termOf_23 : decode cX8_termOf 23 = .ok (.iload_n 2, 1) := by decide +kernel
theorem dX8_termOf_24 : decode cX8_termOf 24 = .ok (.iconst 4, 1) := by decide +kernel
theorem dX8_termOf_25 : decode cX8_termOf 25 = .ok (.if_icmp .ge 15, 3) := by decide +kernel
theorem dX8_termOf_28 : decode cX8_termOf 28 = .ok (.aload_n 0, 1) := by decide +kernel
theorem dX8_termOf_29 : decode cX8_termOf 29 = .ok (.getfield 7, 3) := by decide +kernel
theorem dX8_termOf_32 : decode cX8_termOf 32 = .ok (.iload_n 1, 1) := by decide +kernel
theorem dX8_termOf_33 : decode cX8_termOf 33 = .ok (.invokestatic 58, 3) := by decide +kernel
theorem dX8_termOf_36 : decode cX8_termOf 36 = .ok (.iload_n 2, 1) := by decide +kernel
theorem dX8_termOf_37 : decode cX8_termOf 37 = .ok (.iadd, 1) := by decide +kernel
theorem dX8_termOf_38 : decode cX8_termOf 38 = .ok (.iaload, 1) := by decide +kernel
theorem dX8_termOf_39 : decode cX8_termOf 39 = .ok (.ireturn, 1) := by decide +kernel
theorem dX8_termOf_40 : decode cX8_termOf 40 = .ok (.aload_n 0, 1) := by decide +kernel
theorem dX8_termOf_41 : decode cX8_termOf 41 = .ok (.invokevirtual 101, 3) := by decide +kernel
theorem dX8_termOf_44 : decode cX8_termOf 44 = .ok (.iconst 0, 1) := by decide +kernel
theorem dX8_termOf_45 : decode cX8_termOf 45 = .ok (.istore_n 3, 1) := by decide +kernel
theorem dX8_termOf_46 : decode cX8_termOf 46 = .ok (.iconst 0, 1) := by decide +kernel
theorem dX8_termOf_47 : decode cX8_termOf 47 = .ok (.istore 4, 2) := by decide +kernel
theorem dX8_termOf_49 : decode cX8_termOf 49 = .ok (.iload 4, 2) := by decide +kernel
theorem dX8_termOf_51 : decode cX8_termOf 51 = .ok (.aload_n 0, 1) := by decide +kernel
theorem dX8_termOf_52 : decode cX8_termOf 52 = .ok (.getfield 104, 3) := by decide +kernel
theorem dX8_termOf_55 : decode cX8_termOf 55 = .ok (.if_icmp .ge 51, 3) := by decide +kernel
theorem dX8_termOf_58 : decode cX8_termOf 58 = .ok (.iload_n 3, 1) := by decide +kernel
theorem dX8_termOf_59 : decode cX8_termOf 59 = .ok (.iload_n 2, 1) := by decide +kernel
theorem dX8_termOf_60 : decode cX8_termOf 60 = .ok (.iconst 4, 1) := by decide +kernel
theorem dX8_termOf_61 : decode cX8_termOf 61 = .ok (.if_icmp .ne 21, 3) := by decide +kernel
theorem dX8_termOf_64 : decode cX8_termOf 64 = .ok (.aload_n 0, 1) := by decide +kernel
theorem dX8_termOf_65 : decode cX8_termOf 65 = .ok (.iload_n 1, 1) := by decide +kernel
theorem dX8_termOf_66 : decode cX8_termOf 66 = .ok (.iload 4, 2) := by decide +kernel
theorem dX8_termOf_68 : decode cX8_termOf 68 = .ok (.invokevirtual 107, 3) := by decide +kernel
theorem dX8_termOf_71 : decode cX8_termOf 71 = .ok (.ifCond .eq 7, 3) := by decide +kernel
theorem dX8_termOf_74 : decode cX8_termOf 74 = .ok (.iconst 1, 1) := by decide +kernel
theorem dX8_termOf_75 : decode cX8_termOf 75 = .ok (.goto 23, 3) := by decide +kernel
theorem dX8_termOf_78 : decode cX8_termOf 78 = .ok (.iconst 0, 1) := by decide +kernel
theorem dX8_termOf_79 : decode cX8_termOf 79 = .ok (.goto 19, 3) := by decide +kernel
theorem dX8_termOf_82 : decode cX8_termOf 82 = .ok (.aload_n 0, 1) := by decide +kernel
theorem dX8_termOf_83 : decode cX8_termOf 83 = .ok (.getfield 38, 3) := by decide +kernel
theorem dX8_termOf_86 : decode cX8_termOf 86 = .ok (.iload 4, 2) := by decide +kernel
theorem dX8_termOf_88 : decode cX8_termOf 88 = .ok (.iaload, 1) := by decide +kernel
theorem dX8_termOf_89 : decode cX8_termOf 89 = .ok (.iload_n 1, 1) := by decide +kernel
theorem dX8_termOf_90 : decode cX8_termOf 90 = .ok (.if_icmp .ne 7, 3) := by decide +kernel
theorem dX8_termOf_93 : decode cX8_termOf 93 = .ok (.iconst 1, 1) := by decide +kernel
theorem dX8_termOf_94 : decode cX8_termOf 94 = .ok (.goto 4, 3) := by decide +kernel
theorem dX8_termOf_97 : decode cX8_termOf 97 = .ok (.iconst 0, 1) := by decide +kernel
theorem dX8_termOf_98 : decode cX8_termOf 98 = .ok (.iadd, 1) := by decide +kernel
theorem dX8_termOf_99 : decode cX8_termOf 99 = .ok (.istore_n 3, 1) := by decide +kernel
theorem dX8_termOf_100 : decode cX8_termOf 100 = .ok (.iinc 4 1, 3) := by decide +kernel
theorem dX8_termOf_103 : decode cX8_termOf 103 = .ok (.goto (-54), 3) := by decide +kernel
theorem dX8_termOf_106 : decode cX8_termOf 106 = .ok (.iload_n 3, 1) := by decide +kernel
theorem dX8_termOf_107 : decode cX8_termOf 107 = .ok (.ireturn, 1) := by decide +kernel
theorem dX8_letter_0 : decode cX8_letter 0 = .ok (.iload_n 2, 1) := by decide +kernel
theorem dX8_letter_1 : decode cX8_letter 1 = .ok (.iconst (-1), 1) := by decide +kernel
theorem dX8_letter_2 : decode cX8_letter 2 = .ok (.if_icmp .ne 14, 3) := by decide +kernel
theorem dX8_letter_5 : decode cX8_letter 5 = .ok (.aload_n 0, 1) := by decide +kernel
theorem dX8_letter_6 : decode cX8_letter 6 = .ok (.iload_n 1, 1) := by decide +kernel
theorem dX8_letter_7 : decode cX8_letter 7 = .ok (.invokevirtual 92, 3) := by decide +kernel
theorem dX8_letter_10 : decode cX8_letter 10 = .ok (.ifCond .ne 17, 3) := by decide +kernel
theorem dX8_letter_13 : decode cX8_letter 13 = .ok (.goto 11, 3) := by decide +kernel
theorem dX8_letter_16 : decode cX8_letter 16 = .ok (.aload_n 0, 1) := by decide +kernel
theorem dX8_letter_17 : decode cX8_letter 17 = .ok (.iload_n 1, 1) := by decide +kernel
theorem dX8_letter_18 : decode cX8_letter 18 = .ok (.invokevirtual 85, 3) := by decide +kernel
theorem dX8_letter_21 : decode cX8_letter 21 = .ok (.ifCond .ne 6, 3) := by decide +kernel
theorem dX8_letter_24 : decode cX8_letter 24 = .ok (.ldc 88, 2) := by decide +kernel
theorem dX8_letter_26 : decode cX8_letter 26 = .ok (.ireturn, 1) := by decide +kernel
theorem dX8_letter_27 : decode cX8_letter 27 = .ok (.iload_n 3, 1) := by decide +kernel
theorem dX8_letter_28 : decode cX8_letter 28 = .ok (.ifCond .lt 28, 3) := by decide +kernel
theorem dX8_letter_31 : decode cX8_letter 31 = .ok (.iload_n 2, 1) := by decide +kernel
theorem dX8_letter_32 : decode cX8_letter 32 = .ok (.iconst (-1), 1) := by decide +kernel
theorem dX8_letter_33 : decode cX8_letter 33 = .ok (.if_icmp .lt 23, 3) := by decide +kernel
theorem dX8_letter_36 : decode cX8_letter 36 = .ok (.iload_n 2, 1) := by decide +kernel
theorem dX8_letter_37 : decode cX8_letter 37 = .ok (.iconst (-1), 1) := by decide +kernel
theorem dX8_letter_38 : decode cX8_letter 38 = .ok (.if_icmp .eq 21, 3) := by decide +kernel
theorem dX8_letter_41 : decode cX8_letter 41 = .ok (.iload_n 2, 1) := by decide +kernel
theorem dX8_letter_42 : decode cX8_letter 42 = .ok (.aload_n 0, 1) := by decide +kernel
theorem dX8_letter_43 : decode cX8_letter 43 = .ok (.getfield 7, 3) := by decide +kernel
theorem dX8_letter_46 : decode cX8_letter 46 = .ok (.iload_n 1, 1) := by decide +kernel
theorem dX8_letter_47 : decode cX8_letter 47 = .ok (.invokestatic 58, 3) := by decide +kernel
theorem dX8_letter_50 : decode cX8_letter 50 = .ok (.iconst 0, 1) := by decide +kernel
theorem dX8_letter_51 : decode cX8_letter 51 = .ok (.iadd, 1) := by decide +kernel
theorem dX8_letter_52 : decode cX8_letter 52 = .ok (.iaload, 1) := by decide +kernel
theorem dX8_letter_53 : decode cX8_letter 53 = .ok (.if_icmp .lt 6, 3) := by decide +kernel
theorem dX8_letter_56 : decode cX8_letter 56 = .ok (.ldc 52, 2) := by decide +kernel
theorem dX8_letter_58 : decode cX8_letter 58 = .ok (.ireturn, 1) := by decide +kernel
theorem dX8_letter_59 : decode cX8_letter 59 = .ok (.iload_n 2, 1) := by decide +kernel
theorem dX8_letter_60 : decode cX8_letter 60 = .ok (.iconst (-1), 1) := by decide +kernel
theorem dX8_letter_61 : decode cX8_letter 61 = .ok (.if_icmp .ne 10, 3) := by decide +kernel
theorem dX8_letter_64 : decode cX8_letter 64 = .ok (.iload_n 1, 1) := by decide +kernel
theorem dX8_letter_65 : decode cX8_letter 65 = .ok (.invokestatic 82, 3) := by decide +kernel
theorem dX8_letter_68 : decode cX8_letter 68 = .ok (.goto 8, 3) := by decide +kernel
theorem dX8_letter_71 : decode cX8_letter 71 = .ok (.iload_n 1, 1) := by decide +kernel
theorem dX8_letter_72 : decode cX8_letter 72 = .ok (.iload_n 2, 1) := by decide +kernel
theorem dX8_letter_73 : decode cX8_letter 73 = .ok (.invokestatic 62, 3) := by decide +kernel
theorem dX8_letter_76 : decode cX8_letter 76 = .ok (.istore 4, 2) := by decide +kernel
theorem dX8_letter_78 : decode cX8_letter 78 = .ok (.iload_n 3, 1) := by decide +kernel
theorem dX8_letter_79 : decode cX8_letter 79 = .ok (.aload_n 0, 1) := by decide +kernel
theorem dX8_letter_80 : decode cX8_letter 80 = .ok (.getfield 7, 3) := by decide +kernel
theorem dX8_letter_83 : decode cX8_letter 83 = .ok (.iload 4, 2) := by decide +kernel
theorem dX8_letter_85 : decode cX8_letter 85 = .ok (.iaload, 1) := by decide +kernel
theorem dX8_letter_86 : decode cX8_letter 86 = .ok (.if_icmp .ge 17, 3) := by decide +kernel
theorem dX8_letter_89 : decode cX8_letter 89 = .ok (.aload_n 0, 1) := by decide +kernel
theorem dX8_letter_90 : decode cX8_letter 90 = .ok (.getfield 7, 3) := by decide +kernel
theorem dX8_letter_93 : decode cX8_letter 93 = .ok (.iload 4, 2) := by decide +kernel
theorem dX8_letter_95 : decode cX8_letter 95 = .ok (.iconst 1, 1) := by decide +kernel
theorem dX8_letter_96 : decode cX8_letter 96 = .ok (.iadd, 1) := by decide +kernel
theorem dX8_letter_97 : decode cX8_letter 97 = .ok (.iload_n 3, 1) := by decide +kernel
theorem dX8_letter_98 : decode cX8_letter 98 = .ok (.iadd, 1) := by decide +kernel
theorem dX8_letter_99 : decode cX8_letter 99 = .ok (.iaload, 1) := by decide +kernel
theorem dX8_letter_100 : decode cX8_letter 100 = .ok (.goto 4, 3) := by decide +kernel
theorem dX8_letter_103 : decode cX8_letter 103 = .ok (.iconst (-1), 1) := by decide +kernel
theorem dX8_letter_104 : decode cX8_letter 104 = .ok (.ireturn, 1) := by decide +kernel
theorem dX8_clears_0 : decode cX8_clears 0 = .ok (.iconst 0, 1) := by decide +kernel
theorem dX8_clears_1 : decode cX8_clears 1 = .ok (.istore_n 2, 1) := by decide +kernel
theorem dX8_clears_2 : decode cX8_clears 2 = .ok (.iload_n 2, 1) := by decide +kernel
theorem dX8_clears_3 : decode cX8_clears 3 = .ok (.bipush 15, 2) := by decide +kernel
theorem dX8_clears_5 : decode cX8_clears 5 = .ok (.if_icmp .ge 21, 3) := by decide +kernel
theorem dX8_clears_8 : decode cX8_clears 8 = .ok (.aload_n 0, 1) := by decide +kernel
theorem dX8_clears_9 : decode cX8_clears 9 = .ok (.getfield 23, 3) := by decide +kernel
theorem dX8_clears_12 : decode cX8_clears 12 = .ok (.bipush 15, 2) := by decide +kernel
theorem dX8_clears_14 : decode cX8_clears 14 = .ok (.iload_n 1, 1) := by decide +kernel
theorem dX8_clears_15 : decode cX8_clears 15 = .ok (.imul, 1) := by decide +kernel
theorem dX8_clears_16 : decode cX8_clears 16 = .ok (.iload_n 2, 1) := by decide +kernel
theorem dX8_clears_17 : decode cX8_clears 17 = .ok (.iadd, 1) := by decide +kernel
theorem dX8_clears_18 : decode cX8_clears 18 = .ok (.iconst 0, 1) := by decide +kernel
theorem dX8_clears_19 : decode cX8_clears 19 = .ok (.iastore, 1) := by decide +kernel
theorem dX8_clears_20 : decode cX8_clears 20 = .ok (.iinc 2 1, 3) := by decide +kernel
theorem dX8_clears_23 : decode cX8_clears 23 = .ok (.goto (-21), 3) := by decide +kernel
theorem dX8_clears_26 : decode cX8_clears 26 = .ok (.return_, 1) := by decide +kernel
theorem dX8_ends_0 : decode cX8_ends 0 = .ok (.aload_n 0, 1) := by decide +kernel
theorem dX8_ends_1 : decode cX8_ends 1 = .ok (.getfield 104, 3) := by decide +kernel
theorem dX8_ends_4 : decode cX8_ends 4 = .ok (.bipush 60, 2) := by decide +kernel
theorem dX8_ends_6 : decode cX8_ends 6 = .ok (.if_icmp .ge 54, 3) := by decide +kernel
theorem dX8_ends_9 : decode cX8_ends 9 = .ok (.aload_n 0, 1) := by decide +kernel
theorem dX8_ends_10 : decode cX8_ends 10 = .ok (.getfield 23, 3) := by decide +kernel
theorem dX8_ends_13 : decode cX8_ends 13 = .ok (.bipush 15, 2) := by decide +kernel
theorem dX8_ends_15 : decode cX8_ends 15 = .ok (.aload_n 0, 1) := by decide +kernel
theorem dX8_ends_16 : decode cX8_ends 16 = .ok (.getfield 104, 3) := by decide +kernel
theorem dX8_ends_19 : decode cX8_ends 19 = .ok (.imul, 1) := by decide +kernel
theorem dX8_ends_20 : decode cX8_ends 20 = .ok (.iaload, 1) := by decide +kernel
theorem dX8_ends_21 : decode cX8_ends 21 = .ok (.ifCond .le 39, 3) := by decide +kernel
theorem dX8_ends_24 : decode cX8_ends 24 = .ok (.aload_n 0, 1) := by decide +kernel
theorem dX8_ends_25 : decode cX8_ends 25 = .ok (.getfield 23, 3) := by decide +kernel
theorem dX8_ends_28 : decode cX8_ends 28 = .ok (.bipush 15, 2) := by decide +kernel
theorem dX8_ends_30 : decode cX8_ends 30 = .ok (.aload_n 0, 1) := by decide +kernel
theorem dX8_ends_31 : decode cX8_ends 31 = .ok (.getfield 104, 3) := by decide +kernel
theorem dX8_ends_34 : decode cX8_ends 34 = .ok (.imul, 1) := by decide +kernel
theorem dX8_ends_35 : decode cX8_ends 35 = .ok (.iconst 1, 1) := by decide +kernel
theorem dX8_ends_36 : decode cX8_ends 36 = .ok (.iadd, 1) := by decide +kernel
theorem dX8_ends_37 : decode cX8_ends 37 = .ok (.aload_n 0, 1) := by decide +kernel
theorem dX8_ends_38 : decode cX8_ends 38 = .ok (.getfield 110, 3) := by decide +kernel
theorem dX8_ends_41 : decode cX8_ends 41 = .ok (.iastore, 1) := by decide +kernel
theorem dX8_ends_42 : decode cX8_ends 42 = .ok (.aload_n 0, 1) := by decide +kernel
theorem dX8_ends_43 : decode cX8_ends 43 = .ok (.dup, 1) := by decide +kernel
theorem dX8_ends_44 : decode cX8_ends 44 = .ok (.getfield 104, 3) := by decide +kernel
theorem dX8_ends_47 : decode cX8_ends 47 = .ok (.iconst 1, 1) := by decide +kernel
theorem dX8_ends_48 : decode cX8_ends 48 = .ok (.iadd, 1) := by decide +kernel
theorem dX8_ends_49 : decode cX8_ends 49 = .ok (.putfield 104, 3) := by decide +kernel
theorem dX8_ends_52 : decode cX8_ends 52 = .ok (.aload_n 0, 1) := by decide +kernel
theorem dX8_ends_53 : decode cX8_ends 53 = .ok (.aload_n 0, 1) := by decide +kernel
theorem dX8_ends_54 : decode cX8_ends 54 = .ok (.getfield 104, 3) := by decide +kernel
theorem dX8_ends_57 : decode cX8_ends 57 = .ok (.invokevirtual 113, 3) := by decide +kernel
theorem dX8_ends_60 : decode cX8_ends 60 = .ok (.return_, 1) := by decide +kernel
theorem dX8_hasWord_0 : decode cX8_hasWord 0 = .ok (.aload_n 0, 1) := by decide +kernel
theorem dX8_hasWord_1 : decode cX8_hasWord 1 = .ok (.getfield 104, 3) := by decide +kernel
theorem dX8_hasWord_4 : decode cX8_hasWord 4 = .ok (.ifCond .le 30, 3) := by decide +kernel
theorem dX8_hasWord_7 : decode cX8_hasWord 7 = .ok (.aload_n 0, 1) := by decide +kernel
theorem dX8_hasWord_8 : decode cX8_hasWord 8 = .ok (.getfield 23, 3) := by decide +kernel
theorem dX8_hasWord_11 : decode cX8_hasWord 11 = .ok (.bipush 15, 2) := by decide +kernel
theorem dX8_hasWord_13 : decode cX8_hasWord 13 = .ok (.aload_n 0, 1) := by decide +kernel
theorem dX8_hasWord_14 : decode cX8_hasWord 14 = .ok (.getfield 104, 3) := by decide +kernel
theorem dX8_hasWord_17 : decode cX8_hasWord 17 = .ok (.iconst 1, 1) := by decide +kernel
theorem dX8_hasWord_18 : decode cX8_hasWord 18 = .ok (.isub, 1) := by decide +kernel
theorem dX8_hasWord_19 : decode cX8_hasWord 19 = .ok (.imul, 1) := by decide +kernel
theorem dX8_hasWord_20 : decode cX8_hasWord 20 = .ok (.iconst 1, 1) := by decide +kernel
theorem dX8_hasWord_21 : decode cX8_hasWord 21 = .ok (.iadd, 1) := by decide +kernel
theorem dX8_hasWord_22 : decode cX8_hasWord 22 = .ok (.iaload, 1) := by decide +kernel
theorem dX8_hasWord_23 : decode cX8_hasWord 23 = .ok (.aload_n 0, 1) := by decide +kernel
theorem dX8_hasWord_24 : decode cX8_hasWord 24 = .ok (.getfield 110, 3) := by decide +kernel
theorem dX8_hasWord_27 : decode cX8_hasWord 27 = .ok (.if_icmp .ne 7, 3) := by decide +kernel
theorem dX8_hasWord_30 : decode cX8_hasWord 30 = .ok (.iconst 1, 1) := by decide +kernel
theorem dX8_hasWord_31 : decode cX8_hasWord 31 = .ok (.goto 4, 3) := by decide +kernel
theorem dX8_hasWord_34 : decode cX8_hasWord 34 = .ok (.iconst 0, 1) := by decide +kernel
theorem dX8_hasWord_35 : decode cX8_hasWord 35 = .ok (.ireturn, 1) := by decide +kernel
theorem dX8_comes_0 : decode cX8_comes 0 = .ok (.iload_n 1, 1) := by decide +kernel
theorem dX8_comes_1 : decode cX8_comes 1 = .ok (.invokestatic 48, 3) := by decide +kernel
theorem dX8_comes_4 : decode cX8_comes 4 = .ok (.ifCond .eq 63, 3) := by decide +kernel
theorem dX8_comes_7 : decode cX8_comes 7 = .ok (.bipush 15, 2) := by decide +kernel
theorem dX8_comes_9 : decode cX8_comes 9 = .ok (.aload_n 0, 1) := by decide +kernel
theorem dX8_comes_10 : decode cX8_comes 10 = .ok (.getfield 104, 3) := by decide +kernel
theorem dX8_comes_13 : decode cX8_comes 13 = .ok (.imul, 1) := by decide +kernel
theorem dX8_comes_14 : decode cX8_comes 14 = .ok (.istore_n 2, 1) := by decide +kernel
theorem dX8_comes_15 : decode cX8_comes 15 = .ok (.aload_n 0, 1) := by decide +kernel
theorem dX8_comes_16 : decode cX8_comes 16 = .ok (.getfield 23, 3) := by decide +kernel
theorem dX8_comes_19 : decode cX8_comes 19 = .ok (.iload_n 2, 1) := by decide +kernel
theorem dX8_comes_20 : decode cX8_comes 20 = .ok (.iaload, 1) := by decide +kernel
theorem dX8_comes_21 : decode cX8_comes 21 = .ok (.bipush 12, 2) := by decide +kernel
theorem dX8_comes_23 : decode cX8_comes 23 = .ok (.if_icmp .ne 15, 3) := by decide +kernel
theorem dX8_comes_26 : decode cX8_comes 26 = .ok (.aload_n 0, 1) := by decide +kernel
theorem dX8_comes_27 : decode cX8_comes 27 = .ok (.getfield 23, 3) := by decide +kernel
theorem dX8_comes_30 : decode cX8_comes 30 = .ok (.iload_n 2, 1) := by decide +kernel
theorem dX8_comes_31 : decode cX8_comes 31 = .ok (.iconst 2, 1) := by decide +kernel
theorem dX8_comes_32 : decode cX8_comes 32 = .ok (.iadd, 1) := by decide +kernel
theorem dX8_comes_33 : decode cX8_comes 33 = .ok (.iconst 1, 1) := by decide +kernel
theorem dX8_comes_34 : decode cX8_comes 34 = .ok (.iastore, 1) := by decide +kernel
theorem dX8_comes_35 : decode cX8_comes 35 = .ok (.goto 29, 3) := by decide +kernel
theorem dX8_comes_38 : decode cX8_comes 38 = .ok (.aload_n 0, 1) := by decide +kernel
theorem dX8_comes_39 : decode cX8_comes 39 = .ok (.getfield 23, 3) := by decide +kernel
theorem dX8_comes_42 : decode cX8_comes 42 = .ok (.iload_n 2, 1) := by decide +kernel
theorem dX8_comes_43 : decode cX8_comes 43 = .ok (.iconst 3, 1) := by decide +kernel
theorem dX8_comes_44 : decode cX8_comes 44 = .ok (.iadd, 1) := by decide +kernel
theorem dX8_comes_45 : decode cX8_comes 45 = .ok (.aload_n 0, 1) := by decide +kernel
theorem dX8_comes_46 : decode cX8_comes 46 = .ok (.getfield 23, 3) := by decide +kernel
theorem dX8_comes_49 : decode cX8_comes 49 = .ok (.iload_n 2, 1) := by decide +kernel
theorem dX8_comes_50 : decode cX8_comes 50 = .ok (.iaload, 1) := by decide +kernel
theorem dX8_comes_51 : decode cX8_comes 51 = .ok (.iadd, 1) := by decide +kernel
theorem dX8_comes_52 : decode cX8_comes 52 = .ok (.iload_n 1, 1) := by decide +kernel
theorem dX8_comes_53 : decode cX8_comes 53 = .ok (.iastore, 1) := by decide +kernel
theorem dX8_comes_54 : decode cX8_comes 54 = .ok (.aload_n 0, 1) := by decide +kernel
theorem dX8_comes_55 : decode cX8_comes 55 = .ok (.getfield 23, 3) := by decide +kernel
theorem dX8_comes_58 : decode cX8_comes 58 = .ok (.iload_n 2, 1) := by decide +kernel
theorem dX8_comes_59 : decode cX8_comes 59 = .ok (.dup2, 1) := by decide +kernel
theorem dX8_comes_60 : decode cX8_comes 60 = .ok (.iaload, 1) := by decide +kernel
theorem dX8_comes_61 : decode cX8_comes 61 = .ok (.iconst 1, 1) := by decide +kernel
theorem dX8_comes_62 : decode cX8_comes 62 = .ok (.iadd, 1) := by decide +kernel
theorem dX8_comes_63 : decode cX8_comes 63 = .ok (.iastore, 1) := by decide +kernel
theorem dX8_comes_64 : decode cX8_comes 64 = .ok (.goto 34, 3) := by decide +kernel
theorem dX8_comes_67 : decode cX8_comes 67 = .ok (.aload_n 0, 1) := by decide +kernel
theorem dX8_comes_68 : decode cX8_comes 68 = .ok (.invokevirtual 117, 3) := by decide +kernel
theorem dX8_comes_71 : decode cX8_comes 71 = .ok (.aload_n 0, 1) := by decide +kernel
theorem dX8_comes_72 : decode cX8_comes 72 = .ok (.dup, 1) := by decide +kernel
theorem dX8_comes_73 : decode cX8_comes 73 = .ok (.getfield 110, 3) := by decide +kernel
theorem dX8_comes_76 : decode cX8_comes 76 = .ok (.iload_n 1, 1) := by decide +kernel
theorem dX8_comes_77 : decode cX8_comes 77 = .ok (.bipush 46, 2) := by decide +kernel
theorem dX8_comes_79 : decode cX8_comes 79 = .ok (.if_icmp .ne 14, 3) := by decide +kernel
theorem dX8_comes_82 : decode cX8_comes 82 = .ok (.aload_n 0, 1) := by decide +kernel
theorem dX8_comes_83 : decode cX8_comes 83 = .ok (.invokevirtual 120, 3) := by decide +kernel
theorem dX8_comes_86 : decode cX8_comes 86 = .ok (.ifCond .eq 7, 3) := by decide +kernel
theorem dX8_comes_89 : decode cX8_comes 89 = .ok (.iconst 1, 1) := by decide +kernel
theorem dX8_comes_90 : decode cX8_comes 90 = .ok (.goto 4, 3) := by decide +kernel
theorem dX8_comes_93 : decode cX8_comes 93 = .ok (.iconst 0, 1) := by decide +kernel
theorem dX8_comes_94 : decode cX8_comes 94 = .ok (.iadd, 1) := by decide +kernel
theorem dX8_comes_95 : decode cX8_comes 95 = .ok (.putfield 110, 3) := by decide +kernel
theorem dX8_comes_98 : decode cX8_comes 98 = .ok (.return_, 1) := by decide +kernel
theorem dX8_read_0 : decode cX8_read 0 = .ok (.iload_n 1, 1) := by decide +kernel
theorem dX8_read_1 : decode cX8_read 1 = .ok (.iconst 0, 1) := by decide +kernel
theorem dX8_read_2 : decode cX8_read 2 = .ok (.sipush 255, 3) := by decide +kernel
theorem dX8_read_5 : decode cX8_read 5 = .ok (.invokestatic 44, 3) := by decide +kernel
theorem dX8_read_8 : decode cX8_read 8 = .ok (.ifCond .ne 6, 3) := by decide +kernel
theorem dX8_read_11 : decode cX8_read 11 = .ok (.ldc 52, 2) := by decide +kernel
theorem dX8_read_13 : decode cX8_read 13 = .ok (.ireturn, 1) := by decide +kernel
theorem dX8_read_14 : decode cX8_read 14 = .ok (.iload_n 1, 1) := by decide +kernel
theorem dX8_read_15 : decode cX8_read 15 = .ok (.invokestatic 48, 3) := by decide +kernel
theorem dX8_read_18 : decode cX8_read 18 = .ok (.ifCond .eq 15, 3) := by decide +kernel
theorem dX8_read_21 : decode cX8_read 21 = .ok (.aload_n 0, 1) := by decide +kernel
theorem dX8_read_22 : decode cX8_read 22 = .ok (.getfield 104, 3) := by decide +kernel
theorem dX8_read_25 : decode cX8_read 25 = .ok (.bipush 60, 2) := by decide +kernel
theorem dX8_read_27 : decode cX8_read 27 = .ok (.if_icmp .ne 6, 3) := by decide +kernel
theorem dX8_read_30 : decode cX8_read 30 = .ok (.ldc 57, 2) := by decide +kernel
theorem dX8_read_32 : decode cX8_read 32 = .ok (.ireturn, 1) := by decide +kernel
theorem dX8_read_33 : decode cX8_read 33 = .ok (.aload_n 0, 1) := by decide +kernel
theorem dX8_read_34 : decode cX8_read 34 = .ok (.iload_n 1, 1) := by decide +kernel
theorem dX8_read_35 : decode cX8_read 35 = .ok (.invokevirtual 124, 3) := by decide +kernel
theorem dX8_read_38 : decode cX8_read 38 = .ok (.aload_n 0, 1) := by decide +kernel
theorem dX8_read_39 : decode cX8_read 39 = .ok (.getfield 104, 3) := by decide +kernel
theorem dX8_read_42 : decode cX8_read 42 = .ok (.ireturn, 1) := by decide +kernel
theorem dX8_wipe_0 : decode cX8_wipe 0 = .ok (.aload_n 0, 1) := by decide +kernel
theorem dX8_wipe_1 : decode cX8_wipe 1 = .ok (.getfield 104, 3) := by decide +kernel
theorem dX8_wipe_4 : decode cX8_wipe 4 = .ok (.istore_n 1, 1) := by decide +kernel
theorem dX8_wipe_5 : decode cX8_wipe 5 = .ok (.aload_n 0, 1) := by decide +kernel
theorem dX8_wipe_6 : decode cX8_wipe 6 = .ok (.iconst 0, 1) := by decide +kernel
theorem dX8_wipe_7 : decode cX8_wipe 7 = .ok (.putfield 104, 3) := by decide +kernel
theorem dX8_wipe_10 : decode cX8_wipe 10 = .ok (.aload_n 0, 1) := by decide +kernel
theorem dX8_wipe_11 : decode cX8_wipe 11 = .ok (.iconst 0, 1) := by decide +kernel
theorem dX8_wipe_12 : decode cX8_wipe 12 = .ok (.putfield 110, 3) := by decide +kernel
theorem dX8_wipe_15 : decode cX8_wipe 15 = .ok (.aload_n 0, 1) := by decide +kernel
theorem dX8_wipe_16 : decode cX8_wipe 16 = .ok (.iconst 0, 1) := by decide +kernel
theorem dX8_wipe_17 : decode cX8_wipe 17 = .ok (.invokevirtual 113, 3) := by decide +kernel
theorem dX8_wipe_20 : decode cX8_wipe 20 = .ok (.iload_n 1, 1) := by decide +kernel
theorem dX8_wipe_21 : decode cX8_wipe 21 = .ok (.ireturn, 1) := by decide +kernel
theorem dX8_comesAll_0 : decode cX8_comesAll 0 = .ok (.iconst 0, 1) := by decide +kernel
theorem dX8_comesAll_1 : decode cX8_comesAll 1 = .ok (.istore_n 2, 1) := by decide +kernel
theorem dX8_comesAll_2 : decode cX8_comesAll 2 = .ok (.iload_n 2, 1) := by decide +kernel
theorem dX8_comesAll_3 : decode cX8_comesAll 3 = .ok (.aload_n 0, 1) := by decide +kernel
theorem dX8_comesAll_4 : decode cX8_comesAll 4 = .ok (.getfield 7, 3) := by decide +kernel
theorem dX8_comesAll_7 : decode cX8_comesAll 7 = .ok (.iload_n 1, 1) := by decide +kernel
theorem dX8_comesAll_8 : decode cX8_comesAll 8 = .ok (.iaload, 1) := by decide +kernel
theorem dX8_comesAll_9 : decode cX8_comesAll 9 = .ok (.if_icmp .ge 23, 3) := by decide +kernel
theorem dX8_comesAll_12 : decode cX8_comesAll 12 = .ok (.aload_n 0, 1) := by decide +kernel
theorem dX8_comesAll_13 : decode cX8_comesAll 13 = .ok (.aload_n 0, 1) := by decide +kernel
theorem dX8_comesAll_14 : decode cX8_comesAll 14 = .ok (.getfield 7, 3) := by decide +kernel
theorem dX8_comesAll_17 : decode cX8_comesAll 17 = .ok (.iload_n 1, 1) := by decide +kernel
theorem dX8_comesAll_18 : decode cX8_comesAll 18 = .ok (.iconst 1, 1) := by decide +kernel
theorem dX8_comesAll_19 : decode cX8_comesAll 19 = .ok (.iadd, 1) := by decide +kernel
theorem dX8_comesAll_20 : decode cX8_comesAll 20 = .ok (.iload_n 2, 1) := by decide +kernel
theorem dX8_comesAll_21 : decode cX8_comesAll 21 = .ok (.iadd, 1) := by decide +kernel
theorem dX8_comesAll_22 : decode cX8_comesAll 22 = .ok (.iaload, 1) := by decide +kernel
theorem dX8_comesAll_23 : decode cX8_comesAll 23 = .ok (.invokevirtual 124, 3) := by decide +kernel
theorem dX8_comesAll_26 : decode cX8_comesAll 26 = .ok (.iinc 2 1, 3) := by decide +kernel
theorem dX8_comesAll_29 : decode cX8_comesAll 29 = .ok (.goto (-27), 3) := by decide +kernel
theorem dX8_comesAll_32 : decode cX8_comesAll 32 = .ok (.return_, 1) := by decide +kernel
theorem dX8_next_0 : decode cX8_next 0 = .ok (.lload_n 0, 1) := by decide +kernel
theorem dX8_next_1 : decode cX8_next 1 = .ok (.ldc2_w 127, 3) := by decide +kernel
theorem dX8_next_4 : decode cX8_next 4 = .ok (.lmul, 1) := by decide +kernel
theorem dX8_next_5 : decode cX8_next 5 = .ok (.ldc2_w 129, 3) := by decide +kernel
theorem dX8_next_8 : decode cX8_next 8 = .ok (.lrem, 1) := by decide +kernel
theorem dX8_next_9 : decode cX8_next 9 = .ok (.lreturn, 1) := by decide +kernel
theorem dX8_drift_0 : decode cX8_drift 0 = .ok (.iload_n 1, 1) := by decide +kernel
theorem dX8_drift_1 : decode cX8_drift 1 = .ok (.iconst 1, 1) := by decide +kernel
theorem dX8_drift_2 : decode cX8_drift 2 = .ok (.bipush 30, 2) := by decide +kernel
theorem dX8_drift_4 : decode cX8_drift 4 = .ok (.invokestatic 44, 3) := by decide +kernel
theorem dX8_drift_7 : decode cX8_drift 7 = .ok (.ifCond .eq 13, 3) := by decide +kernel
theorem dX8_drift_10 : decode cX8_drift 10 = .ok (.iload_n 2, 1) := by decide +kernel
theorem dX8_drift_11 : decode cX8_drift 11 = .ok (.iconst 1, 1) := by decide +kernel
theorem dX8_drift_12 : decode cX8_drift 12 = .ok (.ldc 131, 2) := by decide +kernel
theorem dX8_drift_14 : decode cX8_drift 14 = .ok (.invokestatic 44, 3) := by decide +kernel
theorem dX8_drift_17 : decode cX8_drift 17 = .ok (.ifCond .ne 6, 3) := by decide +kernel
theorem dX8_drift_20 : decode cX8_drift 20 = .ok (.ldc 52, 2) := by decide +kernel
theorem dX8_drift_22 : decode cX8_drift 22 = .ok (.ireturn, 1) := by decide +kernel
theorem dX8_drift_23 : decode cX8_drift 23 = .ok (.iload_n 2, 1) := by decide +kernel
theorem dX8_drift_24 : decode cX8_drift 24 = .ok (.i2l, 1) := by decide +kernel
theorem dX8_drift_25 : decode cX8_drift 25 = .ok (.lstore_n 3, 1) := by decide +kernel
theorem dX8_drift_26 : decode cX8_drift 26 = .ok (.iconst 1, 1) := by decide +kernel
theorem dX8_drift_27 : decode cX8_drift 27 = .ok (.istore 5, 2) := by decide +kernel
theorem dX8_drift_29 : decode cX8_drift 29 = .ok (.iconst 0, 1) := by decide +kernel
theorem dX8_drift_30 : decode cX8_drift 30 = .ok (.istore 6, 2) := by decide +kernel
theorem dX8_drift_32 : decode cX8_drift 32 = .ok (.iload 6, 2) := by decide +kernel
theorem dX8_drift_34 : decode cX8_drift 34 = .ok (.iload_n 1, 1) := by decide +kernel
theorem dX8_drift_35 : decode cX8_drift 35 = .ok (.if_icmp .ge 170, 3) := by decide +kernel
theorem dX8_drift_38 : decode cX8_drift 38 = .ok (.iload 5, 2) := by decide +kernel
theorem dX8_drift_40 : decode cX8_drift 40 = .ok (.ifCond .eq 165, 3) := by decide +kernel
theorem dX8_drift_43 : decode cX8_drift 43 = .ok (.lload_n 3, 1) := by decide +kernel
theorem dX8_drift_44 : decode cX8_drift 44 = .ok (.invokestatic 132, 3) := by decide +kernel
theorem dX8_drift_47 : decode cX8_drift 47 = .ok (.lstore_n 3, 1) := by decide +kernel
theorem dX8_drift_48 : decode cX8_drift 48 = .ok (.lload_n 3, 1) := by decide +kernel
theorem dX8_drift_49 : decode cX8_drift 49 = .ok (.ldc2_w 136, 3) := by decide +kernel
theorem dX8_drift_52 : decode cX8_drift 52 = .ok (.lrem, 1) := by decide +kernel
theorem dX8_drift_53 : decode cX8_drift 53 = .ok (.lconst 0, 1) := by decide +kernel
theorem dX8_drift_54 : decode cX8_drift 54 = .ok (.lcmp, 1) := by decide +kernel
theorem dX8_drift_55 : decode cX8_drift 55 = .ok (.ifCond .ne 12, 3) := by decide +kernel
theorem dX8_drift_58 : decode cX8_drift 58 = .ok (.aload_n 0, 1) := by decide +kernel
theorem dX8_drift_59 : decode cX8_drift 59 = .ok (.bipush 46, 2) := by decide +kernel
theorem dX8_drift_61 : decode cX8_drift 61 = .ok (.invokevirtual 124, 3) := by decide +kernel
theorem dX8_drift_64 : decode cX8_drift 64 = .ok (.goto 135, 3) := by decide +kernel
theorem dX8_drift_67 : decode cX8_drift 67 = .ok (.aload_n 0, 1) := by decide +kernel
theorem dX8_drift_68 : decode cX8_drift 68 = .ok (.getfield 7, 3) := by decide +kernel
theorem dX8_drift_71 : decode cX8_drift 71 = .ok (.iconst 0, 1) := by decide +kernel
theorem dX8_drift_72 : decode cX8_drift 72 = .ok (.iaload, 1) := by decide +kernel
theorem dX8_drift_73 : decode cX8_drift 73 = .ok (.ifCond .le 18, 3) := by decide +kernel
theorem dX8_drift_76 : decode cX8_drift 76 = .ok (.aload_n 0, 1) := by decide +kernel
theorem dX8_drift_77 : decode cX8_drift 77 = .ok (.getfield 104, 3) := by decide +kernel
theorem dX8_drift_80 : decode cX8_drift 80 = .ok (.bipush 60, 2) := by decide +kernel
theorem dX8_drift_82 : decode cX8_drift 82 = .ok (.if_icmp .ne 9, 3) := by decide +kernel
theorem dX8_drift_85 : decode cX8_drift 85 = .ok (.iconst 0, 1) := by decide +kernel
theorem dX8_drift_86 : decode cX8_drift 86 = .ok (.istore 5, 2) := by decide +kernel
theorem dX8_drift_88 : decode cX8_drift 88 = .ok (.goto 111, 3) := by decide +kernel
theorem dX8_drift_91 : decode cX8_drift 91 = .ok (.aload_n 0, 1) := by decide +kernel
theorem dX8_drift_92 : decode cX8_drift 92 = .ok (.getfield 7, 3) := by decide +kernel
theorem dX8_drift_95 : decode cX8_drift 95 = .ok (.iconst 0, 1) := by decide +kernel
theorem dX8_drift_96 : decode cX8_drift 96 = .ok (.iaload, 1) := by decide +kernel
theorem dX8_drift_97 : decode cX8_drift 97 = .ok (.ifCond .le 102, 3) := by decide +kernel
theorem dX8_drift_100 : decode cX8_drift 100 = .ok (.lload_n 3, 1) := by decide +kernel
theorem dX8_drift_101 : decode cX8_drift 101 = .ok (.invokestatic 132, 3) := by decide +kernel
theorem dX8_drift_104 : decode cX8_drift 104 = .ok (.lstore_n 3, 1) := by decide +kernel
theorem dX8_drift_105 : decode cX8_drift 105 = .ok (.lload_n 3, 1) := by decide +kernel
theorem dX8_drift_106 : decode cX8_drift 106 = .ok (.aload_n 0, 1) := by decide +kernel
theorem dX8_drift_107 : decode cX8_drift 107 = .ok (.getfield 7, 3) := by decide +kernel
theorem dX8_drift_110 : decode cX8_drift 110 = .ok (.iconst 0, 1) := by decide +kernel
theorem dX8_drift_111 : decode cX8_drift 111 = .ok (.iaload, 1) := by decide +kernel
theorem dX8_drift_112 : decode cX8_drift 112 = .ok (.i2l, 1) := by decide +kernel
theorem dX8_drift_113 : decode cX8_drift 113 = .ok (.lrem, 1) := by decide +kernel
theorem dX8_drift_114 : decode cX8_drift 114 = .ok (.l2i, 1) := by decide +kernel
theorem dX8_drift_115 : decode cX8_drift 115 = .ok (.istore 7, 2) := by decide +kernel
theorem dX8_drift_117 : decode cX8_drift 117 = .ok (.lload_n 3, 1) := by decide +kernel
theorem dX8_drift_118 : decode cX8_drift 118 = .ok (.invokestatic 132, 3) := by decide +kernel
theorem dX8_drift_121 : decode cX8_drift 121 = .ok (.lstore_n 3, 1) := by decide +kernel
theorem dX8_drift_122 : decode cX8_drift 122 = .ok (.aload_n 0, 1) := by decide +kernel
theorem dX8_drift_123 : decode cX8_drift 123 = .ok (.iload 7, 2) := by decide +kernel
theorem dX8_drift_125 : decode cX8_drift 125 = .ok (.lload_n 3, 1) := by decide +kernel
theorem dX8_drift_126 : decode cX8_drift 126 = .ok (.aload_n 0, 1) := by decide +kernel
theorem dX8_drift_127 : decode cX8_drift 127 = .ok (.getfield 7, 3) := by decide +kernel
theorem dX8_drift_130 : decode cX8_drift 130 = .ok (.iload 7, 2) := by decide +kernel
theorem dX8_drift_132 : decode cX8_drift 132 = .ok (.invokestatic 58, 3) := by decide +kernel
theorem dX8_drift_135 : decode cX8_drift 135 = .ok (.iconst 0, 1) := by decide +kernel
theorem dX8_drift_136 : decode cX8_drift 136 = .ok (.iadd, 1) := by decide +kernel
theorem dX8_drift_137 : decode cX8_drift 137 = .ok (.iaload, 1) := by decide +kernel
theorem dX8_drift_138 : decode cX8_drift 138 = .ok (.i2l, 1) := by decide +kernel
theorem dX8_drift_139 : decode cX8_drift 139 = .ok (.lrem, 1) := by decide +kernel
theorem dX8_drift_140 : decode cX8_drift 140 = .ok (.l2i, 1) := by decide +kernel
theorem dX8_drift_141 : decode cX8_drift 141 = .ok (.invokestatic 62, 3) := by decide +kernel
theorem dX8_drift_144 : decode cX8_drift 144 = .ok (.invokevirtual 138, 3) := by decide +kernel
theorem dX8_drift_147 : decode cX8_drift 147 = .ok (.lload_n 3, 1) := by decide +kernel
theorem dX8_drift_148 : decode cX8_drift 148 = .ok (.invokestatic 132, 3) := by decide +kernel
theorem dX8_drift_151 : decode cX8_drift 151 = .ok (.lstore_n 3, 1) := by decide +kernel
theorem dX8_drift_152 : decode cX8_drift 152 = .ok (.lload_n 3, 1) := by decide +kernel
theorem dX8_drift_153 : decode cX8_drift 153 = .ok (.ldc2_w 141, 3) := by decide +kernel
theorem dX8_drift_156 : decode cX8_drift 156 = .ok (.lrem, 1) := by decide +kernel
theorem dX8_drift_157 : decode cX8_drift 157 = .ok (.lconst 0, 1) := by decide +kernel
theorem dX8_drift_158 : decode cX8_drift 158 = .ok (.lcmp, 1) := by decide +kernel
theorem dX8_drift_159 : decode cX8_drift 159 = .ok (.ifCond .ne 34, 3) := by decide +kernel
theorem dX8_drift_162 : decode cX8_drift 162 = .ok (.aload_n 0, 1) := by decide +kernel
theorem dX8_drift_163 : decode cX8_drift 163 = .ok (.getfield 7, 3) := by decide +kernel
theorem dX8_drift_166 : decode cX8_drift 166 = .ok (.iconst 1, 1) := by decide +kernel
theorem dX8_drift_167 : decode cX8_drift 167 = .ok (.iaload, 1) := by decide +kernel
theorem dX8_drift_168 : decode cX8_drift 168 = .ok (.ifCond .le 25, 3) := by decide +kernel
theorem dX8_drift_171 : decode cX8_drift 171 = .ok (.lload_n 3, 1) := by decide +kernel
theorem dX8_drift_172 : decode cX8_drift 172 = .ok (.invokestatic 132, 3) := by decide +kernel
theorem dX8_drift_175 : decode cX8_drift 175 = .ok (.lstore_n 3, 1) := by decide +kernel
theorem dX8_drift_176 : decode cX8_drift 176 = .ok (.aload_n 0, 1) := by decide +kernel
theorem dX8_drift_177 : decode cX8_drift 177 = .ok (.lload_n 3, 1) := by decide +kernel
theorem dX8_drift_178 : decode cX8_drift 178 = .ok (.aload_n 0, 1) := by decide +kernel
theorem dX8_drift_179 : decode cX8_drift 179 = .ok (.getfield 7, 3) := by decide +kernel
theorem dX8_drift_182 : decode cX8_drift 182 = .ok (.iconst 1, 1) := by decide +kernel
theorem dX8_drift_183 : decode cX8_drift 183 = .ok (.iaload, 1) := by decide +kernel
theorem dX8_drift_184 : decode cX8_drift 184 = .ok (.i2l, 1) := by decide +kernel
theorem dX8_drift_185 : decode cX8_drift 185 = .ok (.lrem, 1) := by decide +kernel
theorem dX8_drift_186 : decode cX8_drift 186 = .ok (.l2i, 1) := by decide +kernel
theorem dX8_drift_187 : decode cX8_drift 187 = .ok (.invokestatic 82, 3) := by decide +kernel
theorem dX8_drift_190 : decode cX8_drift 190 = .ok (.invokevirtual 138, 3) := by decide +kernel
theorem dX8_drift_193 : decode cX8_drift 193 = .ok (.aload_n 0, 1) := by decide +kernel
theorem dX8_drift_194 : decode cX8_drift 194 = .ok (.bipush 32, 2) := by decide +kernel
theorem dX8_drift_196 : decode cX8_drift 196 = .ok (.invokevirtual 124, 3) := by decide +kernel
theorem dX8_drift_199 : decode cX8_drift 199 = .ok (.iinc 6 1, 3) := by decide +kernel
theorem dX8_drift_202 : decode cX8_drift 202 = .ok (.goto (-170), 3) := by decide +kernel
theorem dX8_drift_205 : decode cX8_drift 205 = .ok (.aload_n 0, 1) := by decide +kernel
theorem dX8_drift_206 : decode cX8_drift 206 = .ok (.getfield 104, 3) := by decide +kernel
theorem dX8_drift_209 : decode cX8_drift 209 = .ok (.ireturn, 1) := by decide +kernel
theorem dX8_isWord_0 : decode cX8_isWord 0 = .ok (.iload_n 1, 1) := by decide +kernel
theorem dX8_isWord_1 : decode cX8_isWord 1 = .ok (.iconst 0, 1) := by decide +kernel
theorem dX8_isWord_2 : decode cX8_isWord 2 = .ok (.aload_n 0, 1) := by decide +kernel
theorem dX8_isWord_3 : decode cX8_isWord 3 = .ok (.getfield 104, 3) := by decide +kernel
theorem dX8_isWord_6 : decode cX8_isWord 6 = .ok (.iconst 1, 1) := by decide +kernel
theorem dX8_isWord_7 : decode cX8_isWord 7 = .ok (.isub, 1) := by decide +kernel
theorem dX8_isWord_8 : decode cX8_isWord 8 = .ok (.invokestatic 44, 3) := by decide +kernel
theorem dX8_isWord_11 : decode cX8_isWord 11 = .ok (.ireturn, 1) := by decide +kernel
theorem dX8_isAs_0 : decode cX8_isAs 0 = .ok (.aload_n 0, 1) := by decide +kernel
theorem dX8_isAs_1 : decode cX8_isAs 1 = .ok (.getfield 23, 3) := by decide +kernel
theorem dX8_isAs_4 : decode cX8_isAs 4 = .ok (.bipush 15, 2) := by decide +kernel
theorem dX8_isAs_6 : decode cX8_isAs 6 = .ok (.iload_n 1, 1) := by decide +kernel
theorem dX8_isAs_7 : decode cX8_isAs 7 = .ok (.imul, 1) := by decide +kernel
theorem dX8_isAs_8 : decode cX8_isAs 8 = .ok (.iaload, 1) := by decide +kernel
theorem dX8_isAs_9 : decode cX8_isAs 9 = .ok (.iload_n 2, 1) := by decide +kernel
theorem dX8_isAs_10 : decode cX8_isAs 10 = .ok (.isub, 1) := by decide +kernel
theorem dX8_isAs_11 : decode cX8_isAs 11 = .ok (.aload_n 0, 1) := by decide +kernel
theorem dX8_isAs_12 : decode cX8_isAs 12 = .ok (.getfield 7, 3) := by decide +kernel
theorem dX8_isAs_15 : decode cX8_isAs 15 = .ok (.iload_n 3, 1) := by decide +kernel
theorem dX8_isAs_16 : decode cX8_isAs 16 = .ok (.iaload, 1) := by decide +kernel
theorem dX8_isAs_17 : decode cX8_isAs 17 = .ok (.if_icmp .ne 7, 3) := by decide +kernel
theorem dX8_isAs_20 : decode cX8_isAs 20 = .ok (.iconst 1, 1) := by decide +kernel
theorem dX8_isAs_21 : decode cX8_isAs 21 = .ok (.goto 4, 3) := by decide +kernel
theorem dX8_isAs_24 : decode cX8_isAs 24 = .ok (.iconst 0, 1) := by decide +kernel
theorem dX8_isAs_25 : decode cX8_isAs 25 = .ok (.istore 4, 2) := by decide +kernel
theorem dX8_isAs_27 : decode cX8_isAs 27 = .ok (.iconst 0, 1) := by decide +kernel
theorem dX8_isAs_28 : decode cX8_isAs 28 = .ok (.istore 5, 2) := by decide +kernel
theorem dX8_isAs_30 : decode cX8_isAs 30 = .ok (.iload 5, 2) := by decide +kernel
theorem dX8_isAs_32 : decode cX8_isAs 32 = .ok (.aload_n 0, 1) := by decide +kernel
theorem dX8_isAs_33 : decode cX8_isAs 33 = .ok (.getfield 7, 3) := by decide +kernel
theorem dX8_isAs_36 : decode cX8_isAs 36 = .ok (.iload_n 3, 1) := by decide +kernel
theorem dX8_isAs_37 : decode cX8_isAs 37 = .ok (.iaload, 1) := by decide +kernel
theorem dX8_isAs_38 : decode cX8_isAs 38 = .ok (.if_icmp .ge 51, 3) := by decide +kernel
theorem dX8_isAs_41 : decode cX8_isAs 41 = .ok (.iload 4, 2) := by decide +kernel
theorem dX8_isAs_43 : decode cX8_isAs 43 = .ok (.ifCond .eq 46, 3) := by decide +kernel
theorem dX8_isAs_46 : decode cX8_isAs 46 = .ok (.aload_n 0, 1) := by decide +kernel
theorem dX8_isAs_47 : decode cX8_isAs 47 = .ok (.getfield 23, 3) := by decide +kernel
theorem dX8_isAs_50 : decode cX8_isAs 50 = .ok (.bipush 15, 2) := by decide +kernel
theorem dX8_isAs_52 : decode cX8_isAs 52 = .ok (.iload_n 1, 1) := by decide +kernel
theorem dX8_isAs_53 : decode cX8_isAs 53 = .ok (.imul, 1) := by decide +kernel
theorem dX8_isAs_54 : decode cX8_isAs 54 = .ok (.iconst 3, 1) := by decide +kernel
theorem dX8_isAs_55 : decode cX8_isAs 55 = .ok (.iadd, 1) := by decide +kernel
theorem dX8_isAs_56 : decode cX8_isAs 56 = .ok (.iload_n 2, 1) := by decide +kernel
theorem dX8_isAs_57 : decode cX8_isAs 57 = .ok (.iadd, 1) := by decide +kernel
theorem dX8_isAs_58 : decode cX8_isAs 58 = .ok (.iload 5, 2) := by decide +kernel
theorem dX8_isAs_60 : decode cX8_isAs 60 = .ok (.iadd, 1) := by decide +kernel
theorem dX8_isAs_61 : decode cX8_isAs 61 = .ok (.iaload, 1) := by decide +kernel
theorem dX8_isAs_62 : decode cX8_isAs 62 = .ok (.aload_n 0, 1) := by decide +kernel
theorem dX8_isAs_63 : decode cX8_isAs 63 = .ok (.getfield 7, 3) := by decide +kernel
theorem dX8_isAs_66 : decode cX8_isAs 66 = .ok (.iload_n 3, 1) := by decide +kernel
theorem dX8_isAs_67 : decode cX8_isAs 67 = .ok (.iconst 1, 1) := by decide +kernel
theorem dX8_isAs_68 : decode cX8_isAs 68 = .ok (.iadd, 1) := by decide +kernel
theorem dX8_isAs_69 : decode cX8_isAs 69 = .ok (.iload 5, 2) := by decide +kernel
theorem dX8_isAs_71 : decode cX8_isAs 71 = .ok (.iadd, 1) := by decide +kernel
theorem dX8_isAs_72 : decode cX8_isAs 72 = .ok (.iaload, 1) := by decide +kernel
theorem dX8_isAs_73 : decode cX8_isAs 73 = .ok (.if_icmp .ne 7, 3) := by decide +kernel
theorem dX8_isAs_76 : decode cX8_isAs 76 = .ok (.iconst 1, 1) := by decide +kernel
theorem dX8_isAs_77 : decode cX8_isAs 77 = .ok (.goto 4, 3) := by decide +kernel
theorem dX8_isAs_80 : decode cX8_isAs 80 = .ok (.iconst 0, 1) := by decide +kernel
theorem dX8_isAs_81 : decode cX8_isAs 81 = .ok (.istore 4, 2) := by decide +kernel
theorem dX8_isAs_83 : decode cX8_isAs 83 = .ok (.iinc 5 1, 3) := by decide +kernel
theorem dX8_isAs_86 : decode cX8_isAs 86 = .ok (.goto (-56), 3) := by decide +kernel
theorem dX8_isAs_89 : decode cX8_isAs 89 = .ok (.iload 4, 2) := by decide +kernel
theorem dX8_isAs_91 : decode cX8_isAs 91 = .ok (.ireturn, 1) := by decide +kernel
theorem dX8_isBegun_0 : decode cX8_isBegun 0 = .ok (.aload_n 0, 1) := by decide +kernel
theorem dX8_isBegun_1 : decode cX8_isBegun 1 = .ok (.getfield 23, 3) := by decide +kernel
theorem dX8_isBegun_4 : decode cX8_isBegun 4 = .ok (.bipush 15, 2) := by decide +kernel
theorem dX8_isBegun_6 : decode cX8_isBegun 6 = .ok (.iload_n 1, 1) := by decide +kernel
theorem dX8_isBegun_7 : decode cX8_isBegun 7 = .ok (.imul, 1) := by decide +kernel
theorem dX8_isBegun_8 : decode cX8_isBegun 8 = .ok (.iaload, 1) := by decide +kernel
theorem dX8_isBegun_9 : decode cX8_isBegun 9 = .ok (.aload_n 0, 1) := by decide +kernel
theorem dX8_isBegun_10 : decode cX8_isBegun 10 = .ok (.getfield 7, 3) := by decide +kernel
theorem dX8_isBegun_13 : decode cX8_isBegun 13 = .ok (.iload_n 2, 1) := by decide +kernel
theorem dX8_isBegun_14 : decode cX8_isBegun 14 = .ok (.iaload, 1) := by decide +kernel
theorem dX8_isBegun_15 : decode cX8_isBegun 15 = .ok (.if_icmp .lt 7, 3) := by decide +kernel
theorem dX8_isBegun_18 : decode cX8_isBegun 18 = .ok (.iconst 1, 1) := by decide +kernel
theorem dX8_isBegun_19 : decode cX8_isBegun 19 = .ok (.goto 4, 3) := by decide +kernel
theorem dX8_isBegun_22 : decode cX8_isBegun 22 = .ok (.iconst 0, 1) := by decide +kernel
theorem dX8_isBegun_23 : decode cX8_isBegun 23 = .ok (.istore_n 3, 1) := by decide +kernel
theorem dX8_isBegun_24 : decode cX8_isBegun 24 = .ok (.iconst 0, 1) := by decide +kernel
theorem dX8_isBegun_25 : decode cX8_isBegun 25 = .ok (.istore 4, 2) := by decide +kernel
theorem dX8_isBegun_27 : decode cX8_isBegun 27 = .ok (.iload 4, 2) := by decide +kernel
theorem dX8_isBegun_29 : decode cX8_isBegun 29 = .ok (.aload_n 0, 1) := by decide +kernel
theorem dX8_isBegun_30 : decode cX8_isBegun 30 = .ok (.getfield 7, 3) := by decide +kernel
theorem dX8_isBegun_33 : decode cX8_isBegun 33 = .ok (.iload_n 2, 1) := by decide +kernel
theorem dX8_isBegun_34 : decode cX8_isBegun 34 = .ok (.iaload, 1) := by decide +kernel
theorem dX8_isBegun_35 : decode cX8_isBegun 35 = .ok (.if_icmp .ge 47, 3) := by decide +kernel
theorem dX8_isBegun_38 : decode cX8_isBegun 38 = .ok (.iload_n 3, 1) := by decide +kernel
theorem dX8_isBegun_39 : decode cX8_isBegun 39 = .ok (.ifCond .eq 43, 3) := by decide +kernel
theorem dX8_isBegun_42 : decode cX8_isBegun 42 = .ok (.aload_n 0, 1) := by decide +kernel
theorem dX8_isBegun_43 : decode cX8_isBegun 43 = .ok (.getfield 23, 3) := by decide +kernel
theorem dX8_isBegun_46 : decode cX8_isBegun 46 = .ok (.bipush 15, 2) := by decide +kernel
theorem dX8_isBegun_48 : decode cX8_isBegun 48 = .ok (.iload_n 1, 1) := by decide +kernel
theorem dX8_isBegun_49 : decode cX8_isBegun 49 = .ok (.imul, 1) := by decide +kernel
theorem dX8_isBegun_50 : decode cX8_isBegun 50 = .ok (.iconst 3, 1) := by decide +kernel
theorem dX8_isBegun_51 : decode cX8_isBegun 51 = .ok (.iadd, 1) := by decide +kernel
theorem dX8_isBegun_52 : decode cX8_isBegun 52 = .ok (.iload 4, 2) := by decide +kernel
theorem dX8_isBegun_54 : decode cX8_isBegun 54 = .ok (.iadd, 1) := by decide +kernel
theorem dX8_isBegun_55 : decode cX8_isBegun 55 = .ok (.iaload, 1) := by decide +kernel
theorem dX8_isBegun_56 : decode cX8_isBegun 56 = .ok (.aload_n 0, 1) := by decide +kernel
theorem dX8_isBegun_57 : decode cX8_isBegun 57 = .ok (.getfield 7, 3) := by decide +kernel
theorem dX8_isBegun_60 : decode cX8_isBegun 60 = .ok (.iload_n 2, 1) := by decide +kernel
theorem dX8_isBegun_61 : decode cX8_isBegun 61 = .ok (.iconst 1, 1) := by decide +kernel
theorem dX8_isBegun_62 : decode cX8_isBegun 62 = .ok (.iadd, 1) := by decide +kernel
theorem dX8_isBegun_63 : decode cX8_isBegun 63 = .ok (.iload 4, 2) := by decide +kernel
theorem dX8_isBegun_65 : decode cX8_isBegun 65 = .ok (.iadd, 1) := by decide +kernel
theorem dX8_isBegun_66 : decode cX8_isBegun 66 = .ok (.iaload, 1) := by decide +kernel
theorem dX8_isBegun_67 : decode cX8_isBegun 67 = .ok (.if_icmp .ne 7, 3) := by decide +kernel
theorem dX8_isBegun_70 : decode cX8_isBegun 70 = .ok (.iconst 1, 1) := by decide +kernel
theorem dX8_isBegun_71 : decode cX8_isBegun 71 = .ok (.goto 4, 3) := by decide +kernel
theorem dX8_isBegun_74 : decode cX8_isBegun 74 = .ok (.iconst 0, 1) := by decide +kernel
theorem dX8_isBegun_75 : decode cX8_isBegun 75 = .ok (.istore_n 3, 1) := by decide +kernel
theorem dX8_isBegun_76 : decode cX8_isBegun 76 = .ok (.iinc 4 1, 3) := by decide +kernel
theorem dX8_isBegun_79 : decode cX8_isBegun 79 = .ok (.goto (-52), 3) := by decide +kernel
theorem dX8_isBegun_82 : decode cX8_isBegun 82 = .ok (.iload_n 3, 1) := by decide +kernel
theorem dX8_isBegun_83 : decode cX8_isBegun 83 = .ok (.ireturn, 1) := by decide +kernel
theorem dX8_meets_0 : decode cX8_meets 0 = .ok (.iload_n 2, 1) := by decide +kernel
theorem dX8_meets_1 : decode cX8_meets 1 = .ok (.iload_n 3, 1) := by decide +kernel
theorem dX8_meets_2 : decode cX8_meets 2 = .ok (.invokestatic 62, 3) := by decide +kernel
theorem dX8_meets_5 : decode cX8_meets 5 = .ok (.istore 4, 2) := by decide +kernel
theorem dX8_meets_7 : decode cX8_meets 7 = .ok (.aload_n 0, 1) := by decide +kernel
theorem dX8_meets_8 : decode cX8_meets 8 = .ok (.getfield 23, 3) := by decide +kernel
theorem dX8_meets_11 : decode cX8_meets 11 = .ok (.bipush 15, 2) := by decide +kernel
theorem dX8_meets_13 : decode cX8_meets 13 = .ok (.iload_n 1, 1) := by decide +kernel
theorem dX8_meets_14 : decode cX8_meets 14 = .ok (.imul, 1) := by decide +kernel
theorem dX8_meets_15 : decode cX8_meets 15 = .ok (.iconst 2, 1) := by decide +kernel
theorem dX8_meets_16 : decode cX8_meets 16 = .ok (.iadd, 1) := by decide +kernel
theorem dX8_meets_17 : decode cX8_meets 17 = .ok (.iaload, 1) := by decide +kernel
theorem dX8_meets_18 : decode cX8_meets 18 = .ok (.iconst 1, 1) := by decide +kernel
theorem dX8_meets_19 : decode cX8_meets 19 = .ok (.if_icmp .eq 13, 3) := by decide +kernel
theorem dX8_meets_22 : decode cX8_meets 22 = .ok (.aload_n 0, 1) := by decide +kernel
theorem dX8_meets_23 : decode cX8_meets 23 = .ok (.iload_n 1, 1) := by decide +kernel
theorem dX8_meets_24 : decode cX8_meets 24 = .ok (.iload 4, 2) := by decide +kernel
theorem dX8_meets_26 : decode cX8_meets 26 = .ok (.invokevirtual 143, 3) := by decide +kernel
theorem dX8_meets_29 : decode cX8_meets 29 = .ok (.ifCond .ne 5, 3) := by decide +kernel
theorem dX8_meets_32 : decode cX8_meets 32 = .ok (.iconst 0, 1) := by decide +kernel
theorem dX8_meets_33 : decode cX8_meets 33 = .ok (.ireturn, 1) := by decide +kernel
theorem dX8_meets_34 : decode cX8_meets 34 = .ok (.aload_n 0, 1) := by decide +kernel
theorem dX8_meets_35 : decode cX8_meets 35 = .ok (.getfield 23, 3) := by decide +kernel
theorem dX8_meets_38 : decode cX8_meets 38 = .ok (.bipush 15, 2) := by decide +kernel
theorem dX8_meets_40 : decode cX8_meets 40 = .ok (.iload_n 1, 1) := by decide +kernel
theorem dX8_meets_41 : decode cX8_meets 41 = .ok (.imul, 1) := by decide +kernel
theorem dX8_meets_42 : decode cX8_meets 42 = .ok (.iaload, 1) := by decide +kernel
theorem dX8_meets_43 : decode cX8_meets 43 = .ok (.aload_n 0, 1) := by decide +kernel
theorem dX8_meets_44 : decode cX8_meets 44 = .ok (.getfield 7, 3) := by decide +kernel
theorem dX8_meets_47 : decode cX8_meets 47 = .ok (.iload 4, 2) := by decide +kernel
theorem dX8_meets_49 : decode cX8_meets 49 = .ok (.iaload, 1) := by decide +kernel
theorem dX8_meets_50 : decode cX8_meets 50 = .ok (.if_icmp .ne 7, 3) := by decide +kernel
theorem dX8_meets_53 : decode cX8_meets 53 = .ok (.iconst 1, 1) := by decide +kernel
theorem dX8_meets_54 : decode cX8_meets 54 = .ok (.goto 4, 3) := by decide +kernel
theorem dX8_meets_57 : decode cX8_meets 57 = .ok (.iconst 0, 1) := by decide +kernel
theorem dX8_meets_58 : decode cX8_meets 58 = .ok (.istore 5, 2) := by decide +kernel
theorem dX8_meets_60 : decode cX8_meets 60 = .ok (.iconst 0, 1) := by decide +kernel
theorem dX8_meets_61 : decode cX8_meets 61 = .ok (.istore 6, 2) := by decide +kernel
theorem dX8_meets_63 : decode cX8_meets 63 = .ok (.iload 6, 2) := by decide +kernel
theorem dX8_meets_65 : decode cX8_meets 65 = .ok (.aload_n 0, 1) := by decide +kernel
theorem dX8_meets_66 : decode cX8_meets 66 = .ok (.getfield 7, 3) := by decide +kernel
theorem dX8_meets_69 : decode cX8_meets 69 = .ok (.iconst 1, 1) := by decide +kernel
theorem dX8_meets_70 : decode cX8_meets 70 = .ok (.iaload, 1) := by decide +kernel
theorem dX8_meets_71 : decode cX8_meets 71 = .ok (.if_icmp .ge 56, 3) := by decide +kernel
theorem dX8_meets_74 : decode cX8_meets 74 = .ok (.aload_n 0, 1) := by decide +kernel
theorem dX8_meets_75 : decode cX8_meets 75 = .ok (.getfield 7, 3) := by decide +kernel
theorem dX8_meets_78 : decode cX8_meets 78 = .ok (.iload_n 2, 1) := by decide +kernel
theorem dX8_meets_79 : decode cX8_meets 79 = .ok (.invokestatic 58, 3) := by decide +kernel
theorem dX8_meets_82 : decode cX8_meets 82 = .ok (.iconst 2, 1) := by decide +kernel
theorem dX8_meets_83 : decode cX8_meets 83 = .ok (.iadd, 1) := by decide +kernel
theorem dX8_meets_84 : decode cX8_meets 84 = .ok (.iaload, 1) := by decide +kernel
theorem dX8_meets_85 : decode cX8_meets 85 = .ok (.iconst 1, 1) := by decide +kernel
theorem dX8_meets_86 : decode cX8_meets 86 = .ok (.if_icmp .ne 41, 3) := by decide +kernel
theorem dX8_meets_89 : decode cX8_meets 89 = .ok (.iload 5, 2) := by decide +kernel
theorem dX8_meets_91 : decode cX8_meets 91 = .ok (.ifCond .ne 23, 3) := by decide +kernel
theorem dX8_meets_94 : decode cX8_meets 94 = .ok (.aload_n 0, 1) := by decide +kernel
theorem dX8_meets_95 : decode cX8_meets 95 = .ok (.iload_n 1, 1) := by decide +kernel
theorem dX8_meets_96 : decode cX8_meets 96 = .ok (.aload_n 0, 1) := by decide +kernel
theorem dX8_meets_97 : decode cX8_meets 97 = .ok (.getfield 7, 3) := by decide +kernel
theorem dX8_meets_100 : decode cX8_meets 100 = .ok (.iload 4, 2) := by decide +kernel
theorem dX8_meets_102 : decode cX8_meets 102 = .ok (.iaload, 1) := by decide +kernel
theorem dX8_meets_103 : decode cX8_meets 103 = .ok (.iload 6, 2) := by decide +kernel
theorem dX8_meets_105 : decode cX8_meets 105 = .ok (.invokestatic 82, 3) := by decide +kernel
theorem dX8_meets_108 : decode cX8_meets 108 = .ok (.invokevirtual 146, 3) := by decide +kernel
theorem dX8_meets_111 : decode cX8_meets 111 = .ok (.ifCond .eq 7, 3) := by decide +kernel
theorem dX8_meets_114 : decode cX8_meets 114 = .ok (.iconst 1, 1) := by decide +kernel
theorem dX8_meets_115 : decode cX8_meets 115 = .ok (.goto 4, 3) := by decide +kernel
theorem dX8_meets_118 : decode cX8_meets 118 = .ok (.iconst 0, 1) := by decide +kernel
theorem dX8_meets_119 : decode cX8_meets 119 = .ok (.istore 5, 2) := by decide +kernel
theorem dX8_meets_121 : decode cX8_meets 121 = .ok (.iinc 6 1, 3) := by decide +kernel
theorem dX8_meets_124 : decode cX8_meets 124 = .ok (.goto (-61), 3) := by decide +kernel
theorem dX8_meets_127 : decode cX8_meets 127 = .ok (.iload 5, 2) := by decide +kernel
theorem dX8_meets_129 : decode cX8_meets 129 = .ok (.ireturn, 1) := by decide +kernel
theorem dX8_isMet_0 : decode cX8_isMet 0 = .ok (.iload_n 2, 1) := by decide +kernel
theorem dX8_isMet_1 : decode cX8_isMet 1 = .ok (.ifCond .lt 17, 3) := by decide +kernel
theorem dX8_isMet_4 : decode cX8_isMet 4 = .ok (.iload_n 2, 1) := by decide +kernel
theorem dX8_isMet_5 : decode cX8_isMet 5 = .ok (.iload_n 3, 1) := by decide +kernel
theorem dX8_isMet_6 : decode cX8_isMet 6 = .ok (.iadd, 1) := by decide +kernel
theorem dX8_isMet_7 : decode cX8_isMet 7 = .ok (.aload_n 0, 1) := by decide +kernel
theorem dX8_isMet_8 : decode cX8_isMet 8 = .ok (.getfield 104, 3) := by decide +kernel
theorem dX8_isMet_11 : decode cX8_isMet 11 = .ok (.if_icmp .gt 7, 3) := by decide +kernel
theorem dX8_isMet_14 : decode cX8_isMet 14 = .ok (.iconst 1, 1) := by decide +kernel
theorem dX8_isMet_15 : decode cX8_isMet 15 = .ok (.goto 4, 3) := by decide +kernel
theorem dX8_isMet_18 : decode cX8_isMet 18 = .ok (.iconst 0, 1) := by decide +kernel
theorem dX8_isMet_19 : decode cX8_isMet 19 = .ok (.istore 4, 2) := by decide +kernel
theorem dX8_isMet_21 : decode cX8_isMet 21 = .ok (.iconst 0, 1) := by decide +kernel
theorem dX8_isMet_22 : decode cX8_isMet 22 = .ok (.istore 5, 2) := by decide +kernel
theorem dX8_isMet_24 : decode cX8_isMet 24 = .ok (.iload 5, 2) := by decide +kernel
theorem dX8_isMet_26 : decode cX8_isMet 26 = .ok (.iload_n 3, 1) := by decide +kernel
theorem dX8_isMet_27 : decode cX8_isMet 27 = .ok (.if_icmp .ge 63, 3) := by decide +kernel
theorem dX8_isMet_30 : decode cX8_isMet 30 = .ok (.iload 4, 2) := by decide +kernel
theorem dX8_isMet_32 : decode cX8_isMet 32 = .ok (.ifCond .eq 58, 3) := by decide +kernel
theorem dX8_isMet_35 : decode cX8_isMet 35 = .ok (.aload_n 0, 1) := by decide +kernel
theorem dX8_isMet_36 : decode cX8_isMet 36 = .ok (.getfield 23, 3) := by decide +kernel
theorem dX8_isMet_39 : decode cX8_isMet 39 = .ok (.bipush 15, 2) := by decide +kernel
theorem dX8_isMet_41 : decode cX8_isMet 41 = .ok (.iload_n 2, 1) := by decide +kernel
theorem dX8_isMet_42 : decode cX8_isMet 42 = .ok (.iload 5, 2) := by decide +kernel
theorem dX8_isMet_44 : decode cX8_isMet 44 = .ok (.iadd, 1) := by decide +kernel
theorem dX8_isMet_45 : decode cX8_isMet 45 = .ok (.imul, 1) := by decide +kernel
theorem dX8_isMet_46 : decode cX8_isMet 46 = .ok (.iconst 1, 1) := by decide +kernel
theorem dX8_isMet_47 : decode cX8_isMet 47 = .ok (.iadd, 1) := by decide +kernel
theorem dX8_isMet_48 : decode cX8_isMet 48 = .ok (.iaload, 1) := by decide +kernel
theorem dX8_isMet_49 : decode cX8_isMet 49 = .ok (.aload_n 0, 1) := by decide +kernel
theorem dX8_isMet_50 : decode cX8_isMet 50 = .ok (.getfield 23, 3) := by decide +kernel
theorem dX8_isMet_53 : decode cX8_isMet 53 = .ok (.bipush 15, 2) := by decide +kernel
theorem dX8_isMet_55 : decode cX8_isMet 55 = .ok (.iload_n 2, 1) := by decide +kernel
theorem dX8_isMet_56 : decode cX8_isMet 56 = .ok (.imul, 1) := by decide +kernel
theorem dX8_isMet_57 : decode cX8_isMet 57 = .ok (.iconst 1, 1) := by decide +kernel
theorem dX8_isMet_58 : decode cX8_isMet 58 = .ok (.iadd, 1) := by decide +kernel
theorem dX8_isMet_59 : decode cX8_isMet 59 = .ok (.iaload, 1) := by decide +kernel
theorem dX8_isMet_60 : decode cX8_isMet 60 = .ok (.if_icmp .ne 21, 3) := by decide +kernel
theorem dX8_isMet_63 : decode cX8_isMet 63 = .ok (.aload_n 0, 1) := by decide +kernel
theorem dX8_isMet_64 : decode cX8_isMet 64 = .ok (.iload_n 2, 1) := by decide +kernel
theorem dX8_isMet_65 : decode cX8_isMet 65 = .ok (.iload 5, 2) := by decide +kernel
theorem dX8_isMet_67 : decode cX8_isMet 67 = .ok (.iadd, 1) := by decide +kernel
theorem dX8_isMet_68 : decode cX8_isMet 68 = .ok (.iload_n 1, 1) := by decide +kernel
theorem dX8_isMet_69 : decode cX8_isMet 69 = .ok (.iload 5, 2) := by decide +kernel
theorem dX8_isMet_71 : decode cX8_isMet 71 = .ok (.invokevirtual 149, 3) := by decide +kernel
theorem dX8_isMet_74 : decode cX8_isMet 74 = .ok (.ifCond .eq 7, 3) := by decide +kernel
theorem dX8_isMet_77 : decode cX8_isMet 77 = .ok (.iconst 1, 1) := by decide +kernel
theorem dX8_isMet_78 : decode cX8_isMet 78 = .ok (.goto 4, 3) := by decide +kernel
theorem dX8_isMet_81 : decode cX8_isMet 81 = .ok (.iconst 0, 1) := by decide +kernel
theorem dX8_isMet_82 : decode cX8_isMet 82 = .ok (.istore 4, 2) := by decide +kernel
theorem dX8_isMet_84 : decode cX8_isMet 84 = .ok (.iinc 5 1, 3) := by decide +kernel
theorem dX8_isMet_87 : decode cX8_isMet 87 = .ok (.goto (-63), 3) := by decide +kernel
theorem dX8_isMet_90 : decode cX8_isMet 90 = .ok (.iload 4, 2) := by decide +kernel
theorem dX8_isMet_92 : decode cX8_isMet 92 = .ok (.ireturn, 1) := by decide +kernel
theorem dX8_isFound_0 : decode cX8_isFound 0 = .ok (.aload_n 0, 1) := by decide +kernel
theorem dX8_isFound_1 : decode cX8_isFound 1 = .ok (.iload_n 1, 1) := by decide +kernel
theorem dX8_isFound_2 : decode cX8_isFound 2 = .ok (.iload_n 2, 1) := by decide +kernel
theorem dX8_isFound_3 : decode cX8_isFound 3 = .ok (.aload_n 0, 1) := by decide +kernel
theorem dX8_isFound_4 : decode cX8_isFound 4 = .ok (.getfield 7, 3) := by decide +kernel
theorem dX8_isFound_7 : decode cX8_isFound 7 = .ok (.iload_n 1, 1) := by decide +kernel
theorem dX8_isFound_8 : decode cX8_isFound 8 = .ok (.invokestatic 58, 3) := by decide +kernel
theorem dX8_isFound_11 : decode cX8_isFound 11 = .ok (.iconst 0, 1) := by decide +kernel
theorem dX8_isFound_12 : decode cX8_isFound 12 = .ok (.iadd, 1) := by decide +kernel
theorem dX8_isFound_13 : decode cX8_isFound 13 = .ok (.iaload, 1) := by decide +kernel
theorem dX8_isFound_14 : decode cX8_isFound 14 = .ok (.invokevirtual 152, 3) := by decide +kernel
theorem dX8_isFound_17 : decode cX8_isFound 17 = .ok (.ireturn, 1) := by decide +kernel
theorem dX8_worthOf_0 : decode cX8_worthOf 0 = .ok (.aload_n 0, 1) := by decide +kernel
theorem dX8_worthOf_1 : decode cX8_worthOf 1 = .ok (.getfield 7, 3) := by decide +kernel
theorem dX8_worthOf_4 : decode cX8_worthOf 4 = .ok (.iload_n 1, 1) := by decide +kernel
theorem dX8_worthOf_5 : decode cX8_worthOf 5 = .ok (.invokestatic 58, 3) := by decide +kernel
theorem dX8_worthOf_8 : decode cX8_worthOf 8 = .ok (.iconst 1, 1) := by decide +kernel
theorem dX8_worthOf_9 : decode cX8_worthOf 9 = .ok (.iadd, 1) := by decide +kernel
theorem dX8_worthOf_10 : decode cX8_worthOf 10 = .ok (.iaload, 1) := by decide +kernel
theorem dX8_worthOf_11 : decode cX8_worthOf 11 = .ok (.aload_n 0, 1) := by decide +kernel
theorem dX8_worthOf_12 : decode cX8_worthOf 12 = .ok (.getfield 7, 3) := by decide +kernel
theorem dX8_worthOf_15 : decode cX8_worthOf 15 = .ok (.iload_n 1, 1) := by decide +kernel
theorem dX8_worthOf_16 : decode cX8_worthOf 16 = .ok (.invokestatic 58, 3) := by decide +kernel
theorem dX8_worthOf_19 : decode cX8_worthOf 19 = .ok (.iconst 0, 1) := by decide +kernel
theorem dX8_worthOf_20 : decode cX8_worthOf 20 = .ok (.iadd, 1) := by decide +kernel
theorem dX8_worthOf_21 : decode cX8_worthOf 21 = .ok (.iaload, 1) := by decide +kernel
theorem dX8_worthOf_22 : decode cX8_worthOf 22 = .ok (.imul, 1) := by decide +kernel
theorem dX8_worthOf_23 : decode cX8_worthOf 23 = .ok (.ireturn, 1) := by decide +kernel
theorem dX8_choose_0 : decode cX8_choose 0 = .ok (.aload_n 0, 1) := by decide +kernel
theorem dX8_choose_1 : decode cX8_choose 1 = .ok (.getfield 32, 3) := by decide +kernel
theorem dX8_choose_4 : decode cX8_choose 4 = .ok (.aload_n 0, 1) := by decide +kernel
theorem dX8_choose_5 : decode cX8_choose 5 = .ok (.getfield 104, 3) := by decide +kernel
theorem dX8_choose_8 : decode cX8_choose 8 = .ok (.iconst 0, 1) := by decide +kernel
theorem dX8_choose_9 : decode cX8_choose 9 = .ok (.iastore, 1) := by decide +kernel
theorem dX8_choose_10 : decode cX8_choose 10 = .ok (.aload_n 0, 1) := by decide +kernel
theorem dX8_choose_11 : decode cX8_choose 11 = .ok (.getfield 35, 3) := by decide +kernel
theorem dX8_choose_14 : decode cX8_choose 14 = .ok (.aload_n 0, 1) := by decide +kernel
theorem dX8_choose_15 : decode cX8_choose 15 = .ok (.getfield 104, 3) := by decide +kernel
theorem dX8_choose_18 : decode cX8_choose 18 = .ok (.iconst 0, 1) := by decide +kernel
theorem dX8_choose_19 : decode cX8_choose 19 = .ok (.iastore, 1) := by decide +kernel
theorem dX8_choose_20 : decode cX8_choose 20 = .ok (.aload_n 0, 1) := by decide +kernel
theorem dX8_choose_21 : decode cX8_choose 21 = .ok (.getfield 104, 3) := by decide +kernel
theorem dX8_choose_24 : decode cX8_choose 24 = .ok (.iconst 1, 1) := by decide +kernel
theorem dX8_choose_25 : decode cX8_choose 25 = .ok (.isub, 1) := by decide +kernel
theorem dX8_choose_26 : decode cX8_choose 26 = .ok (.istore_n 1, 1) := by decide +kernel
theorem dX8_choose_27 : decode cX8_choose 27 = .ok (.iload_n 1, 1) := by decide +kernel
theorem dX8_choose_28 : decode cX8_choose 28 = .ok (.ifCond .lt 215, 3) := by decide +kernel
theorem dX8_choose_31 : decode cX8_choose 31 = .ok (.aload_n 0, 1) := by decide +kernel
theorem dX8_choose_32 : decode cX8_choose 32 = .ok (.getfield 38, 3) := by decide +kernel
theorem dX8_choose_35 : decode cX8_choose 35 = .ok (.iload_n 1, 1) := by decide +kernel
theorem dX8_choose_36 : decode cX8_choose 36 = .ok (.iconst (-1), 1) := by decide +kernel
theorem dX8_choose_37 : decode cX8_choose 37 = .ok (.iastore, 1) := by decide +kernel
theorem dX8_choose_38 : decode cX8_choose 38 = .ok (.aload_n 0, 1) := by decide +kernel
theorem dX8_choose_39 : decode cX8_choose 39 = .ok (.getfield 32, 3) := by decide +kernel
theorem dX8_choose_42 : decode cX8_choose 42 = .ok (.iload_n 1, 1) := by decide +kernel
theorem dX8_choose_43 : decode cX8_choose 43 = .ok (.aload_n 0, 1) := by decide +kernel
theorem dX8_choose_44 : decode cX8_choose 44 = .ok (.getfield 32, 3) := by decide +kernel
theorem dX8_choose_47 : decode cX8_choose 47 = .ok (.iload_n 1, 1) := by decide +kernel
theorem dX8_choose_48 : decode cX8_choose 48 = .ok (.iconst 1, 1) := by decide +kernel
theorem dX8_choose_49 : decode cX8_choose 49 = .ok (.iadd, 1) := by decide +kernel
theorem dX8_choose_50 : decode cX8_choose 50 = .ok (.iaload, 1) := by decide +kernel
theorem dX8_choose_51 : decode cX8_choose 51 = .ok (.iastore, 1) := by decide +kernel
theorem dX8_choose_52 : decode cX8_choose 52 = .ok (.aload_n 0, 1) := by decide +kernel
theorem dX8_choose_53 : decode cX8_choose 53 = .ok (.getfield 35, 3) := by decide +kernel
theorem dX8_choose_56 : decode cX8_choose 56 = .ok (.iload_n 1, 1) := by decide +kernel
theorem dX8_choose_57 : decode cX8_choose 57 = .ok (.aload_n 0, 1) := by decide +kernel
theorem dX8_choose_58 : decode cX8_choose 58 = .ok (.getfield 35, 3) := by decide +kernel
theorem dX8_choose_61 : decode cX8_choose 61 = .ok (.iload_n 1, 1) := by decide +kernel
theorem dX8_choose_62 : decode cX8_choose 62 = .ok (.iconst 1, 1) := by decide +kernel
theorem dX8_choose_63 : decode cX8_choose 63 = .ok (.iadd, 1) := by decide +kernel
theorem dX8_choose_64 : decode cX8_choose 64 = .ok (.iaload, 1) := by decide +kernel
theorem dX8_choose_65 : decode cX8_choose 65 = .ok (.iastore, 1) := by decide +kernel
theorem dX8_choose_66 : decode cX8_choose 66 = .ok (.iconst 4, 1) := by decide +kernel
theorem dX8_choose_67 : decode cX8_choose 67 = .ok (.istore_n 2, 1) := by decide +kernel
theorem dX8_choose_68 : decode cX8_choose 68 = .ok (.iload_n 2, 1) := by decide +kernel
theorem dX8_choose_69 : decode cX8_choose 69 = .ok (.ifCond .le 168, 3) := by decide +kernel
theorem dX8_choose_72 : decode cX8_choose 72 = .ok (.iconst 0, 1) := by decide +kernel
theorem dX8_choose_73 : decode cX8_choose 73 = .ok (.istore_n 3, 1) := by decide +kernel
theorem dX8_choose_74 : decode cX8_choose 74 = .ok (.iload_n 3, 1) := by decide +kernel
theorem dX8_choose_75 : decode cX8_choose 75 = .ok (.aload_n 0, 1) := by decide +kernel
theorem dX8_choose_76 : decode cX8_choose 76 = .ok (.getfield 7, 3) := by decide +kernel
theorem dX8_choose_79 : decode cX8_choose 79 = .ok (.iconst 0, 1) := by decide +kernel
theorem dX8_choose_80 : decode cX8_choose 80 = .ok (.iaload, 1) := by decide +kernel
theorem dX8_choose_81 : decode cX8_choose 81 = .ok (.if_icmp .ge 150, 3) := by decide +kernel
theorem dX8_choose_84 : decode cX8_choose 84 = .ok (.aload_n 0, 1) := by decide +kernel
theorem dX8_choose_85 : decode cX8_choose 85 = .ok (.getfield 7, 3) := by decide +kernel
theorem dX8_choose_88 : decode cX8_choose 88 = .ok (.iload_n 3, 1) := by decide +kernel
theorem dX8_choose_89 : decode cX8_choose 89 = .ok (.invokestatic 58, 3) := by decide +kernel
theorem dX8_choose_92 : decode cX8_choose 92 = .ok (.iconst 0, 1) := by decide +kernel
theorem dX8_choose_93 : decode cX8_choose 93 = .ok (.iadd, 1) := by decide +kernel
theorem dX8_choose_94 : decode cX8_choose 94 = .ok (.iaload, 1) := by decide +kernel
theorem dX8_choose_95 : decode cX8_choose 95 = .ok (.iload_n 2, 1) := by decide +kernel
theorem dX8_choose_96 : decode cX8_choose 96 = .ok (.if_icmp .ne 129, 3) := by decide +kernel
theorem dX8_choose_99 : decode cX8_choose 99 = .ok (.aload_n 0, 1) := by decide +kernel
theorem dX8_choose_100 : decode cX8_choose 100 = .ok (.iload_n 3, 1) := by decide +kernel
theorem dX8_choose_101 : decode cX8_choose 101 = .ok (.iload_n 1, 1) := by decide +kernel
theorem dX8_choose_102 : decode cX8_choose 102 = .ok (.invokevirtual 107, 3) := by decide +kernel
theorem dX8_choose_105 : decode cX8_choose 105 = .ok (.ifCond .eq 120, 3) := by decide +kernel
theorem dX8_choose_108 : decode cX8_choose 108 = .ok (.aload_n 0, 1) := by decide +kernel
theorem dX8_choose_109 : decode cX8_choose 109 = .ok (.iload_n 3, 1) := by decide +kernel
theorem dX8_choose_110 : decode cX8_choose 110 = .ok (.invokevirtual 155, 3) := by decide +kernel
theorem dX8_choose_113 : decode cX8_choose 113 = .ok (.aload_n 0, 1) := by decide +kernel
theorem dX8_choose_114 : decode cX8_choose 114 = .ok (.getfield 32, 3) := by decide +kernel
theorem dX8_choose_117 : decode cX8_choose 117 = .ok (.iload_n 1, 1) := by decide +kernel
theorem dX8_choose_118 : decode cX8_choose 118 = .ok (.iload_n 2, 1) := by decide +kernel
theorem dX8_choose_119 : decode cX8_choose 119 = .ok (.iadd, 1) := by decide +kernel
theorem dX8_choose_120 : decode cX8_choose 120 = .ok (.iaload, 1) := by decide +kernel
theorem dX8_choose_121 : decode cX8_choose 121 = .ok (.iadd, 1) := by decide +kernel
theorem dX8_choose_122 : decode cX8_choose 122 = .ok (.istore 4, 2) := by decide +kernel
theorem dX8_choose_124 : decode cX8_choose 124 = .ok (.iconst 1, 1) := by decide +kernel
theorem dX8_choose_125 : decode cX8_choose 125 = .ok (.aload_n 0, 1) := by decide +kernel
theorem dX8_choose_126 : decode cX8_choose 126 = .ok (.getfield 35, 3) := by decide +kernel
theorem dX8_choose_129 : decode cX8_choose 129 = .ok (.iload_n 1, 1) := by decide +kernel
theorem dX8_choose_130 : decode cX8_choose 130 = .ok (.iload_n 2, 1) := by decide +kernel
theorem dX8_choose_131 : decode cX8_choose 131 = .ok (.iadd, 1) := by decide +kernel
theorem dX8_choose_132 : decode cX8_choose 132 = .ok (.iaload, 1) := by decide +kernel
theorem dX8_choose_133 : decode cX8_choose 133 = .ok (.iadd, 1) := by decide +kernel
theorem dX8_choose_134 : decode cX8_choose 134 = .ok (.istore 5, 2) := by decide +kernel
theorem dX8_choose_136 : decode cX8_choose 136 = .ok (.iload 4, 2) := by decide +kernel
theorem dX8_choose_138 : decode cX8_choose 138 = .ok (.aload_n 0, 1) := by decide +kernel
theorem dX8_choose_139 : decode cX8_choose 139 = .ok (.getfield 32, 3) := by decide +kernel
theorem dX8_choose_142 : decode cX8_choose 142 = .ok (.iload_n 1, 1) := by decide +kernel
theorem dX8_choose_143 : decode cX8_choose 143 = .ok (.iaload, 1) := by decide +kernel
theorem dX8_choose_144 : decode cX8_choose 144 = .ok (.if_icmp .gt 46, 3) := by decide +kernel
theorem dX8_choose_147 : decode cX8_choose 147 = .ok (.iload 4, 2) := by decide +kernel
theorem dX8_choose_149 : decode cX8_choose 149 = .ok (.aload_n 0, 1) := by decide +kernel
theorem dX8_choose_150 : decode cX8_choose 150 = .ok (.getfield 32, 3) := by decide +kernel
theorem dX8_choose_153 : decode cX8_choose 153 = .ok (.iload_n 1, 1) := by decide +kernel
theorem dX8_choose_154 : decode cX8_choose 154 = .ok (.iaload, 1) := by decide +kernel
theorem dX8_choose_155 : decode cX8_choose 155 = .ok (.if_icmp .ne 39, 3) := by decide +kernel
theorem dX8_choose_158 : decode cX8_choose 158 = .ok (.iload 5, 2) := by decide +kernel
theorem dX8_choose_160 : decode cX8_choose 160 = .ok (.aload_n 0, 1) := by decide +kernel
theorem dX8_choose_161 : decode cX8_choose 161 = .ok (.getfield 35, 3) := by decide +kernel
theorem dX8_choose_164 : decode cX8_choose 164 = .ok (.iload_n 1, 1) := by decide +kernel
theorem dX8_choose_165 : decode cX8_choose 165 = .ok (.iaload, 1) := by decide +kernel
theorem dX8_choose_166 : decode cX8_choose 166 = .ok (.if_icmp .lt 24, 3) := by decide +kernel
theorem dX8_choose_169 : decode cX8_choose 169 = .ok (.iload 5, 2) := by decide +kernel
theorem dX8_choose_171 : decode cX8_choose 171 = .ok (.aload_n 0, 1) := by decide +kernel
theorem dX8_choose_172 : decode cX8_choose 172 = .ok (.getfield 35, 3) := by decide +kernel
theorem dX8_choose_175 : decode cX8_choose 175 = .ok (.iload_n 1, 1) := by decide +kernel
theorem dX8_choose_176 : decode cX8_choose 176 = .ok (.iaload, 1) := by decide +kernel
theorem dX8_choose_177 : decode cX8_choose 177 = .ok (.if_icmp .ne 17, 3) := by decide +kernel
theorem dX8_choose_180 : decode cX8_choose 180 = .ok (.aload_n 0, 1) := by decide +kernel
theorem dX8_choose_181 : decode cX8_choose 181 = .ok (.getfield 38, 3) := by decide +kernel
theorem dX8_choose_184 : decode cX8_choose 184 = .ok (.iload_n 1, 1) := by decide +kernel
theorem dX8_choose_185 : decode cX8_choose 185 = .ok (.iaload, 1) := by decide +kernel
theorem dX8_choose_186 : decode cX8_choose 186 = .ok (.iconst (-1), 1) := by decide +kernel
theorem dX8_choose_187 : decode cX8_choose 187 = .ok (.if_icmp .ne 7, 3) := by decide +kernel
theorem dX8_choose_190 : decode cX8_choose 190 = .ok (.iconst 1, 1) := by decide +kernel
theorem dX8_choose_191 : decode cX8_choose 191 = .ok (.goto 4, 3) := by decide +kernel
theorem dX8_choose_194 : decode cX8_choose 194 = .ok (.iconst 0, 1) := by decide +kernel
theorem dX8_choose_195 : decode cX8_choose 195 = .ok (.istore 6, 2) := by decide +kernel
theorem dX8_choose_197 : decode cX8_choose 197 = .ok (.iload 6, 2) := by decide +kernel
theorem dX8_choose_199 : decode cX8_choose 199 = .ok (.ifCond .eq 26, 3) := by decide +kernel
theorem dX8_choose_202 : decode cX8_choose 202 = .ok (.aload_n 0, 1) := by decide +kernel
theorem dX8_choose_203 : decode cX8_choose 203 = .ok (.getfield 32, 3) := by decide +kernel
theorem dX8_choose_206 : decode cX8_choose 206 = .ok (.iload_n 1, 1) := by decide +kernel
theorem dX8_choose_207 : decode cX8_choose 207 = .ok (.iload 4, 2) := by decide +kernel
theorem dX8_choose_209 : decode cX8_choose 209 = .ok (.iastore, 1) := by decide +kernel
theorem dX8_choose_210 : decode cX8_choose 210 = .ok (.aload_n 0, 1) := by decide +kernel
theorem dX8_choose_211 : decode cX8_choose 211 = .ok (.getfield 35, 3) := by decide +kernel
theorem dX8_choose_214 : decode cX8_choose 214 = .ok (.iload_n 1, 1) := by decide +kernel
theorem dX8_choose_215 : decode cX8_choose 215 = .ok (.iload 5, 2) := by decide +kernel
theorem dX8_choose_217 : decode cX8_choose 217 = .ok (.iastore, 1) := by decide +kernel
theorem dX8_choose_218 : decode cX8_choose 218 = .ok (.aload_n 0, 1) := by decide +kernel
theorem dX8_choose_219 : decode cX8_choose 219 = .ok (.getfield 38, 3) := by decide +kernel
theorem dX8_choose_222 : decode cX8_choose 222 = .ok (.iload_n 1, 1) := by decide +kernel
theorem dX8_choose_223 : decode cX8_choose 223 = .ok (.iload_n 3, 1) := by decide +kernel
theorem dX8_choose_224 : decode cX8_choose 224 = .ok (.iastore, 1) := by decide +kernel
theorem dX8_choose_225 : decode cX8_choose 225 = .ok (.iinc 3 1, 3) := by decide +kernel
theorem dX8_choose_228 : decode cX8_choose 228 = .ok (.goto (-154), 3) := by decide +kernel
theorem dX8_choose_231 : decode cX8_choose 231 = .ok (.iinc 2 (-1), 3) := by decide +kernel
theorem dX8_choose_234 : decode cX8_choose 234 = .ok (.goto (-166), 3) := by decide +kernel
theorem dX8_choose_237 : decode cX8_choose 237 = .ok (.iinc 1 (-1), 3) := by decide +kernel
theorem dX8_choose_240 : decode cX8_choose 240 = .ok (.goto (-213), 3) := by decide +kernel
theorem dX8_choose_243 : decode cX8_choose 243 = .ok (.iconst 0, 1) := by decide +kernel
theorem dX8_choose_244 : decode cX8_choose 244 = .ok (.istore_n 1, 1) := by decide +kernel
theorem dX8_choose_245 : decode cX8_choose 245 = .ok (.iload_n 1, 1) := by decide +kernel
theorem dX8_choose_246 : decode cX8_choose 246 = .ok (.aload_n 0, 1) := by decide +kernel
theorem dX8_choose_247 : decode cX8_choose 247 = .ok (.getfield 104, 3) := by decide +kernel
theorem dX8_choose_250 : decode cX8_choose 250 = .ok (.if_icmp .ge 63, 3) := by decide +kernel
theorem dX8_choose_253 : decode cX8_choose 253 = .ok (.aload_n 0, 1) := by decide +kernel
theorem dX8_choose_254 : decode cX8_choose 254 = .ok (.getfield 38, 3) := by decide +kernel
theorem dX8_choose_257 : decode cX8_choose 257 = .ok (.iload_n 1, 1) := by decide +kernel
theorem dX8_choose_258 : decode cX8_choose 258 = .ok (.iaload, 1) := by decide +kernel
theorem dX8_choose_259 : decode cX8_choose 259 = .ok (.iconst (-1), 1) := by decide +kernel
theorem dX8_choose_260 : decode cX8_choose 260 = .ok (.if_icmp .ne 7, 3) := by decide +kernel
theorem dX8_choose_263 : decode cX8_choose 263 = .ok (.iconst 1, 1) := by decide +kernel
theorem dX8_choose_264 : decode cX8_choose 264 = .ok (.goto 19, 3) := by decide +kernel
theorem dX8_choose_267 : decode cX8_choose 267 = .ok (.aload_n 0, 1) := by decide +kernel
theorem dX8_choose_268 : decode cX8_choose 268 = .ok (.getfield 7, 3) := by decide +kernel
theorem dX8_choose_271 : decode cX8_choose 271 = .ok (.aload_n 0, 1) := by decide +kernel
theorem dX8_choose_272 : decode cX8_choose 272 = .ok (.getfield 38, 3) := by decide +kernel
theorem dX8_choose_275 : decode cX8_choose 275 = .ok (.iload_n 1, 1) := by decide +kernel
theorem dX8_choose_276 : decode cX8_choose 276 = .ok (.iaload, 1) := by decide +kernel
theorem dX8_choose_277 : decode cX8_choose 277 = .ok (.invokestatic 58, 3) := by decide +kernel
theorem dX8_choose_280 : decode cX8_choose 280 = .ok (.iconst 0, 1) := by decide +kernel
theorem dX8_choose_281 : decode cX8_choose 281 = .ok (.iadd, 1) := by decide +kernel
theorem dX8_choose_282 : decode cX8_choose 282 = .ok (.iaload, 1) := by decide +kernel
theorem dX8_choose_283 : decode cX8_choose 283 = .ok (.istore_n 2, 1) := by decide +kernel
theorem dX8_choose_284 : decode cX8_choose 284 = .ok (.iconst 1, 1) := by decide +kernel
theorem dX8_choose_285 : decode cX8_choose 285 = .ok (.istore_n 3, 1) := by decide +kernel
theorem dX8_choose_286 : decode cX8_choose 286 = .ok (.iload_n 3, 1) := by decide +kernel
theorem dX8_choose_287 : decode cX8_choose 287 = .ok (.iload_n 2, 1) := by decide +kernel
theorem dX8_choose_288 : decode cX8_choose 288 = .ok (.if_icmp .ge 18, 3) := by decide +kernel
theorem dX8_choose_291 : decode cX8_choose 291 = .ok (.aload_n 0, 1) := by decide +kernel
theorem dX8_choose_292 : decode cX8_choose 292 = .ok (.getfield 38, 3) := by decide +kernel
theorem dX8_choose_295 : decode cX8_choose 295 = .ok (.iload_n 1, 1) := by decide +kernel
theorem dX8_choose_296 : decode cX8_choose 296 = .ok (.iload_n 3, 1) := by decide +kernel
theorem dX8_choose_297 : decode cX8_choose 297 = .ok (.iadd, 1) := by decide +kernel
theorem dX8_choose_298 : decode cX8_choose 298 = .ok (.iconst (-1), 1) := by decide +kernel
theorem dX8_choose_299 : decode cX8_choose 299 = .ok (.iastore, 1) := by decide +kernel
theorem dX8_choose_300 : decode cX8_choose 300 = .ok (.iinc 3 1, 3) := by decide +kernel
theorem dX8_choose_303 : decode cX8_choose 303 = .ok (.goto (-17), 3) := by decide +kernel
theorem dX8_choose_306 : decode cX8_choose 306 = .ok (.iload_n 1, 1) := by decide +kernel
theorem dX8_choose_307 : decode cX8_choose 307 = .ok (.iload_n 2, 1) := by decide +kernel
theorem dX8_choose_308 : decode cX8_choose 308 = .ok (.iadd, 1) := by decide +kernel
theorem dX8_choose_309 : decode cX8_choose 309 = .ok (.istore_n 1, 1) := by decide +kernel
theorem dX8_choose_310 : decode cX8_choose 310 = .ok (.goto (-65), 3) := by decide +kernel
theorem dX8_choose_313 : decode cX8_choose 313 = .ok (.return_, 1) := by decide +kernel
