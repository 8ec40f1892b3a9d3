theorem dX11_years_0 : decode cX11_years 0 = .ok (.aload_n 0, 1) := by decide +kernel
theorem dX11_years_1 : decode cX11_years 1 = .ok (.getfield 64, 3) := by decide +kernel
theorem dX11_years_4 : decode cX11_years 4 = .ok (.invokevirtual 147, 3) := by decide +kernel
theorem dX11_years_7 : decode cX11_years 7 = .ok (.ifCond .eq 14, 3) := by decide +kernel
theorem dX11_years_10 : decode cX11_years 10 = .ok (.iload_n 1, 1) := by decide +kernel
theorem dX11_years_11 : decode cX11_years 11 = .ok (.iconst 1, 1) := by decide +kernel
theorem dX11_years_12 : decode cX11_years 12 = .ok (.if_icmp .lt 9, 3) := by decide +kernel
theorem dX11_years_15 : decode cX11_years 15 = .ok (.iload_n 1, 1) := by decide +kernel
theorem dX11_years_16 : decode cX11_years 16 = .ok (.bipush 60, 2) := by decide +kernel
theorem dX11_years_18 : decode cX11_years 18 = .ok (.if_icmp .le 5, 3) := by decide +kernel
theorem dX11_years_21 : decode cX11_years 21 = .ok (.iconst (-1), 1) := by decide +kernel
theorem dX11_years_22 : decode cX11_years 22 = .ok (.ireturn, 1) := by decide +kernel
theorem dX11_years_23 : decode cX11_years 23 = .ok (.aload_n 0, 1) := by decide +kernel
theorem dX11_years_24 : decode cX11_years 24 = .ok (.getfield 72, 3) := by decide +kernel
theorem dX11_years_27 : decode cX11_years 27 = .ok (.invokevirtual 220, 3) := by decide +kernel
theorem dX11_years_30 : decode cX11_years 30 = .ok (.istore 4, 2) := by decide +kernel
theorem dX11_years_32 : decode cX11_years 32 = .ok (.lload_n 2, 1) := by decide +kernel
theorem dX11_years_33 : decode cX11_years 33 = .ok (.lstore 5, 2) := by decide +kernel
theorem dX11_years_35 : decode cX11_years 35 = .ok (.iconst 0, 1) := by decide +kernel
theorem dX11_years_36 : decode cX11_years 36 = .ok (.istore 7, 2) := by decide +kernel
theorem dX11_years_38 : decode cX11_years 38 = .ok (.iload 7, 2) := by decide +kernel
theorem dX11_years_40 : decode cX11_years 40 = .ok (.iload_n 1, 1) := by decide +kernel
theorem dX11_years_41 : decode cX11_years 41 = .ok (.if_icmp .ge 62, 3) := by decide +kernel
theorem dX11_years_44 : decode cX11_years 44 = .ok (.lload 5, 2) := by decide +kernel
theorem dX11_years_46 : decode cX11_years 46 = .ok (.invokestatic 223, 3) := by decide +kernel
theorem dX11_years_49 : decode cX11_years 49 = .ok (.lstore 5, 2) := by decide +kernel
theorem dX11_years_51 : decode cX11_years 51 = .ok (.lload 5, 2) := by decide +kernel
theorem dX11_years_53 : decode cX11_years 53 = .ok (.bipush 10, 2) := by decide +kernel
theorem dX11_years_55 : decode cX11_years 55 = .ok (.invokestatic 227, 3) := by decide +kernel
theorem dX11_years_58 : decode cX11_years 58 = .ok (.aload_n 0, 1) := by decide +kernel
theorem dX11_years_59 : decode cX11_years 59 = .ok (.getfield 49, 3) := by decide +kernel
theorem dX11_years_62 : decode cX11_years 62 = .ok (.if_icmp .ge 10, 3) := by decide +kernel
theorem dX11_years_65 : decode cX11_years 65 = .ok (.aload_n 0, 1) := by decide +kernel
theorem dX11_years_66 : decode cX11_years 66 = .ok (.invokevirtual 231, 3) := by decide +kernel
theorem dX11_years_69 : decode cX11_years 69 = .ok (.goto 28, 3) := by decide +kernel
theorem dX11_years_72 : decode cX11_years 72 = .ok (.lload 5, 2) := by decide +kernel
theorem dX11_years_74 : decode cX11_years 74 = .ok (.invokestatic 223, 3) := by decide +kernel
theorem dX11_years_77 : decode cX11_years 77 = .ok (.lstore 5, 2) := by decide +kernel
theorem dX11_years_79 : decode cX11_years 79 = .ok (.aload_n 0, 1) := by decide +kernel
theorem dX11_years_80 : decode cX11_years 80 = .ok (.iconst 0, 1) := by decide +kernel
theorem dX11_years_81 : decode cX11_years 81 = .ok (.lload 5, 2) := by decide +kernel
theorem dX11_years_83 : decode cX11_years 83 = .ok (.aload_n 0, 1) := by decide +kernel
theorem dX11_years_84 : decode cX11_years 84 = .ok (.getfield 64, 3) := by decide +kernel
theorem dX11_years_87 : decode cX11_years 87 = .ok (.getfield 137, 3) := by decide +kernel
theorem dX11_years_90 : decode cX11_years 90 = .ok (.invokestatic 227, 3) := by decide +kernel
theorem dX11_years_93 : decode cX11_years 93 = .ok (.invokevirtual 199, 3) := by decide +kernel
theorem dX11_years_96 : decode cX11_years 96 = .ok (.pop, 1) := by decide +kernel
theorem dX11_years_97 : decode cX11_years 97 = .ok (.iinc 7 1, 3) := by decide +kernel
theorem dX11_years_100 : decode cX11_years 100 = .ok (.goto (-62), 3) := by decide +kernel
theorem dX11_years_103 : decode cX11_years 103 = .ok (.aload_n 0, 1) := by decide +kernel
theorem dX11_years_104 : decode cX11_years 104 = .ok (.getfield 72, 3) := by decide +kernel
theorem dX11_years_107 : decode cX11_years 107 = .ok (.invokevirtual 220, 3) := by decide +kernel
theorem dX11_years_110 : decode cX11_years 110 = .ok (.iload 4, 2) := by decide +kernel
theorem dX11_years_112 : decode cX11_years 112 = .ok (.isub, 1) := by decide +kernel
theorem dX11_years_113 : decode cX11_years 113 = .ok (.ireturn, 1) := by decide +kernel
theorem dX11_snowedIn_0 : decode cX11_snowedIn 0 = .ok (.aload_n 0, 1) := by decide +kernel
theorem dX11_snowedIn_1 : decode cX11_snowedIn 1 = .ok (.iconst 1, 1) := by decide +kernel
theorem dX11_snowedIn_2 : decode cX11_snowedIn 2 = .ok (.iconst 0, 1) := by decide +kernel
theorem dX11_snowedIn_3 : decode cX11_snowedIn 3 = .ok (.invokevirtual 199, 3) := by decide +kernel
theorem dX11_snowedIn_6 : decode cX11_snowedIn 6 = .ok (.ifCond .ne 17, 3) := by decide +kernel
theorem dX11_snowedIn_9 : decode cX11_snowedIn 9 = .ok (.aload_n 0, 1) := by decide +kernel
theorem dX11_snowedIn_10 : decode cX11_snowedIn 10 = .ok (.getfield 45, 3) := by decide +kernel
theorem dX11_snowedIn_13 : decode cX11_snowedIn 13 = .ok (.aload_n 0, 1) := by decide +kernel
theorem dX11_snowedIn_14 : decode cX11_snowedIn 14 = .ok (.getfield 72, 3) := by decide +kernel
theorem dX11_snowedIn_17 : decode cX11_snowedIn 17 = .ok (.getfield 206, 3) := by decide +kernel
theorem dX11_snowedIn_20 : decode cX11_snowedIn 20 = .ok (.invokevirtual 209, 3) := by decide +kernel
theorem dX11_snowedIn_23 : decode cX11_snowedIn 23 = .ok (.return_, 1) := by decide +kernel
theorem dX11_undo_0 : decode cX11_undo 0 = .ok (.aload_n 0, 1) := by decide +kernel
theorem dX11_undo_1 : decode cX11_undo 1 = .ok (.getfield 45, 3) := by decide +kernel
theorem dX11_undo_4 : decode cX11_undo 4 = .ok (.aload_n 0, 1) := by decide +kernel
theorem dX11_undo_5 : decode cX11_undo 5 = .ok (.getfield 72, 3) := by decide +kernel
theorem dX11_undo_8 : decode cX11_undo 8 = .ok (.getfield 206, 3) := by decide +kernel
theorem dX11_undo_11 : decode cX11_undo 11 = .ok (.invokevirtual 234, 3) := by decide +kernel
theorem dX11_undo_14 : decode cX11_undo 14 = .ok (.ifCond .eq 13, 3) := by decide +kernel
theorem dX11_undo_17 : decode cX11_undo 17 = .ok (.aload_n 0, 1) := by decide +kernel
theorem dX11_undo_18 : decode cX11_undo 18 = .ok (.getfield 45, 3) := by decide +kernel
theorem dX11_undo_21 : decode cX11_undo 21 = .ok (.getfield 238, 3) := by decide +kernel
theorem dX11_undo_24 : decode cX11_undo 24 = .ok (.goto 4, 3) := by decide +kernel
theorem dX11_undo_27 : decode cX11_undo 27 = .ok (.iconst (-1), 1) := by decide +kernel
theorem dX11_undo_28 : decode cX11_undo 28 = .ok (.ireturn, 1) := by decide +kernel
theorem dX11_act_0 : decode cX11_act 0 = .ok (.aload_n 0, 1) := by decide +kernel
theorem dX11_act_1 : decode cX11_act 1 = .ok (.getfield 72, 3) := by decide +kernel
theorem dX11_act_4 : decode cX11_act 4 = .ok (.iload_n 1, 1) := by decide +kernel
theorem dX11_act_5 : decode cX11_act 5 = .ok (.iload_n 2, 1) := by decide +kernel
theorem dX11_act_6 : decode cX11_act 6 = .ok (.invokevirtual 241, 3) := by decide +kernel
theorem dX11_act_9 : decode cX11_act 9 = .ok (.ifCond .ne 5, 3) := by decide +kernel
theorem dX11_act_12 : decode cX11_act 12 = .ok (.iconst 0, 1) := by decide +kernel
theorem dX11_act_13 : decode cX11_act 13 = .ok (.ireturn, 1) := by decide +kernel
theorem dX11_act_14 : decode cX11_act 14 = .ok (.aload_n 0, 1) := by decide +kernel
theorem dX11_act_15 : decode cX11_act 15 = .ok (.getfield 45, 3) := by decide +kernel
theorem dX11_act_18 : decode cX11_act 18 = .ok (.aload_n 0, 1) := by decide +kernel
theorem dX11_act_19 : decode cX11_act 19 = .ok (.getfield 72, 3) := by decide +kernel
theorem dX11_act_22 : decode cX11_act 22 = .ok (.getfield 206, 3) := by decide +kernel
theorem dX11_act_25 : decode cX11_act 25 = .ok (.invokevirtual 209, 3) := by decide +kernel
theorem dX11_act_28 : decode cX11_act 28 = .ok (.iload_n 1, 1) := by decide +kernel
theorem dX11_act_29 : decode cX11_act 29 = .ok (.ifCond .ne 54, 3) := by decide +kernel
theorem dX11_act_32 : decode cX11_act 32 = .ok (.aload_n 0, 1) := by decide +kernel
theorem dX11_act_33 : decode cX11_act 33 = .ok (.getfield 72, 3) := by decide +kernel
theorem dX11_act_36 : decode cX11_act 36 = .ok (.invokevirtual 151, 3) := by decide +kernel
theorem dX11_act_39 : decode cX11_act 39 = .ok (.istore_n 3, 1) := by decide +kernel
theorem dX11_act_40 : decode cX11_act 40 = .ok (.aload_n 0, 1) := by decide +kernel
theorem dX11_act_41 : decode cX11_act 41 = .ok (.getfield 72, 3) := by decide +kernel
theorem dX11_act_44 : decode cX11_act 44 = .ok (.iload_n 2, 1) := by decide +kernel
theorem dX11_act_45 : decode cX11_act 45 = .ok (.invokevirtual 244, 3) := by decide +kernel
theorem dX11_act_48 : decode cX11_act 48 = .ok (.istore 4, 2) := by decide +kernel
theorem dX11_act_50 : decode cX11_act 50 = .ok (.aload_n 0, 1) := by decide +kernel
theorem dX11_act_51 : decode cX11_act 51 = .ok (.getfield 72, 3) := by decide +kernel
theorem dX11_act_54 : decode cX11_act 54 = .ok (.iload_n 2, 1) := by decide +kernel
theorem dX11_act_55 : decode cX11_act 55 = .ok (.invokevirtual 247, 3) := by decide +kernel
theorem dX11_act_58 : decode cX11_act 58 = .ok (.istore 5, 2) := by decide +kernel
theorem dX11_act_60 : decode cX11_act 60 = .ok (.aload_n 0, 1) := by decide +kernel
theorem dX11_act_61 : decode cX11_act 61 = .ok (.getfield 45, 3) := by decide +kernel
theorem dX11_act_64 : decode cX11_act 64 = .ok (.aload_n 0, 1) := by decide +kernel
theorem dX11_act_65 : decode cX11_act 65 = .ok (.getfield 72, 3) := by decide +kernel
theorem dX11_act_68 : decode cX11_act 68 = .ok (.invokevirtual 220, 3) := by decide +kernel
theorem dX11_act_71 : decode cX11_act 71 = .ok (.iload_n 2, 1) := by decide +kernel
theorem dX11_act_72 : decode cX11_act 72 = .ok (.iload_n 3, 1) := by decide +kernel
theorem dX11_act_73 : decode cX11_act 73 = .ok (.iload 5, 2) := by decide +kernel
theorem dX11_act_75 : decode cX11_act 75 = .ok (.iload 4, 2) := by decide +kernel
theorem dX11_act_77 : decode cX11_act 77 = .ok (.invokevirtual 250, 3) := by decide +kernel
theorem dX11_act_80 : decode cX11_act 80 = .ok (.goto 12, 3) := by decide +kernel
theorem dX11_act_83 : decode cX11_act 83 = .ok (.aload_n 0, 1) := by decide +kernel
theorem dX11_act_84 : decode cX11_act 84 = .ok (.getfield 72, 3) := by decide +kernel
theorem dX11_act_87 : decode cX11_act 87 = .ok (.iload_n 1, 1) := by decide +kernel
theorem dX11_act_88 : decode cX11_act 88 = .ok (.iload_n 2, 1) := by decide +kernel
theorem dX11_act_89 : decode cX11_act 89 = .ok (.invokevirtual 254, 3) := by decide +kernel
theorem dX11_act_92 : decode cX11_act 92 = .ok (.iconst 1, 1) := by decide +kernel
theorem dX11_act_93 : decode cX11_act 93 = .ok (.ireturn, 1) := by decide +kernel
theorem dX11_stirred_0 : decode cX11_stirred 0 = .ok (.lload_n 0, 1) := by decide +kernel
theorem dX11_stirred_1 : decode cX11_stirred 1 = .ok (.ldc2_w 257, 3) := by decide +kernel
theorem dX11_stirred_4 : decode cX11_stirred 4 = .ok (.lmul, 1) := by decide +kernel
theorem dX11_stirred_5 : decode cX11_stirred 5 = .ok (.ldc2_w 259, 3) := by decide +kernel
theorem dX11_stirred_8 : decode cX11_stirred 8 = .ok (.ladd, 1) := by decide +kernel
theorem dX11_stirred_9 : decode cX11_stirred 9 = .ok (.lreturn, 1) := by decide +kernel
theorem dX11_drawn_0 : decode cX11_drawn 0 = .ok (.iload_n 2, 1) := by decide +kernel
theorem dX11_drawn_1 : decode cX11_drawn 1 = .ok (.iconst 1, 1) := by decide +kernel
theorem dX11_drawn_2 : decode cX11_drawn 2 = .ok (.if_icmp .ge 7, 3) := by decide +kernel
theorem dX11_drawn_5 : decode cX11_drawn 5 = .ok (.iconst 0, 1) := by decide +kernel
theorem dX11_drawn_6 : decode cX11_drawn 6 = .ok (.goto 11, 3) := by decide +kernel
theorem dX11_drawn_9 : decode cX11_drawn 9 = .ok (.lload_n 0, 1) := by decide +kernel
theorem dX11_drawn_10 : decode cX11_drawn 10 = .ok (.bipush 33, 2) := by decide +kernel
theorem dX11_drawn_12 : decode cX11_drawn 12 = .ok (.lushr, 1) := by decide +kernel
theorem dX11_drawn_13 : decode cX11_drawn 13 = .ok (.iload_n 2, 1) := by decide +kernel
theorem dX11_drawn_14 : decode cX11_drawn 14 = .ok (.i2l, 1) := by decide +kernel
theorem dX11_drawn_15 : decode cX11_drawn 15 = .ok (.lrem, 1) := by decide +kernel
theorem dX11_drawn_16 : decode cX11_drawn 16 = .ok (.l2i, 1) := by decide +kernel
theorem dX11_drawn_17 : decode cX11_drawn 17 = .ok (.ireturn, 1) := by decide +kernel
theorem dX11_book_0 : decode cX11_book 0 = .ok (.iload_n 1, 1) := by decide +kernel
theorem dX11_book_1 : decode cX11_book 1 = .ok (.ifCond .lt 26, 3) := by decide +kernel
theorem dX11_book_4 : decode cX11_book 4 = .ok (.iload_n 1, 1) := by decide +kernel
theorem dX11_book_5 : decode cX11_book 5 = .ok (.aload_n 0, 1) := by decide +kernel
theorem dX11_book_6 : decode cX11_book 6 = .ok (.getfield 72, 3) := by decide +kernel
theorem dX11_book_9 : decode cX11_book 9 = .ok (.invokevirtual 220, 3) := by decide +kernel
theorem dX11_book_12 : decode cX11_book 12 = .ok (.invokestatic 261, 3) := by decide +kernel
theorem dX11_book_15 : decode cX11_book 15 = .ok (.if_icmp .ge 12, 3) := by decide +kernel
theorem dX11_book_18 : decode cX11_book 18 = .ok (.iload_n 2, 1) := by decide +kernel
theorem dX11_book_19 : decode cX11_book 19 = .ok (.ifCond .lt 8, 3) := by decide +kernel
theorem dX11_book_22 : decode cX11_book 22 = .ok (.iload_n 2, 1) := by decide +kernel
theorem dX11_book_23 : decode cX11_book 23 = .ok (.iconst 3, 1) := by decide +kernel
theorem dX11_book_24 : decode cX11_book 24 = .ok (.if_icmp .le 7, 3) := by decide +kernel
theorem dX11_book_27 : decode cX11_book 27 = .ok (.ldc_w 264, 3) := by decide +kernel
theorem dX11_book_30 : decode cX11_book 30 = .ok (.ireturn, 1) := by decide +kernel
theorem dX11_book_31 : decode cX11_book 31 = .ok (.aload_n 0, 1) := by decide +kernel
theorem dX11_book_32 : decode cX11_book 32 = .ok (.getfield 45, 3) := by decide +kernel
theorem dX11_book_35 : decode cX11_book 35 = .ok (.aload_n 0, 1) := by decide +kernel
theorem dX11_book_36 : decode cX11_book 36 = .ok (.getfield 72, 3) := by decide +kernel
theorem dX11_book_39 : decode cX11_book 39 = .ok (.invokevirtual 220, 3) := by decide +kernel
theorem dX11_book_42 : decode cX11_book 42 = .ok (.iload_n 1, 1) := by decide +kernel
theorem dX11_book_43 : decode cX11_book 43 = .ok (.isub, 1) := by decide +kernel
theorem dX11_book_44 : decode cX11_book 44 = .ok (.iload_n 2, 1) := by decide +kernel
theorem dX11_book_45 : decode cX11_book 45 = .ok (.invokevirtual 265, 3) := by decide +kernel
theorem dX11_book_48 : decode cX11_book 48 = .ok (.ireturn, 1) := by decide +kernel
theorem dX11_step_0 : decode cX11_step 0 = .ok (.aload_n 0, 1) := by decide +kernel
theorem dX11_step_1 : decode cX11_step 1 = .ok (.iload_n 1, 1) := by decide +kernel
theorem dX11_step_2 : decode cX11_step 2 = .ok (.invokevirtual 269, 3) := by decide +kernel
theorem dX11_step_5 : decode cX11_step 5 = .ok (.ifCond .eq 27, 3) := by decide +kernel
theorem dX11_step_8 : decode cX11_step 8 = .ok (.iload_n 2, 1) := by decide +kernel
theorem dX11_step_9 : decode cX11_step 9 = .ok (.ifCond .lt 23, 3) := by decide +kernel
theorem dX11_step_12 : decode cX11_step 12 = .ok (.iload_n 2, 1) := by decide +kernel
theorem dX11_step_13 : decode cX11_step 13 = .ok (.aload_n 0, 1) := by decide +kernel
theorem dX11_step_14 : decode cX11_step 14 = .ok (.getfield 39, 3) := by decide +kernel
theorem dX11_step_17 : decode cX11_step 17 = .ok (.iload_n 1, 1) := by decide +kernel
theorem dX11_step_18 : decode cX11_step 18 = .ok (.aaload, 1) := by decide +kernel
theorem dX11_step_19 : decode cX11_step 19 = .ok (.arraylength, 1) := by decide +kernel
theorem dX11_step_20 : decode cX11_step 20 = .ok (.if_icmp .ge 12, 3) := by decide +kernel
theorem dX11_step_23 : decode cX11_step 23 = .ok (.iload_n 3, 1) := by decide +kernel
theorem dX11_step_24 : decode cX11_step 24 = .ok (.ifCond .lt 8, 3) := by decide +kernel
theorem dX11_step_27 : decode cX11_step 27 = .ok (.iload_n 3, 1) := by decide +kernel
theorem dX11_step_28 : decode cX11_step 28 = .ok (.iconst 1, 1) := by decide +kernel
theorem dX11_step_29 : decode cX11_step 29 = .ok (.if_icmp .le 7, 3) := by decide +kernel
theorem dX11_step_32 : decode cX11_step 32 = .ok (.ldc_w 264, 3) := by decide +kernel
theorem dX11_step_35 : decode cX11_step 35 = .ok (.ireturn, 1) := by decide +kernel
theorem dX11_step_36 : decode cX11_step 36 = .ok (.aload_n 0, 1) := by decide +kernel
theorem dX11_step_37 : decode cX11_step 37 = .ok (.getfield 39, 3) := by decide +kernel
theorem dX11_step_40 : decode cX11_step 40 = .ok (.iload_n 1, 1) := by decide +kernel
theorem dX11_step_41 : decode cX11_step 41 = .ok (.aaload, 1) := by decide +kernel
theorem dX11_step_42 : decode cX11_step 42 = .ok (.iload_n 2, 1) := by decide +kernel
theorem dX11_step_43 : decode cX11_step 43 = .ok (.iaload, 1) := by decide +kernel
theorem dX11_step_44 : decode cX11_step 44 = .ok (.bipush 10, 2) := by decide +kernel
theorem dX11_step_46 : decode cX11_step 46 = .ok (.idiv, 1) := by decide +kernel
theorem dX11_step_47 : decode cX11_step 47 = .ok (.istore 4, 2) := by decide +kernel
theorem dX11_step_49 : decode cX11_step 49 = .ok (.iload_n 3, 1) := by decide +kernel
theorem dX11_step_50 : decode cX11_step 50 = .ok (.ifCond .ne 6, 3) := by decide +kernel
theorem dX11_step_53 : decode cX11_step 53 = .ok (.iload 4, 2) := by decide +kernel
theorem dX11_step_55 : decode cX11_step 55 = .ok (.ireturn, 1) := by decide +kernel
theorem dX11_step_56 : decode cX11_step 56 = .ok (.iload 4, 2) := by decide +kernel
theorem dX11_step_58 : decode cX11_step 58 = .ok (.iconst 1, 1) := by decide +kernel
theorem dX11_step_59 : decode cX11_step 59 = .ok (.if_icmp .ne 7, 3) := by decide +kernel
theorem dX11_step_62 : decode cX11_step 62 = .ok (.iconst (-1), 1) := by decide +kernel
theorem dX11_step_63 : decode cX11_step 63 = .ok (.goto 14, 3) := by decide +kernel
theorem dX11_step_66 : decode cX11_step 66 = .ok (.aload_n 0, 1) := by decide +kernel
theorem dX11_step_67 : decode cX11_step 67 = .ok (.getfield 39, 3) := by decide +kernel
theorem dX11_step_70 : decode cX11_step 70 = .ok (.iload_n 1, 1) := by decide +kernel
theorem dX11_step_71 : decode cX11_step 71 = .ok (.aaload, 1) := by decide +kernel
theorem dX11_step_72 : decode cX11_step 72 = .ok (.iload_n 2, 1) := by decide +kernel
theorem dX11_step_73 : decode cX11_step 73 = .ok (.iaload, 1) := by decide +kernel
theorem dX11_step_74 : decode cX11_step 74 = .ok (.bipush 10, 2) := by decide +kernel
theorem dX11_step_76 : decode cX11_step 76 = .ok (.irem, 1) := by decide +kernel
theorem dX11_step_77 : decode cX11_step 77 = .ok (.ireturn, 1) := by decide +kernel
theorem dX11_run_0 : decode cX11_run 0 = .ok (.aload_n 0, 1) := by decide +kernel
theorem dX11_run_1 : decode cX11_run 1 = .ok (.getfield 64, 3) := by decide +kernel
theorem dX11_run_4 : decode cX11_run 4 = .ok (.invokevirtual 147, 3) := by decide +kernel
theorem dX11_run_7 : decode cX11_run 7 = .ok (.ifCond .eq 20, 3) := by decide +kernel
theorem dX11_run_10 : decode cX11_run 10 = .ok (.aload_n 0, 1) := by decide +kernel
theorem dX11_run_11 : decode cX11_run 11 = .ok (.iload_n 1, 1) := by decide +kernel
theorem dX11_run_12 : decode cX11_run 12 = .ok (.invokevirtual 269, 3) := by decide +kernel
theorem dX11_run_15 : decode cX11_run 15 = .ok (.ifCond .eq 12, 3) := by decide +kernel
theorem dX11_run_18 : decode cX11_run 18 = .ok (.iload_n 2, 1) := by decide +kernel
theorem dX11_run_19 : decode cX11_run 19 = .ok (.ifCond .lt 8, 3) := by decide +kernel
theorem dX11_run_22 : decode cX11_run 22 = .ok (.iload_n 2, 1) := by decide +kernel
theorem dX11_run_23 : decode cX11_run 23 = .ok (.iconst 1, 1) := by decide +kernel
theorem dX11_run_24 : decode cX11_run 24 = .ok (.if_icmp .le 7, 3) := by decide +kernel
theorem dX11_run_27 : decode cX11_run 27 = .ok (.ldc_w 264, 3) := by decide +kernel
theorem dX11_run_30 : decode cX11_run 30 = .ok (.ireturn, 1) := by decide +kernel
theorem dX11_run_31 : decode cX11_run 31 = .ok (.aload_n 0, 1) := by decide +kernel
theorem dX11_run_32 : decode cX11_run 32 = .ok (.getfield 76, 3) := by decide +kernel
theorem dX11_run_35 : decode cX11_run 35 = .ok (.aload_n 0, 1) := by decide +kernel
theorem dX11_run_36 : decode cX11_run 36 = .ok (.getfield 72, 3) := by decide +kernel
theorem dX11_run_39 : decode cX11_run 39 = .ok (.invokevirtual 272, 3) := by decide +kernel
theorem dX11_run_42 : decode cX11_run 42 = .ok (.aload_n 0, 1) := by decide +kernel
theorem dX11_run_43 : decode cX11_run 43 = .ok (.getfield 76, 3) := by decide +kernel
theorem dX11_run_46 : decode cX11_run 46 = .ok (.aload_n 0, 1) := by decide +kernel
theorem dX11_run_47 : decode cX11_run 47 = .ok (.getfield 39, 3) := by decide +kernel
theorem dX11_run_50 : decode cX11_run 50 = .ok (.iload_n 1, 1) := by decide +kernel
theorem dX11_run_51 : decode cX11_run 51 = .ok (.aaload, 1) := by decide +kernel
theorem dX11_run_52 : decode cX11_run 52 = .ok (.invokevirtual 276, 3) := by decide +kernel
theorem dX11_run_55 : decode cX11_run 55 = .ok (.istore_n 3, 1) := by decide +kernel
theorem dX11_run_56 : decode cX11_run 56 = .ok (.iload_n 2, 1) := by decide +kernel
theorem dX11_run_57 : decode cX11_run 57 = .ok (.iconst 1, 1) := by decide +kernel
theorem dX11_run_58 : decode cX11_run 58 = .ok (.if_icmp .ne 19, 3) := by decide +kernel
theorem dX11_run_61 : decode cX11_run 61 = .ok (.aload_n 0, 1) := by decide +kernel
theorem dX11_run_62 : decode cX11_run 62 = .ok (.getfield 76, 3) := by decide +kernel
theorem dX11_run_65 : decode cX11_run 65 = .ok (.invokevirtual 280, 3) := by decide +kernel
theorem dX11_run_68 : decode cX11_run 68 = .ok (.aload_n 0, 1) := by decide +kernel
theorem dX11_run_69 : decode cX11_run 69 = .ok (.getfield 72, 3) := by decide +kernel
theorem dX11_run_72 : decode cX11_run 72 = .ok (.invokevirtual 280, 3) := by decide +kernel
theorem dX11_run_75 : decode cX11_run 75 = .ok (.isub, 1) := by decide +kernel
theorem dX11_run_76 : decode cX11_run 76 = .ok (.ireturn, 1) := by decide +kernel
theorem dX11_run_77 : decode cX11_run 77 = .ok (.iload_n 3, 1) := by decide +kernel
theorem dX11_run_78 : decode cX11_run 78 = .ok (.aload_n 0, 1) := by decide +kernel
theorem dX11_run_79 : decode cX11_run 79 = .ok (.getfield 39, 3) := by decide +kernel
theorem dX11_run_82 : decode cX11_run 82 = .ok (.iload_n 1, 1) := by decide +kernel
theorem dX11_run_83 : decode cX11_run 83 = .ok (.aaload, 1) := by decide +kernel
theorem dX11_run_84 : decode cX11_run 84 = .ok (.arraylength, 1) := by decide +kernel
theorem dX11_run_85 : decode cX11_run 85 = .ok (.if_icmp .ne 7, 3) := by decide +kernel
theorem dX11_run_88 : decode cX11_run 88 = .ok (.iconst (-1), 1) := by decide +kernel
theorem dX11_run_89 : decode cX11_run 89 = .ok (.goto 4, 3) := by decide +kernel
theorem dX11_run_92 : decode cX11_run 92 = .ok (.iload_n 3, 1) := by decide +kernel
theorem dX11_run_93 : decode cX11_run 93 = .ok (.ireturn, 1) := by decide +kernel
theorem dX11_perform_0 : decode cX11_perform 0 = .ok (.aload_n 0, 1) := by decide +kernel
theorem dX11_perform_1 : decode cX11_perform 1 = .ok (.getfield 64, 3) := by decide +kernel
theorem dX11_perform_4 : decode cX11_perform 4 = .ok (.invokevirtual 147, 3) := by decide +kernel
theorem dX11_perform_7 : decode cX11_perform 7 = .ok (.ifCond .eq 11, 3) := by decide +kernel
theorem dX11_perform_10 : decode cX11_perform 10 = .ok (.aload_n 0, 1) := by decide +kernel
theorem dX11_perform_11 : decode cX11_perform 11 = .ok (.iload_n 1, 1) := by decide +kernel
theorem dX11_perform_12 : decode cX11_perform 12 = .ok (.invokevirtual 269, 3) := by decide +kernel
theorem dX11_perform_15 : decode cX11_perform 15 = .ok (.ifCond .ne 5, 3) := by decide +kernel
theorem dX11_perform_18 : decode cX11_perform 18 = .ok (.iconst (-1), 1) := by decide +kernel
theorem dX11_perform_19 : decode cX11_perform 19 = .ok (.ireturn, 1) := by decide +kernel
theorem dX11_perform_20 : decode cX11_perform 20 = .ok (.aload_n 0, 1) := by decide +kernel
theorem dX11_perform_21 : decode cX11_perform 21 = .ok (.getfield 39, 3) := by decide +kernel
theorem dX11_perform_24 : decode cX11_perform 24 = .ok (.iload_n 1, 1) := by decide +kernel
theorem dX11_perform_25 : decode cX11_perform 25 = .ok (.aaload, 1) := by decide +kernel
theorem dX11_perform_26 : decode cX11_perform 26 = .ok (.astore_n 2, 1) := by decide +kernel
theorem dX11_perform_27 : decode cX11_perform 27 = .ok (.iconst 0, 1) := by decide +kernel
theorem dX11_perform_28 : decode cX11_perform 28 = .ok (.istore_n 3, 1) := by decide +kernel
theorem dX11_perform_29 : decode cX11_perform 29 = .ok (.iload_n 3, 1) := by decide +kernel
theorem dX11_perform_30 : decode cX11_perform 30 = .ok (.aload_n 2, 1) := by decide +kernel
theorem dX11_perform_31 : decode cX11_perform 31 = .ok (.arraylength, 1) := by decide +kernel
theorem dX11_perform_32 : decode cX11_perform 32 = .ok (.if_icmp .ge 30, 3) := by decide +kernel
theorem dX11_perform_35 : decode cX11_perform 35 = .ok (.aload_n 0, 1) := by decide +kernel
theorem dX11_perform_36 : decode cX11_perform 36 = .ok (.aload_n 2, 1) := by decide +kernel
theorem dX11_perform_37 : decode cX11_perform 37 = .ok (.iload_n 3, 1) := by decide +kernel
theorem dX11_perform_38 : decode cX11_perform 38 = .ok (.iaload, 1) := by decide +kernel
theorem dX11_perform_39 : decode cX11_perform 39 = .ok (.bipush 10, 2) := by decide +kernel
theorem dX11_perform_41 : decode cX11_perform 41 = .ok (.idiv, 1) := by decide +kernel
theorem dX11_perform_42 : decode cX11_perform 42 = .ok (.aload_n 2, 1) := by decide +kernel
theorem dX11_perform_43 : decode cX11_perform 43 = .ok (.iload_n 3, 1) := by decide +kernel
theorem dX11_perform_44 : decode cX11_perform 44 = .ok (.iaload, 1) := by decide +kernel
theorem dX11_perform_45 : decode cX11_perform 45 = .ok (.bipush 10, 2) := by decide +kernel
theorem dX11_perform_47 : decode cX11_perform 47 = .ok (.irem, 1) := by decide +kernel
theorem dX11_perform_48 : decode cX11_perform 48 = .ok (.invokevirtual 199, 3) := by decide +kernel
theorem dX11_perform_51 : decode cX11_perform 51 = .ok (.ifCond .ne 5, 3) := by decide +kernel
theorem dX11_perform_54 : decode cX11_perform 54 = .ok (.iload_n 3, 1) := by decide +kernel
theorem dX11_perform_55 : decode cX11_perform 55 = .ok (.ireturn, 1) := by decide +kernel
theorem dX11_perform_56 : decode cX11_perform 56 = .ok (.iinc 3 1, 3) := by decide +kernel
theorem dX11_perform_59 : decode cX11_perform 59 = .ok (.goto (-30), 3) := by decide +kernel
theorem dX11_perform_62 : decode cX11_perform 62 = .ok (.aload_n 2, 1) := by decide +kernel
theorem dX11_perform_63 : decode cX11_perform 63 = .ok (.arraylength, 1) := by decide +kernel
theorem dX11_perform_64 : decode cX11_perform 64 = .ok (.ireturn, 1) := by decide +kernel
theorem dX11_round_0 : decode cX11_round 0 = .ok (.aload_n 0, 1) := by decide +kernel
theorem dX11_round_1 : decode cX11_round 1 = .ok (.getfield 64, 3) := by decide +kernel
theorem dX11_round_4 : decode cX11_round 4 = .ok (.invokevirtual 147, 3) := by decide +kernel
theorem dX11_round_7 : decode cX11_round 7 = .ok (.ifCond .eq 11, 3) := by decide +kernel
theorem dX11_round_10 : decode cX11_round 10 = .ok (.aload_n 0, 1) := by decide +kernel
theorem dX11_round_11 : decode cX11_round 11 = .ok (.iload_n 1, 1) := by decide +kernel
theorem dX11_round_12 : decode cX11_round 12 = .ok (.invokevirtual 269, 3) := by decide +kernel
theorem dX11_round_15 : decode cX11_round 15 = .ok (.ifCond .ne 5, 3) := by decide +kernel
theorem dX11_round_18 : decode cX11_round 18 = .ok (.iconst (-1), 1) := by decide +kernel
theorem dX11_round_19 : decode cX11_round 19 = .ok (.ireturn, 1) := by decide +kernel
theorem dX11_round_20 : decode cX11_round 20 = .ok (.aload_n 0, 1) := by decide +kernel
theorem dX11_round_21 : decode cX11_round 21 = .ok (.getfield 76, 3) := by decide +kernel
theorem dX11_round_24 : decode cX11_round 24 = .ok (.aload_n 0, 1) := by decide +kernel
theorem dX11_round_25 : decode cX11_round 25 = .ok (.getfield 72, 3) := by decide +kernel
theorem dX11_round_28 : decode cX11_round 28 = .ok (.invokevirtual 272, 3) := by decide +kernel
theorem dX11_round_31 : decode cX11_round 31 = .ok (.iconst 1, 1) := by decide +kernel
theorem dX11_round_32 : decode cX11_round 32 = .ok (.istore_n 2, 1) := by decide +kernel
theorem dX11_round_33 : decode cX11_round 33 = .ok (.iload_n 2, 1) := by decide +kernel
theorem dX11_round_34 : decode cX11_round 34 = .ok (.bipush 30, 2) := by decide +kernel
theorem dX11_round_36 : decode cX11_round 36 = .ok (.if_icmp .gt 53, 3) := by decide +kernel
theorem dX11_round_39 : decode cX11_round 39 = .ok (.aload_n 0, 1) := by decide +kernel
theorem dX11_round_40 : decode cX11_round 40 = .ok (.getfield 76, 3) := by decide +kernel
theorem dX11_round_43 : decode cX11_round 43 = .ok (.aload_n 0, 1) := by decide +kernel
theorem dX11_round_44 : decode cX11_round 44 = .ok (.getfield 39, 3) := by decide +kernel
theorem dX11_round_47 : decode cX11_round 47 = .ok (.iload_n 1, 1) := by decide +kernel
theorem dX11_round_48 : decode cX11_round 48 = .ok (.aaload, 1) := by decide +kernel
theorem dX11_round_49 : decode cX11_round 49 = .ok (.invokevirtual 276, 3) := by decide +kernel
theorem dX11_round_52 : decode cX11_round 52 = .ok (.aload_n 0, 1) := by decide +kernel
theorem dX11_round_53 : decode cX11_round 53 = .ok (.getfield 39, 3) := by decide +kernel
theorem dX11_round_56 : decode cX11_round 56 = .ok (.iload_n 1, 1) := by decide +kernel
theorem dX11_round_57 : decode cX11_round 57 = .ok (.aaload, 1) := by decide +kernel
theorem dX11_round_58 : decode cX11_round 58 = .ok (.arraylength, 1) := by decide +kernel
theorem dX11_round_59 : decode cX11_round 59 = .ok (.if_icmp .ge 5, 3) := by decide +kernel
theorem dX11_round_62 : decode cX11_round 62 = .ok (.iconst (-1), 1) := by decide +kernel
theorem dX11_round_63 : decode cX11_round 63 = .ok (.ireturn, 1) := by decide +kernel
theorem dX11_round_64 : decode cX11_round 64 = .ok (.aload_n 0, 1) := by decide +kernel
theorem dX11_round_65 : decode cX11_round 65 = .ok (.getfield 76, 3) := by decide +kernel
theorem dX11_round_68 : decode cX11_round 68 = .ok (.invokevirtual 151, 3) := by decide +kernel
theorem dX11_round_71 : decode cX11_round 71 = .ok (.aload_n 0, 1) := by decide +kernel
theorem dX11_round_72 : decode cX11_round 72 = .ok (.getfield 72, 3) := by decide +kernel
theorem dX11_round_75 : decode cX11_round 75 = .ok (.invokevirtual 151, 3) := by decide +kernel
theorem dX11_round_78 : decode cX11_round 78 = .ok (.if_icmp .ne 5, 3) := by decide +kernel
theorem dX11_round_81 : decode cX11_round 81 = .ok (.iload_n 2, 1) := by decide +kernel
theorem dX11_round_82 : decode cX11_round 82 = .ok (.ireturn, 1) := by decide +kernel
theorem dX11_round_83 : decode cX11_round 83 = .ok (.iinc 2 1, 3) := by decide +kernel
theorem dX11_round_86 : decode cX11_round 86 = .ok (.goto (-53), 3) := by decide +kernel
theorem dX11_round_89 : decode cX11_round 89 = .ok (.iconst (-1), 1) := by decide +kernel
theorem dX11_round_90 : decode cX11_round 90 = .ok (.ireturn, 1) := by decide +kernel
theorem dX11_hasWinter_0 : decode cX11_hasWinter 0 = .ok (.iload_n 1, 1) := by decide +kernel
theorem dX11_hasWinter_1 : decode cX11_hasWinter 1 = .ok (.ifCond .lt 15, 3) := by decide +kernel
theorem dX11_hasWinter_4 : decode cX11_hasWinter 4 = .ok (.iload_n 1, 1) := by decide +kernel
theorem dX11_hasWinter_5 : decode cX11_hasWinter 5 = .ok (.aload_n 0, 1) := by decide +kernel
theorem dX11_hasWinter_6 : decode cX11_hasWinter 6 = .ok (.getfield 140, 3) := by decide +kernel
theorem dX11_hasWinter_9 : decode cX11_hasWinter 9 = .ok (.if_icmp .ge 7, 3) := by decide +kernel
theorem dX11_hasWinter_12 : decode cX11_hasWinter 12 = .ok (.iconst 1, 1) := by decide +kernel
theorem dX11_hasWinter_13 : decode cX11_hasWinter 13 = .ok (.goto 4, 3) := by decide +kernel
theorem dX11_hasWinter_16 : decode cX11_hasWinter 16 = .ok (.iconst 0, 1) := by decide +kernel
theorem dX11_hasWinter_17 : decode cX11_hasWinter 17 = .ok (.ireturn, 1) := by decide +kernel
theorem dX11_best_0 : decode cX11_best 0 = .ok (.aload_n 0, 1) := by decide +kernel
theorem dX11_best_1 : decode cX11_best 1 = .ok (.getfield 64, 3) := by decide +kernel
theorem dX11_best_4 : decode cX11_best 4 = .ok (.invokevirtual 147, 3) := by decide +kernel
theorem dX11_best_7 : decode cX11_best 7 = .ok (.ifCond .eq 12, 3) := by decide +kernel
theorem dX11_best_10 : decode cX11_best 10 = .ok (.iload_n 1, 1) := by decide +kernel
theorem dX11_best_11 : decode cX11_best 11 = .ok (.ifCond .lt 8, 3) := by decide +kernel
theorem dX11_best_14 : decode cX11_best 14 = .ok (.iload_n 1, 1) := by decide +kernel
theorem dX11_best_15 : decode cX11_best 15 = .ok (.iconst 1, 1) := by decide +kernel
theorem dX11_best_16 : decode cX11_best 16 = .ok (.if_icmp .le 5, 3) := by decide +kernel
theorem dX11_best_19 : decode cX11_best 19 = .ok (.iconst (-1), 1) := by decide +kernel
theorem dX11_best_20 : decode cX11_best 20 = .ok (.ireturn, 1) := by decide +kernel
theorem dX11_best_21 : decode cX11_best 21 = .ok (.aload_n 0, 1) := by decide +kernel
theorem dX11_best_22 : decode cX11_best 22 = .ok (.getfield 84, 3) := by decide +kernel
theorem dX11_best_25 : decode cX11_best 25 = .ok (.aload_n 0, 1) := by decide +kernel
theorem dX11_best_26 : decode cX11_best 26 = .ok (.getfield 64, 3) := by decide +kernel
theorem dX11_best_29 : decode cX11_best 29 = .ok (.getfield 137, 3) := by decide +kernel
theorem dX11_best_32 : decode cX11_best 32 = .ok (.iconst 1, 1) := by decide +kernel
theorem dX11_best_33 : decode cX11_best 33 = .ok (.invokevirtual 283, 3) := by decide +kernel
theorem dX11_best_36 : decode cX11_best 36 = .ok (.iload_n 1, 1) := by decide +kernel
theorem dX11_best_37 : decode cX11_best 37 = .ok (.ifCond .ne 13, 3) := by decide +kernel
theorem dX11_best_40 : decode cX11_best 40 = .ok (.aload_n 0, 1) := by decide +kernel
theorem dX11_best_41 : decode cX11_best 41 = .ok (.getfield 84, 3) := by decide +kernel
theorem dX11_best_44 : decode cX11_best 44 = .ok (.getfield 287, 3) := by decide +kernel
theorem dX11_best_47 : decode cX11_best 47 = .ok (.goto 10, 3) := by decide +kernel
theorem dX11_best_50 : decode cX11_best 50 = .ok (.aload_n 0, 1) := by decide +kernel
theorem dX11_best_51 : decode cX11_best 51 = .ok (.getfield 84, 3) := by decide +kernel
theorem dX11_best_54 : decode cX11_best 54 = .ok (.getfield 290, 3) := by decide +kernel
theorem dX11_best_57 : decode cX11_best 57 = .ok (.ireturn, 1) := by decide +kernel
theorem dX11_comes_0 : decode cX11_comes 0 = .ok (.aload_n 0, 1) := by decide +kernel
theorem dX11_comes_1 : decode cX11_comes 1 = .ok (.getfield 64, 3) := by decide +kernel
theorem dX11_comes_4 : decode cX11_comes 4 = .ok (.invokevirtual 147, 3) := by decide +kernel
theorem dX11_comes_7 : decode cX11_comes 7 = .ok (.ifCond .eq 22, 3) := by decide +kernel
theorem dX11_comes_10 : decode cX11_comes 10 = .ok (.iload_n 1, 1) := by decide +kernel
theorem dX11_comes_11 : decode cX11_comes 11 = .ok (.iconst 1, 1) := by decide +kernel
theorem dX11_comes_12 : decode cX11_comes 12 = .ok (.if_icmp .lt 17, 3) := by decide +kernel
theorem dX11_comes_15 : decode cX11_comes 15 = .ok (.iload_n 1, 1) := by decide +kernel
theorem dX11_comes_16 : decode cX11_comes 16 = .ok (.iconst 4, 1) := by decide +kernel
theorem dX11_comes_17 : decode cX11_comes 17 = .ok (.if_icmp .gt 12, 3) := by decide +kernel
theorem dX11_comes_20 : decode cX11_comes 20 = .ok (.iload_n 2, 1) := by decide +kernel
theorem dX11_comes_21 : decode cX11_comes 21 = .ok (.ifCond .lt 8, 3) := by decide +kernel
theorem dX11_comes_24 : decode cX11_comes 24 = .ok (.iload_n 2, 1) := by decide +kernel
theorem dX11_comes_25 : decode cX11_comes 25 = .ok (.iconst 1, 1) := by decide +kernel
theorem dX11_comes_26 : decode cX11_comes 26 = .ok (.if_icmp .le 5, 3) := by decide +kernel
theorem dX11_comes_29 : decode cX11_comes 29 = .ok (.iconst (-1), 1) := by decide +kernel
theorem dX11_comes_30 : decode cX11_comes 30 = .ok (.ireturn, 1) := by decide +kernel
theorem dX11_comes_31 : decode cX11_comes 31 = .ok (.aload_n 0, 1) := by decide +kernel
theorem dX11_comes_32 : decode cX11_comes 32 = .ok (.getfield 84, 3) := by decide +kernel
theorem dX11_comes_35 : decode cX11_comes 35 = .ok (.iload_n 1, 1) := by decide +kernel
theorem dX11_comes_36 : decode cX11_comes 36 = .ok (.iconst 0, 1) := by decide +kernel
theorem dX11_comes_37 : decode cX11_comes 37 = .ok (.invokevirtual 283, 3) := by decide +kernel
theorem dX11_comes_40 : decode cX11_comes 40 = .ok (.iload_n 2, 1) := by decide +kernel
theorem dX11_comes_41 : decode cX11_comes 41 = .ok (.ifCond .ne 13, 3) := by decide +kernel
theorem dX11_comes_44 : decode cX11_comes 44 = .ok (.aload_n 0, 1) := by decide +kernel
theorem dX11_comes_45 : decode cX11_comes 45 = .ok (.getfield 84, 3) := by decide +kernel
theorem dX11_comes_48 : decode cX11_comes 48 = .ok (.getfield 287, 3) := by decide +kernel
theorem dX11_comes_51 : decode cX11_comes 51 = .ok (.goto 10, 3) := by decide +kernel
theorem dX11_comes_54 : decode cX11_comes 54 = .ok (.aload_n 0, 1) := by decide +kernel
theorem dX11_comes_55 : decode cX11_comes 55 = .ok (.getfield 84, 3) := by decide +kernel
theorem dX11_comes_58 : decode cX11_comes 58 = .ok (.getfield 290, 3) := by decide +kernel
theorem dX11_comes_61 : decode cX11_comes 61 = .ok (.ireturn, 1) := by decide +kernel
theorem dX11_soonest_0 : decode cX11_soonest 0 = .ok (.aload_n 0, 1) := by decide +kernel
theorem dX11_soonest_1 : decode cX11_soonest 1 = .ok (.getfield 64, 3) := by decide +kernel
theorem dX11_soonest_4 : decode cX11_soonest 4 = .ok (.iload_n 1, 1) := by decide +kernel
theorem dX11_soonest_5 : decode cX11_soonest 5 = .ok (.invokevirtual 160, 3) := by decide +kernel
theorem dX11_soonest_8 : decode cX11_soonest 8 = .ok (.ifCond .eq 12, 3) := by decide +kernel
theorem dX11_soonest_11 : decode cX11_soonest 11 = .ok (.iload_n 2, 1) := by decide +kernel
theorem dX11_soonest_12 : decode cX11_soonest 12 = .ok (.ifCond .lt 8, 3) := by decide +kernel
theorem dX11_soonest_15 : decode cX11_soonest 15 = .ok (.iload_n 2, 1) := by decide +kernel
theorem dX11_soonest_16 : decode cX11_soonest 16 = .ok (.iconst 1, 1) := by decide +kernel
theorem dX11_soonest_17 : decode cX11_soonest 17 = .ok (.if_icmp .le 5, 3) := by decide +kernel
theorem dX11_soonest_20 : decode cX11_soonest 20 = .ok (.iconst (-1), 1) := by decide +kernel
theorem dX11_soonest_21 : decode cX11_soonest 21 = .ok (.ireturn, 1) := by decide +kernel
theorem dX11_soonest_22 : decode cX11_soonest 22 = .ok (.aload_n 0, 1) := by decide +kernel
theorem dX11_soonest_23 : decode cX11_soonest 23 = .ok (.getfield 84, 3) := by decide +kernel
theorem dX11_soonest_26 : decode cX11_soonest 26 = .ok (.iload_n 1, 1) := by decide +kernel
theorem dX11_soonest_27 : decode cX11_soonest 27 = .ok (.iconst 0, 1) := by decide +kernel
theorem dX11_soonest_28 : decode cX11_soonest 28 = .ok (.iconst 0, 1) := by decide +kernel
theorem dX11_soonest_29 : decode cX11_soonest 29 = .ok (.invokevirtual 293, 3) := by decide +kernel
theorem dX11_soonest_32 : decode cX11_soonest 32 = .ok (.aload_n 0, 1) := by decide +kernel
theorem dX11_soonest_33 : decode cX11_soonest 33 = .ok (.iload_n 2, 1) := by decide +kernel
theorem dX11_soonest_34 : decode cX11_soonest 34 = .ok (.invokevirtual 297, 3) := by decide +kernel
theorem dX11_soonest_37 : decode cX11_soonest 37 = .ok (.ireturn, 1) := by decide +kernel
theorem dX11_ends_0 : decode cX11_ends 0 = .ok (.aload_n 0, 1) := by decide +kernel
theorem dX11_ends_1 : decode cX11_ends 1 = .ok (.getfield 64, 3) := by decide +kernel
theorem dX11_ends_4 : decode cX11_ends 4 = .ok (.invokevirtual 147, 3) := by decide +kernel
theorem dX11_ends_7 : decode cX11_ends 7 = .ok (.ifCond .eq 12, 3) := by decide +kernel
theorem dX11_ends_10 : decode cX11_ends 10 = .ok (.iload_n 1, 1) := by decide +kernel
theorem dX11_ends_11 : decode cX11_ends 11 = .ok (.ifCond .lt 8, 3) := by decide +kernel
theorem dX11_ends_14 : decode cX11_ends 14 = .ok (.iload_n 1, 1) := by decide +kernel
theorem dX11_ends_15 : decode cX11_ends 15 = .ok (.iconst 1, 1) := by decide +kernel
theorem dX11_ends_16 : decode cX11_ends 16 = .ok (.if_icmp .le 5, 3) := by decide +kernel
theorem dX11_ends_19 : decode cX11_ends 19 = .ok (.iconst (-1), 1) := by decide +kernel
theorem dX11_ends_20 : decode cX11_ends 20 = .ok (.ireturn, 1) := by decide +kernel
theorem dX11_ends_21 : decode cX11_ends 21 = .ok (.aload_n 0, 1) := by decide +kernel
theorem dX11_ends_22 : decode cX11_ends 22 = .ok (.getfield 84, 3) := by decide +kernel
theorem dX11_ends_25 : decode cX11_ends 25 = .ok (.aload_n 0, 1) := by decide +kernel
theorem dX11_ends_26 : decode cX11_ends 26 = .ok (.getfield 72, 3) := by decide +kernel
theorem dX11_ends_29 : decode cX11_ends 29 = .ok (.invokevirtual 151, 3) := by decide +kernel
theorem dX11_ends_32 : decode cX11_ends 32 = .ok (.iconst 1, 1) := by decide +kernel
theorem dX11_ends_33 : decode cX11_ends 33 = .ok (.iconst 0, 1) := by decide +kernel
theorem dX11_ends_34 : decode cX11_ends 34 = .ok (.invokevirtual 293, 3) := by decide +kernel
theorem dX11_ends_37 : decode cX11_ends 37 = .ok (.aload_n 0, 1) := by decide +kernel
theorem dX11_ends_38 : decode cX11_ends 38 = .ok (.iload_n 1, 1) := by decide +kernel
theorem dX11_ends_39 : decode cX11_ends 39 = .ok (.invokevirtual 297, 3) := by decide +kernel
theorem dX11_ends_42 : decode cX11_ends 42 = .ok (.ireturn, 1) := by decide +kernel
theorem dX11_fewest_0 : decode cX11_fewest 0 = .ok (.iconst 0, 1) := by decide +kernel
theorem dX11_fewest_1 : decode cX11_fewest 1 = .ok (.istore_n 2, 1) := by decide +kernel
theorem dX11_fewest_2 : decode cX11_fewest 2 = .ok (.iload_n 2, 1) := by decide +kernel
theorem dX11_fewest_3 : decode cX11_fewest 3 = .ok (.iconst 4, 1) := by decide +kernel
theorem dX11_fewest_4 : decode cX11_fewest 4 = .ok (.if_icmp .gt 44, 3) := by decide +kernel
theorem dX11_fewest_7 : decode cX11_fewest 7 = .ok (.aload_n 0, 1) := by decide +kernel
theorem dX11_fewest_8 : decode cX11_fewest 8 = .ok (.getfield 84, 3) := by decide +kernel
theorem dX11_fewest_11 : decode cX11_fewest 11 = .ok (.iload_n 2, 1) := by decide +kernel
theorem dX11_fewest_12 : decode cX11_fewest 12 = .ok (.iconst 0, 1) := by decide +kernel
theorem dX11_fewest_13 : decode cX11_fewest 13 = .ok (.invokevirtual 283, 3) := by decide +kernel
theorem dX11_fewest_16 : decode cX11_fewest 16 = .ok (.aload_n 0, 1) := by decide +kernel
theorem dX11_fewest_17 : decode cX11_fewest 17 = .ok (.getfield 84, 3) := by decide +kernel
theorem dX11_fewest_20 : decode cX11_fewest 20 = .ok (.getfield 300, 3) := by decide +kernel
theorem dX11_fewest_23 : decode cX11_fewest 23 = .ok (.ifCond .le 19, 3) := by decide +kernel
theorem dX11_fewest_26 : decode cX11_fewest 26 = .ok (.iload_n 1, 1) := by decide +kernel
theorem dX11_fewest_27 : decode cX11_fewest 27 = .ok (.ifCond .ne 7, 3) := by decide +kernel
theorem dX11_fewest_30 : decode cX11_fewest 30 = .ok (.iload_n 2, 1) := by decide +kernel
theorem dX11_fewest_31 : decode cX11_fewest 31 = .ok (.goto 10, 3) := by decide +kernel
theorem dX11_fewest_34 : decode cX11_fewest 34 = .ok (.aload_n 0, 1) := by decide +kernel
theorem dX11_fewest_35 : decode cX11_fewest 35 = .ok (.getfield 84, 3) := by decide +kernel
theorem dX11_fewest_38 : decode cX11_fewest 38 = .ok (.getfield 303, 3) := by decide +kernel
theorem dX11_fewest_41 : decode cX11_fewest 41 = .ok (.ireturn, 1) := by decide +kernel
theorem dX11_fewest_42 : decode cX11_fewest 42 = .ok (.iinc 2 1, 3) := by decide +kernel
theorem dX11_fewest_45 : decode cX11_fewest 45 = .ok (.goto (-43), 3) := by decide +kernel
theorem dX11_fewest_48 : decode cX11_fewest 48 = .ok (.iconst (-1), 1) := by decide +kernel
theorem dX11_fewest_49 : decode cX11_fewest 49 = .ok (.ireturn, 1) := by decide +kernel
theorem dX11_who_0 : decode cX11_who 0 = .ok (.aload_n 0, 1) := by decide +kernel
theorem dX11_who_1 : decode cX11_who 1 = .ok (.getfield 64, 3) := by decide +kernel
theorem dX11_who_4 : decode cX11_who 4 = .ok (.iload_n 1, 1) := by decide +kernel
theorem dX11_who_5 : decode cX11_who 5 = .ok (.invokevirtual 160, 3) := by decide +kernel
theorem dX11_who_8 : decode cX11_who 8 = .ok (.ifCond .eq 13, 3) := by decide +kernel
theorem dX11_who_11 : decode cX11_who 11 = .ok (.iload_n 2, 1) := by decide +kernel
theorem dX11_who_12 : decode cX11_who 12 = .ok (.iconst 1, 1) := by decide +kernel
theorem dX11_who_13 : decode cX11_who 13 = .ok (.if_icmp .lt 8, 3) := by decide +kernel
theorem dX11_who_16 : decode cX11_who 16 = .ok (.iload_n 2, 1) := by decide +kernel
theorem dX11_who_17 : decode cX11_who 17 = .ok (.iconst 3, 1) := by decide +kernel
theorem dX11_who_18 : decode cX11_who 18 = .ok (.if_icmp .le 5, 3) := by decide +kernel
theorem dX11_who_21 : decode cX11_who 21 = .ok (.iconst (-1), 1) := by decide +kernel
theorem dX11_who_22 : decode cX11_who 22 = .ok (.ireturn, 1) := by decide +kernel
theorem dX11_who_23 : decode cX11_who 23 = .ok (.aload_n 0, 1) := by decide +kernel
theorem dX11_who_24 : decode cX11_who 24 = .ok (.getfield 84, 3) := by decide +kernel
theorem dX11_who_27 : decode cX11_who 27 = .ok (.iload_n 1, 1) := by decide +kernel
theorem dX11_who_28 : decode cX11_who 28 = .ok (.iconst 0, 1) := by decide +kernel
theorem dX11_who_29 : decode cX11_who 29 = .ok (.iload_n 3, 1) := by decide +kernel
theorem dX11_who_30 : decode cX11_who 30 = .ok (.invokevirtual 293, 3) := by decide +kernel
theorem dX11_who_33 : decode cX11_who 33 = .ok (.aload_n 0, 1) := by decide +kernel
theorem dX11_who_34 : decode cX11_who 34 = .ok (.getfield 84, 3) := by decide +kernel
theorem dX11_who_37 : decode cX11_who 37 = .ok (.iload_n 2, 1) := by decide +kernel
theorem dX11_who_38 : decode cX11_who 38 = .ok (.iconst 1, 1) := by decide +kernel
theorem dX11_who_39 : decode cX11_who 39 = .ok (.invokevirtual 283, 3) := by decide +kernel
theorem dX11_who_42 : decode cX11_who 42 = .ok (.iload_n 3, 1) := by decide +kernel
theorem dX11_who_43 : decode cX11_who 43 = .ok (.iconst (-1), 1) := by decide +kernel
theorem dX11_who_44 : decode cX11_who 44 = .ok (.if_icmp .ne 11, 3) := by decide +kernel
theorem dX11_who_47 : decode cX11_who 47 = .ok (.aload_n 0, 1) := by decide +kernel
theorem dX11_who_48 : decode cX11_who 48 = .ok (.getfield 84, 3) := by decide +kernel
theorem dX11_who_51 : decode cX11_who 51 = .ok (.getfield 300, 3) := by decide +kernel
theorem dX11_who_54 : decode cX11_who 54 = .ok (.ireturn, 1) := by decide +kernel
theorem dX11_who_55 : decode cX11_who 55 = .ok (.iload_n 3, 1) := by decide +kernel
theorem dX11_who_56 : decode cX11_who 56 = .ok (.ifCond .lt 24, 3) := by decide +kernel
theorem dX11_who_59 : decode cX11_who 59 = .ok (.iload_n 3, 1) := by decide +kernel
theorem dX11_who_60 : decode cX11_who 60 = .ok (.aload_n 0, 1) := by decide +kernel
theorem dX11_who_61 : decode cX11_who 61 = .ok (.getfield 84, 3) := by decide +kernel
theorem dX11_who_64 : decode cX11_who 64 = .ok (.getfield 300, 3) := by decide +kernel
theorem dX11_who_67 : decode cX11_who 67 = .ok (.if_icmp .ge 13, 3) := by decide +kernel
theorem dX11_who_70 : decode cX11_who 70 = .ok (.aload_n 0, 1) := by decide +kernel
theorem dX11_who_71 : decode cX11_who 71 = .ok (.getfield 84, 3) := by decide +kernel
theorem dX11_who_74 : decode cX11_who 74 = .ok (.getfield 303, 3) := by decide +kernel
theorem dX11_who_77 : decode cX11_who 77 = .ok (.goto 4, 3) := by decide +kernel
theorem dX11_who_80 : decode cX11_who 80 = .ok (.iconst (-1), 1) := by decide +kernel
theorem dX11_who_81 : decode cX11_who 81 = .ok (.ireturn, 1) := by decide +kernel
theorem dX11_odds_0 : decode cX11_odds 0 = .ok (.aload_n 0, 1) := by decide +kernel
theorem dX11_odds_1 : decode cX11_odds 1 = .ok (.getfield 64, 3) := by decide +kernel
theorem dX11_odds_4 : decode cX11_odds 4 = .ok (.iload_n 1, 1) := by decide +kernel
theorem dX11_odds_5 : decode cX11_odds 5 = .ok (.invokevirtual 160, 3) := by decide +kernel
theorem dX11_odds_8 : decode cX11_odds 8 = .ok (.ifCond .eq 12, 3) := by decide +kernel
theorem dX11_odds_11 : decode cX11_odds 11 = .ok (.iload_n 2, 1) := by decide +kernel
theorem dX11_odds_12 : decode cX11_odds 12 = .ok (.ifCond .lt 8, 3) := by decide +kernel
theorem dX11_odds_15 : decode cX11_odds 15 = .ok (.iload_n 2, 1) := by decide +kernel
theorem dX11_odds_16 : decode cX11_odds 16 = .ok (.iconst 4, 1) := by decide +kernel
theorem dX11_odds_17 : decode cX11_odds 17 = .ok (.if_icmp .le 5, 3) := by decide +kernel
theorem dX11_odds_20 : decode cX11_odds 20 = .ok (.iconst (-1), 1) := by decide +kernel
theorem dX11_odds_21 : decode cX11_odds 21 = .ok (.ireturn, 1) := by decide +kernel
theorem dX11_odds_22 : decode cX11_odds 22 = .ok (.aload_n 0, 1) := by decide +kernel
theorem dX11_odds_23 : decode cX11_odds 23 = .ok (.getfield 84, 3) := by decide +kernel
theorem dX11_odds_26 : decode cX11_odds 26 = .ok (.iload_n 1, 1) := by decide +kernel
theorem dX11_odds_27 : decode cX11_odds 27 = .ok (.iconst 0, 1) := by decide +kernel
theorem dX11_odds_28 : decode cX11_odds 28 = .ok (.iconst (-1), 1) := by decide +kernel
theorem dX11_odds_29 : decode cX11_odds 29 = .ok (.invokevirtual 293, 3) := by decide +kernel
theorem dX11_odds_32 : decode cX11_odds 32 = .ok (.aload_n 0, 1) := by decide +kernel
theorem dX11_odds_33 : decode cX11_odds 33 = .ok (.getfield 84, 3) := by decide +kernel
theorem dX11_odds_36 : decode cX11_odds 36 = .ok (.iload_n 2, 1) := by decide +kernel
theorem dX11_odds_37 : decode cX11_odds 37 = .ok (.iconst 0, 1) := by decide +kernel
theorem dX11_odds_38 : decode cX11_odds 38 = .ok (.invokevirtual 283, 3) := by decide +kernel
theorem dX11_odds_41 : decode cX11_odds 41 = .ok (.aload_n 0, 1) := by decide +kernel
theorem dX11_odds_42 : decode cX11_odds 42 = .ok (.getfield 84, 3) := by decide +kernel
theorem dX11_odds_45 : decode cX11_odds 45 = .ok (.getfield 306, 3) := by decide +kernel
theorem dX11_odds_48 : decode cX11_odds 48 = .ok (.ireturn, 1) := by decide +kernel
theorem dX11_seen_0 : decode cX11_seen 0 = .ok (.aload_n 0, 1) := by decide +kernel
theorem dX11_seen_1 : decode cX11_seen 1 = .ok (.getfield 64, 3) := by decide +kernel
theorem dX11_seen_4 : decode cX11_seen 4 = .ok (.iload_n 1, 1) := by decide +kernel
theorem dX11_seen_5 : decode cX11_seen 5 = .ok (.invokevirtual 171, 3) := by decide +kernel
theorem dX11_seen_8 : decode cX11_seen 8 = .ok (.ifCond .eq 36, 3) := by decide +kernel
theorem dX11_seen_11 : decode cX11_seen 11 = .ok (.aload_n 0, 1) := by decide +kernel
theorem dX11_seen_12 : decode cX11_seen 12 = .ok (.getfield 64, 3) := by decide +kernel
theorem dX11_seen_15 : decode cX11_seen 15 = .ok (.iload_n 2, 1) := by decide +kernel
theorem dX11_seen_16 : decode cX11_seen 16 = .ok (.invokevirtual 160, 3) := by decide +kernel
theorem dX11_seen_19 : decode cX11_seen 19 = .ok (.ifCond .eq 25, 3) := by decide +kernel
theorem dX11_seen_22 : decode cX11_seen 22 = .ok (.iload 4, 2) := by decide +kernel
theorem dX11_seen_24 : decode cX11_seen 24 = .ok (.iconst (-1), 1) := by decide +kernel
theorem dX11_seen_25 : decode cX11_seen 25 = .ok (.if_icmp .eq 15, 3) := by decide +kernel
theorem dX11_seen_28 : decode cX11_seen 28 = .ok (.aload_n 0, 1) := by decide +kernel
theorem dX11_seen_29 : decode cX11_seen 29 = .ok (.getfield 64, 3) := by decide +kernel
theorem dX11_seen_32 : decode cX11_seen 32 = .ok (.iload 4, 2) := by decide +kernel
theorem dX11_seen_34 : decode cX11_seen 34 = .ok (.invokevirtual 160, 3) := by decide +kernel
theorem dX11_seen_37 : decode cX11_seen 37 = .ok (.ifCond .eq 7, 3) := by decide +kernel
theorem dX11_seen_40 : decode cX11_seen 40 = .ok (.iconst 1, 1) := by decide +kernel
theorem dX11_seen_41 : decode cX11_seen 41 = .ok (.goto 4, 3) := by decide +kernel
theorem dX11_seen_44 : decode cX11_seen 44 = .ok (.iconst 0, 1) := by decide +kernel
theorem dX11_seen_45 : decode cX11_seen 45 = .ok (.istore 5, 2) := by decide +kernel
theorem dX11_seen_47 : decode cX11_seen 47 = .ok (.iload 5, 2) := by decide +kernel
theorem dX11_seen_49 : decode cX11_seen 49 = .ok (.ifCond .eq 25, 3) := by decide +kernel
theorem dX11_seen_52 : decode cX11_seen 52 = .ok (.iload_n 3, 1) := by decide +kernel
theorem dX11_seen_53 : decode cX11_seen 53 = .ok (.ifCond .lt 21, 3) := by decide +kernel
theorem dX11_seen_56 : decode cX11_seen 56 = .ok (.iload_n 3, 1) := by decide +kernel
theorem dX11_seen_57 : decode cX11_seen 57 = .ok (.bipush 99, 2) := by decide +kernel
theorem dX11_seen_59 : decode cX11_seen 59 = .ok (.if_icmp .gt 15, 3) := by decide +kernel
theorem dX11_seen_62 : decode cX11_seen 62 = .ok (.aload_n 0, 1) := by decide +kernel
theorem dX11_seen_63 : decode cX11_seen 63 = .ok (.getfield 93, 3) := by decide +kernel
theorem dX11_seen_66 : decode cX11_seen 66 = .ok (.getfield 136, 3) := by decide +kernel
theorem dX11_seen_69 : decode cX11_seen 69 = .ok (.bipush 10, 2) := by decide +kernel
theorem dX11_seen_71 : decode cX11_seen 71 = .ok (.if_icmp .lt 5, 3) := by decide +kernel
theorem dX11_seen_74 : decode cX11_seen 74 = .ok (.iconst (-1), 1) := by decide +kernel
theorem dX11_seen_75 : decode cX11_seen 75 = .ok (.ireturn, 1) := by decide +kernel
theorem dX11_seen_76 : decode cX11_seen 76 = .ok (.aload_n 0, 1) := by decide +kernel
theorem dX11_seen_77 : decode cX11_seen 77 = .ok (.getfield 93, 3) := by decide +kernel
theorem dX11_seen_80 : decode cX11_seen 80 = .ok (.iload_n 1, 1) := by decide +kernel
theorem dX11_seen_81 : decode cX11_seen 81 = .ok (.iload_n 2, 1) := by decide +kernel
theorem dX11_seen_82 : decode cX11_seen 82 = .ok (.iload_n 3, 1) := by decide +kernel
theorem dX11_seen_83 : decode cX11_seen 83 = .ok (.iload 4, 2) := by decide +kernel
theorem dX11_seen_85 : decode cX11_seen 85 = .ok (.invokevirtual 309, 3) := by decide +kernel
theorem dX11_seen_88 : decode cX11_seen 88 = .ok (.aload_n 0, 1) := by decide +kernel
theorem dX11_seen_89 : decode cX11_seen 89 = .ok (.getfield 93, 3) := by decide +kernel
theorem dX11_seen_92 : decode cX11_seen 92 = .ok (.getfield 136, 3) := by decide +kernel
theorem dX11_seen_95 : decode cX11_seen 95 = .ok (.ireturn, 1) := by decide +kernel
theorem dX11_fits_0 : decode cX11_fits 0 = .ok (.aload_n 0, 1) := by decide +kernel
theorem dX11_fits_1 : decode cX11_fits 1 = .ok (.getfield 64, 3) := by decide +kernel
theorem dX11_fits_4 : decode cX11_fits 4 = .ok (.iload_n 1, 1) := by decide +kernel
theorem dX11_fits_5 : decode cX11_fits 5 = .ok (.invokevirtual 171, 3) := by decide +kernel
theorem dX11_fits_8 : decode cX11_fits 8 = .ok (.ifCond .ne 5, 3) := by decide +kernel
theorem dX11_fits_11 : decode cX11_fits 11 = .ok (.iconst (-1), 1) := by decide +kernel
theorem dX11_fits_12 : decode cX11_fits 12 = .ok (.ireturn, 1) := by decide +kernel
theorem dX11_fits_13 : decode cX11_fits 13 = .ok (.aload_n 0, 1) := by decide +kernel
theorem dX11_fits_14 : decode cX11_fits 14 = .ok (.getfield 93, 3) := by decide +kernel
theorem dX11_fits_17 : decode cX11_fits 17 = .ok (.iload_n 1, 1) := by decide +kernel
theorem dX11_fits_18 : decode cX11_fits 18 = .ok (.invokevirtual 312, 3) := by decide +kernel
theorem dX11_fits_21 : decode cX11_fits 21 = .ok (.istore_n 3, 1) := by decide +kernel
theorem dX11_fits_22 : decode cX11_fits 22 = .ok (.iload_n 2, 1) := by decide +kernel
theorem dX11_fits_23 : decode cX11_fits 23 = .ok (.iconst (-1), 1) := by decide +kernel
theorem dX11_fits_24 : decode cX11_fits 24 = .ok (.if_icmp .ne 5, 3) := by decide +kernel
theorem dX11_fits_27 : decode cX11_fits 27 = .ok (.iload_n 3, 1) := by decide +kernel
theorem dX11_fits_28 : decode cX11_fits 28 = .ok (.ireturn, 1) := by decide +kernel
theorem dX11_fits_29 : decode cX11_fits 29 = .ok (.iload_n 2, 1) := by decide +kernel
theorem dX11_fits_30 : decode cX11_fits 30 = .ok (.ifCond .lt 20, 3) := by decide +kernel
theorem dX11_fits_33 : decode cX11_fits 33 = .ok (.iload_n 2, 1) := by decide +kernel
theorem dX11_fits_34 : decode cX11_fits 34 = .ok (.iload_n 3, 1) := by decide +kernel
theorem dX11_fits_35 : decode cX11_fits 35 = .ok (.if_icmp .ge 15, 3) := by decide +kernel
theorem dX11_fits_38 : decode cX11_fits 38 = .ok (.aload_n 0, 1) := by decide +kernel
theorem dX11_fits_39 : decode cX11_fits 39 = .ok (.getfield 93, 3) := by decide +kernel
theorem dX11_fits_42 : decode cX11_fits 42 = .ok (.getfield 315, 3) := by decide +kernel
theorem dX11_fits_45 : decode cX11_fits 45 = .ok (.iload_n 2, 1) := by decide +kernel
theorem dX11_fits_46 : decode cX11_fits 46 = .ok (.iaload, 1) := by decide +kernel
theorem dX11_fits_47 : decode cX11_fits 47 = .ok (.goto 4, 3) := by decide +kernel
theorem dX11_fits_50 : decode cX11_fits 50 = .ok (.iconst (-1), 1) := by decide +kernel
theorem dX11_fits_51 : decode cX11_fits 51 = .ok (.ireturn, 1) := by decide +kernel
theorem dX11_serve_0 : decode cX11_serve 0 = .ok (.aload_n 0, 1) := by decide +kernel
theorem dX11_serve_1 : decode cX11_serve 1 = .ok (.getfield 64, 3) := by decide +kernel
theorem dX11_serve_4 : decode cX11_serve 4 = .ok (.iload_n 1, 1) := by decide +kernel
theorem dX11_serve_5 : decode cX11_serve 5 = .ok (.invokevirtual 171, 3) := by decide +kernel
theorem dX11_serve_8 : decode cX11_serve 8 = .ok (.ifCond .eq 13, 3) := by decide +kernel
theorem dX11_serve_11 : decode cX11_serve 11 = .ok (.iload_n 2, 1) := by decide +kernel
theorem dX11_serve_12 : decode cX11_serve 12 = .ok (.ifCond .lt 9, 3) := by decide +kernel
theorem dX11_serve_15 : decode cX11_serve 15 = .ok (.iload_n 2, 1) := by decide +kernel
theorem dX11_serve_16 : decode cX11_serve 16 = .ok (.bipush 99, 2) := by decide +kernel
theorem dX11_serve_18 : decode cX11_serve 18 = .ok (.if_icmp .le 5, 3) := by decide +kernel
theorem dX11_serve_21 : decode cX11_serve 21 = .ok (.iconst (-1), 1) := by decide +kernel
theorem dX11_serve_22 : decode cX11_serve 22 = .ok (.ireturn, 1) := by decide +kernel
theorem dX11_serve_23 : decode cX11_serve 23 = .ok (.aload_n 0, 1) := by decide +kernel
theorem dX11_serve_24 : decode cX11_serve 24 = .ok (.getfield 93, 3) := by decide +kernel
theorem dX11_serve_27 : decode cX11_serve 27 = .ok (.aload_n 0, 1) := by decide +kernel
theorem dX11_serve_28 : decode cX11_serve 28 = .ok (.getfield 93, 3) := by decide +kernel
theorem dX11_serve_31 : decode cX11_serve 31 = .ok (.iload_n 1, 1) := by decide +kernel
theorem dX11_serve_32 : decode cX11_serve 32 = .ok (.invokevirtual 312, 3) := by decide +kernel
theorem dX11_serve_35 : decode cX11_serve 35 = .ok (.iload_n 2, 1) := by decide +kernel
theorem dX11_serve_36 : decode cX11_serve 36 = .ok (.invokevirtual 318, 3) := by decide +kernel
theorem dX11_serve_39 : decode cX11_serve 39 = .ok (.ireturn, 1) := by decide +kernel
theorem dX11_game_0 : decode cX11_game 0 = .ok (.aload_n 0, 1) := by decide +kernel
theorem dX11_game_1 : decode cX11_game 1 = .ok (.getfield 64, 3) := by decide +kernel
theorem dX11_game_4 : decode cX11_game 4 = .ok (.iload_n 1, 1) := by decide +kernel
theorem dX11_game_5 : decode cX11_game 5 = .ok (.invokevirtual 171, 3) := by decide +kernel
theorem dX11_game_8 : decode cX11_game 8 = .ok (.ifCond .eq 23, 3) := by decide +kernel
theorem dX11_game_11 : decode cX11_game 11 = .ok (.aload_n 0, 1) := by decide +kernel
theorem dX11_game_12 : decode cX11_game 12 = .ok (.getfield 64, 3) := by decide +kernel
theorem dX11_game_15 : decode cX11_game 15 = .ok (.iload_n 2, 1) := by decide +kernel
theorem dX11_game_16 : decode cX11_game 16 = .ok (.invokevirtual 171, 3) := by decide +kernel
theorem dX11_game_19 : decode cX11_game 19 = .ok (.ifCond .eq 12, 3) := by decide +kernel
theorem dX11_game_22 : decode cX11_game 22 = .ok (.iload_n 1, 1) := by decide +kernel
theorem dX11_game_23 : decode cX11_game 23 = .ok (.iload_n 2, 1) := by decide +kernel
theorem dX11_game_24 : decode cX11_game 24 = .ok (.if_icmp .eq 7, 3) := by decide +kernel
theorem dX11_game_27 : decode cX11_game 27 = .ok (.iconst 1, 1) := by decide +kernel
theorem dX11_game_28 : decode cX11_game 28 = .ok (.goto 4, 3) := by decide +kernel
theorem dX11_game_31 : decode cX11_game 31 = .ok (.iconst 0, 1) := by decide +kernel
theorem dX11_game_32 : decode cX11_game 32 = .ok (.istore 6, 2) := by decide +kernel
theorem dX11_game_34 : decode cX11_game 34 = .ok (.iload 6, 2) := by decide +kernel
theorem dX11_game_36 : decode cX11_game 36 = .ok (.ifCond .eq 37, 3) := by decide +kernel
theorem dX11_game_39 : decode cX11_game 39 = .ok (.aload_n 0, 1) := by decide +kernel
theorem dX11_game_40 : decode cX11_game 40 = .ok (.getfield 64, 3) := by decide +kernel
theorem dX11_game_43 : decode cX11_game 43 = .ok (.iload_n 3, 1) := by decide +kernel
theorem dX11_game_44 : decode cX11_game 44 = .ok (.invokevirtual 160, 3) := by decide +kernel
theorem dX11_game_47 : decode cX11_game 47 = .ok (.ifCond .eq 26, 3) := by decide +kernel
theorem dX11_game_50 : decode cX11_game 50 = .ok (.aload_n 0, 1) := by decide +kernel
theorem dX11_game_51 : decode cX11_game 51 = .ok (.getfield 64, 3) := by decide +kernel
theorem dX11_game_54 : decode cX11_game 54 = .ok (.iload 4, 2) := by decide +kernel
theorem dX11_game_56 : decode cX11_game 56 = .ok (.invokevirtual 160, 3) := by decide +kernel
theorem dX11_game_59 : decode cX11_game 59 = .ok (.ifCond .eq 14, 3) := by decide +kernel
theorem dX11_game_62 : decode cX11_game 62 = .ok (.iload 5, 2) := by decide +kernel
theorem dX11_game_64 : decode cX11_game 64 = .ok (.ifCond .lt 9, 3) := by decide +kernel
theorem dX11_game_67 : decode cX11_game 67 = .ok (.iload 5, 2) := by decide +kernel
theorem dX11_game_69 : decode cX11_game 69 = .ok (.iconst 1, 1) := by decide +kernel
theorem dX11_game_70 : decode cX11_game 70 = .ok (.if_icmp .le 7, 3) := by decide +kernel
theorem dX11_game_73 : decode cX11_game 73 = .ok (.ldc_w 264, 3) := by decide +kernel
theorem dX11_game_76 : decode cX11_game 76 = .ok (.ireturn, 1) := by decide +kernel
theorem dX11_game_77 : decode cX11_game 77 = .ok (.iload 5, 2) := by decide +kernel
theorem dX11_game_79 : decode cX11_game 79 = .ok (.ifCond .ne 17, 3) := by decide +kernel
theorem dX11_game_82 : decode cX11_game 82 = .ok (.aload_n 0, 1) := by decide +kernel
theorem dX11_game_83 : decode cX11_game 83 = .ok (.getfield 72, 3) := by decide +kernel
theorem dX11_game_86 : decode cX11_game 86 = .ok (.iload_n 1, 1) := by decide +kernel
theorem dX11_game_87 : decode cX11_game 87 = .ok (.iload 4, 2) := by decide +kernel
theorem dX11_game_89 : decode cX11_game 89 = .ok (.iload_n 3, 1) := by decide +kernel
theorem dX11_game_90 : decode cX11_game 90 = .ok (.invokevirtual 321, 3) := by decide +kernel
theorem dX11_game_93 : decode cX11_game 93 = .ok (.goto 14, 3) := by decide +kernel
theorem dX11_game_96 : decode cX11_game 96 = .ok (.aload_n 0, 1) := by decide +kernel
theorem dX11_game_97 : decode cX11_game 97 = .ok (.getfield 72, 3) := by decide +kernel
theorem dX11_game_100 : decode cX11_game 100 = .ok (.iload_n 2, 1) := by decide +kernel
theorem dX11_game_101 : decode cX11_game 101 = .ok (.iload_n 3, 1) := by decide +kernel
theorem dX11_game_102 : decode cX11_game 102 = .ok (.iload 4, 2) := by decide +kernel
theorem dX11_game_104 : decode cX11_game 104 = .ok (.invokevirtual 321, 3) := by decide +kernel
theorem dX11_game_107 : decode cX11_game 107 = .ok (.ireturn, 1) := by decide +kernel
theorem dX11_rests_0 : decode cX11_rests 0 = .ok (.aload_n 0, 1) := by decide +kernel
theorem dX11_rests_1 : decode cX11_rests 1 = .ok (.getfield 64, 3) := by decide +kernel
theorem dX11_rests_4 : decode cX11_rests 4 = .ok (.iload_n 1, 1) := by decide +kernel
theorem dX11_rests_5 : decode cX11_rests 5 = .ok (.invokevirtual 171, 3) := by decide +kernel
theorem dX11_rests_8 : decode cX11_rests 8 = .ok (.ifCond .eq 19, 3) := by decide +kernel
theorem dX11_rests_11 : decode cX11_rests 11 = .ok (.aload_n 0, 1) := by decide +kernel
theorem dX11_rests_12 : decode cX11_rests 12 = .ok (.getfield 64, 3) := by decide +kernel
theorem dX11_rests_15 : decode cX11_rests 15 = .ok (.iload_n 2, 1) := by decide +kernel
theorem dX11_rests_16 : decode cX11_rests 16 = .ok (.invokevirtual 171, 3) := by decide +kernel
theorem dX11_rests_19 : decode cX11_rests 19 = .ok (.ifCond .eq 8, 3) := by decide +kernel
theorem dX11_rests_22 : decode cX11_rests 22 = .ok (.iload_n 1, 1) := by decide +kernel
theorem dX11_rests_23 : decode cX11_rests 23 = .ok (.iload_n 2, 1) := by decide +kernel
theorem dX11_rests_24 : decode cX11_rests 24 = .ok (.if_icmp .ne 5, 3) := by decide +kernel
theorem dX11_rests_27 : decode cX11_rests 27 = .ok (.iconst (-1), 1) := by decide +kernel
theorem dX11_rests_28 : decode cX11_rests 28 = .ok (.ireturn, 1) := by decide +kernel
theorem dX11_rests_29 : decode cX11_rests 29 = .ok (.iconst 0, 1) := by decide +kernel
theorem dX11_rests_30 : decode cX11_rests 30 = .ok (.istore 4, 2) := by decide +kernel
theorem dX11_rests_32 : decode cX11_rests 32 = .ok (.iconst 0, 1) := by decide +kernel
theorem dX11_rests_33 : decode cX11_rests 33 = .ok (.istore 5, 2) := by decide +kernel
theorem dX11_rests_35 : decode cX11_rests 35 = .ok (.iload 5, 2) := by decide +kernel
theorem dX11_rests_37 : decode cX11_rests 37 = .ok (.aload_n 0, 1) := by decide +kernel
theorem dX11_rests_38 : decode cX11_rests 38 = .ok (.getfield 64, 3) := by decide +kernel
theorem dX11_rests_41 : decode cX11_rests 41 = .ok (.getfield 325, 3) := by decide +kernel
theorem dX11_rests_44 : decode cX11_rests 44 = .ok (.if_icmp .ge 78, 3) := by decide +kernel
theorem dX11_rests_47 : decode cX11_rests 47 = .ok (.iconst 0, 1) := by decide +kernel
theorem dX11_rests_48 : decode cX11_rests 48 = .ok (.istore 6, 2) := by decide +kernel
theorem dX11_rests_50 : decode cX11_rests 50 = .ok (.iload 6, 2) := by decide +kernel
theorem dX11_rests_52 : decode cX11_rests 52 = .ok (.aload_n 0, 1) := by decide +kernel
theorem dX11_rests_53 : decode cX11_rests 53 = .ok (.getfield 64, 3) := by decide +kernel
theorem dX11_rests_56 : decode cX11_rests 56 = .ok (.getfield 325, 3) := by decide +kernel
theorem dX11_rests_59 : decode cX11_rests 59 = .ok (.if_icmp .ge 57, 3) := by decide +kernel
theorem dX11_rests_62 : decode cX11_rests 62 = .ok (.aload_n 0, 1) := by decide +kernel
theorem dX11_rests_63 : decode cX11_rests 63 = .ok (.getfield 72, 3) := by decide +kernel
theorem dX11_rests_66 : decode cX11_rests 66 = .ok (.iload_n 1, 1) := by decide +kernel
theorem dX11_rests_67 : decode cX11_rests 67 = .ok (.iload 6, 2) := by decide +kernel
theorem dX11_rests_69 : decode cX11_rests 69 = .ok (.iload 5, 2) := by decide +kernel
theorem dX11_rests_71 : decode cX11_rests 71 = .ok (.invokevirtual 328, 3) := by decide +kernel
theorem dX11_rests_74 : decode cX11_rests 74 = .ok (.ifCond .eq 36, 3) := by decide +kernel
theorem dX11_rests_77 : decode cX11_rests 77 = .ok (.aload_n 0, 1) := by decide +kernel
theorem dX11_rests_78 : decode cX11_rests 78 = .ok (.getfield 72, 3) := by decide +kernel
theorem dX11_rests_81 : decode cX11_rests 81 = .ok (.iload_n 2, 1) := by decide +kernel
theorem dX11_rests_82 : decode cX11_rests 82 = .ok (.iload 5, 2) := by decide +kernel
theorem dX11_rests_84 : decode cX11_rests 84 = .ok (.iload 6, 2) := by decide +kernel
theorem dX11_rests_86 : decode cX11_rests 86 = .ok (.invokevirtual 328, 3) := by decide +kernel
theorem dX11_rests_89 : decode cX11_rests 89 = .ok (.ifCond .eq 21, 3) := by decide +kernel
theorem dX11_rests_92 : decode cX11_rests 92 = .ok (.iload 4, 2) := by decide +kernel
theorem dX11_rests_94 : decode cX11_rests 94 = .ok (.iload_n 3, 1) := by decide +kernel
theorem dX11_rests_95 : decode cX11_rests 95 = .ok (.if_icmp .ne 12, 3) := by decide +kernel
theorem dX11_rests_98 : decode cX11_rests 98 = .ok (.bipush 10, 2) := by decide +kernel
theorem dX11_rests_100 : decode cX11_rests 100 = .ok (.iload 5, 2) := by decide +kernel
theorem dX11_rests_102 : decode cX11_rests 102 = .ok (.imul, 1) := by decide +kernel
theorem dX11_rests_103 : decode cX11_rests 103 = .ok (.iload 6, 2) := by decide +kernel
theorem dX11_rests_105 : decode cX11_rests 105 = .ok (.iadd, 1) := by decide +kernel
theorem dX11_rests_106 : decode cX11_rests 106 = .ok (.ireturn, 1) := by decide +kernel
theorem dX11_rests_107 : decode cX11_rests 107 = .ok (.iinc 4 1, 3) := by decide +kernel
theorem dX11_rests_110 : decode cX11_rests 110 = .ok (.iinc 6 1, 3) := by decide +kernel
theorem dX11_rests_113 : decode cX11_rests 113 = .ok (.goto (-63), 3) := by decide +kernel
theorem dX11_rests_116 : decode cX11_rests 116 = .ok (.iinc 5 1, 3) := by decide +kernel
theorem dX11_rests_119 : decode cX11_rests 119 = .ok (.goto (-84), 3) := by decide +kernel
theorem dX11_rests_122 : decode cX11_rests 122 = .ok (.iload_n 3, 1) := by decide +kernel
theorem dX11_rests_123 : decode cX11_rests 123 = .ok (.iconst (-1), 1) := by decide +kernel
theorem dX11_rests_124 : decode cX11_rests 124 = .ok (.if_icmp .ne 8, 3) := by decide +kernel
theorem dX11_rests_127 : decode cX11_rests 127 = .ok (.iload 4, 2) := by decide +kernel
theorem dX11_rests_129 : decode cX11_rests 129 = .ok (.goto 4, 3) := by decide +kernel
theorem dX11_rests_132 : decode cX11_rests 132 = .ok (.iconst (-1), 1) := by decide +kernel
theorem dX11_rests_133 : decode cX11_rests 133 = .ok (.ireturn, 1) := by decide +kernel
theorem dX11_dealt_0 : decode cX11_dealt 0 = .ok (.aload_n 0, 1) := by decide +kernel
theorem dX11_dealt_1 : decode cX11_dealt 1 = .ok (.getfield 64, 3) := by decide +kernel
theorem dX11_dealt_4 : decode cX11_dealt 4 = .ok (.invokevirtual 147, 3) := by decide +kernel
theorem dX11_dealt_7 : decode cX11_dealt 7 = .ok (.ifCond .eq 29, 3) := by decide +kernel
theorem dX11_dealt_10 : decode cX11_dealt 10 = .ok (.aload_n 0, 1) := by decide +kernel
theorem dX11_dealt_11 : decode cX11_dealt 11 = .ok (.getfield 64, 3) := by decide +kernel
theorem dX11_dealt_14 : decode cX11_dealt 14 = .ok (.getfield 325, 3) := by decide +kernel
theorem dX11_dealt_17 : decode cX11_dealt 17 = .ok (.aload_n 0, 1) := by decide +kernel
theorem dX11_dealt_18 : decode cX11_dealt 18 = .ok (.getfield 64, 3) := by decide +kernel
theorem dX11_dealt_21 : decode cX11_dealt 21 = .ok (.getfield 137, 3) := by decide +kernel
theorem dX11_dealt_24 : decode cX11_dealt 24 = .ok (.if_icmp .lt 12, 3) := by decide +kernel
theorem dX11_dealt_27 : decode cX11_dealt 27 = .ok (.iload_n 1, 1) := by decide +kernel
theorem dX11_dealt_28 : decode cX11_dealt 28 = .ok (.ifCond .lt 8, 3) := by decide +kernel
theorem dX11_dealt_31 : decode cX11_dealt 31 = .ok (.iload_n 1, 1) := by decide +kernel
theorem dX11_dealt_32 : decode cX11_dealt 32 = .ok (.iconst 1, 1) := by decide +kernel
theorem dX11_dealt_33 : decode cX11_dealt 33 = .ok (.if_icmp .le 5, 3) := by decide +kernel
theorem dX11_dealt_36 : decode cX11_dealt 36 = .ok (.iconst (-1), 1) := by decide +kernel
theorem dX11_dealt_37 : decode cX11_dealt 37 = .ok (.ireturn, 1) := by decide +kernel
theorem dX11_dealt_38 : decode cX11_dealt 38 = .ok (.aload_n 0, 1) := by decide +kernel
theorem dX11_dealt_39 : decode cX11_dealt 39 = .ok (.getfield 84, 3) := by decide +kernel
theorem dX11_dealt_42 : decode cX11_dealt 42 = .ok (.invokevirtual 332, 3) := by decide +kernel
theorem dX11_dealt_45 : decode cX11_dealt 45 = .ok (.iload_n 1, 1) := by decide +kernel
theorem dX11_dealt_46 : decode cX11_dealt 46 = .ok (.ifCond .ne 13, 3) := by decide +kernel
theorem dX11_dealt_49 : decode cX11_dealt 49 = .ok (.aload_n 0, 1) := by decide +kernel
theorem dX11_dealt_50 : decode cX11_dealt 50 = .ok (.getfield 84, 3) := by decide +kernel
theorem dX11_dealt_53 : decode cX11_dealt 53 = .ok (.getfield 287, 3) := by decide +kernel
theorem dX11_dealt_56 : decode cX11_dealt 56 = .ok (.goto 10, 3) := by decide +kernel
theorem dX11_dealt_59 : decode cX11_dealt 59 = .ok (.aload_n 0, 1) := by decide +kernel
theorem dX11_dealt_60 : decode cX11_dealt 60 = .ok (.getfield 84, 3) := by decide +kernel
theorem dX11_dealt_63 : decode cX11_dealt 63 = .ok (.getfield 290, 3) := by decide +kernel
theorem dX11_dealt_66 : decode cX11_dealt 66 = .ok (.ireturn, 1) := by decide +kernel
theorem dX11_makes_0 : decode cX11_makes 0 = .ok (.aload_n 0, 1) := by decide +kernel
theorem dX11_makes_1 : decode cX11_makes 1 = .ok (.getfield 64, 3) := by decide +kernel
theorem dX11_makes_4 : decode cX11_makes 4 = .ok (.iload_n 1, 1) := by decide +kernel
theorem dX11_makes_5 : decode cX11_makes 5 = .ok (.invokevirtual 171, 3) := by decide +kernel
theorem dX11_makes_8 : decode cX11_makes 8 = .ok (.ifCond .eq 14, 3) := by decide +kernel
theorem dX11_makes_11 : decode cX11_makes 11 = .ok (.aload_n 0, 1) := by decide +kernel
theorem dX11_makes_12 : decode cX11_makes 12 = .ok (.getfield 64, 3) := by decide +kernel
theorem dX11_makes_15 : decode cX11_makes 15 = .ok (.iload_n 2, 1) := by decide +kernel
theorem dX11_makes_16 : decode cX11_makes 16 = .ok (.invokevirtual 160, 3) := by decide +kernel
theorem dX11_makes_19 : decode cX11_makes 19 = .ok (.ifCond .ne 7, 3) := by decide +kernel
theorem dX11_makes_22 : decode cX11_makes 22 = .ok (.ldc_w 264, 3) := by decide +kernel
theorem dX11_makes_25 : decode cX11_makes 25 = .ok (.ireturn, 1) := by decide +kernel
theorem dX11_makes_26 : decode cX11_makes 26 = .ok (.aload_n 0, 1) := by decide +kernel
theorem dX11_makes_27 : decode cX11_makes 27 = .ok (.getfield 72, 3) := by decide +kernel
theorem dX11_makes_30 : decode cX11_makes 30 = .ok (.iload_n 1, 1) := by decide +kernel
theorem dX11_makes_31 : decode cX11_makes 31 = .ok (.iload_n 2, 1) := by decide +kernel
theorem dX11_makes_32 : decode cX11_makes 32 = .ok (.invokevirtual 335, 3) := by decide +kernel
theorem dX11_makes_35 : decode cX11_makes 35 = .ok (.ireturn, 1) := by decide +kernel
theorem dX11_glad_0 : decode cX11_glad 0 = .ok (.aload_n 0, 1) := by decide +kernel
theorem dX11_glad_1 : decode cX11_glad 1 = .ok (.getfield 64, 3) := by decide +kernel
theorem dX11_glad_4 : decode cX11_glad 4 = .ok (.iload_n 1, 1) := by decide +kernel
theorem dX11_glad_5 : decode cX11_glad 5 = .ok (.invokevirtual 171, 3) := by decide +kernel
theorem dX11_glad_8 : decode cX11_glad 8 = .ok (.ifCond .eq 14, 3) := by decide +kernel
theorem dX11_glad_11 : decode cX11_glad 11 = .ok (.aload_n 0, 1) := by decide +kernel
theorem dX11_glad_12 : decode cX11_glad 12 = .ok (.getfield 72, 3) := by decide +kernel
theorem dX11_glad_15 : decode cX11_glad 15 = .ok (.iload_n 1, 1) := by decide +kernel
theorem dX11_glad_16 : decode cX11_glad 16 = .ok (.invokevirtual 244, 3) := by decide +kernel
theorem dX11_glad_19 : decode cX11_glad 19 = .ok (.goto 4, 3) := by decide +kernel
theorem dX11_glad_22 : decode cX11_glad 22 = .ok (.iconst (-1), 1) := by decide +kernel
theorem dX11_glad_23 : decode cX11_glad 23 = .ok (.ireturn, 1) := by decide +kernel
theorem dX11_all_0 : decode cX11_all 0 = .ok (.aload_n 0, 1) := by decide +kernel
theorem dX11_all_1 : decode cX11_all 1 = .ok (.getfield 64, 3) := by decide +kernel
theorem dX11_all_4 : decode cX11_all 4 = .ok (.invokevirtual 147, 3) := by decide +kernel
theorem dX11_all_7 : decode cX11_all 7 = .ok (.ifCond .ne 5, 3) := by decide +kernel
theorem dX11_all_10 : decode cX11_all 10 = .ok (.iconst (-1), 1) := by decide +kernel
theorem dX11_all_11 : decode cX11_all 11 = .ok (.ireturn, 1) := by decide +kernel
theorem dX11_all_12 : decode cX11_all 12 = .ok (.iload_n 1, 1) := by decide +kernel
theorem dX11_all_13 : decode cX11_all 13 = .ok (.tableswitch 130 0 7 #[47, 55, 63, 71, 79, 98, 114, 122], 47) := by decide +kernel
theorem dX11_all_60 : decode cX11_all 60 = .ok (.aload_n 0, 1) := by decide +kernel
theorem dX11_all_61 : decode cX11_all 61 = .ok (.getfield 72, 3) := by decide +kernel
theorem dX11_all_64 : decode cX11_all 64 = .ok (.invokevirtual 338, 3) := by decide +kernel
theorem dX11_all_67 : decode cX11_all 67 = .ok (.ireturn, 1) := by decide +kernel
theorem dX11_all_68 : decode cX11_all 68 = .ok (.aload_n 0, 1) := by decide +kernel
theorem dX11_all_69 : decode cX11_all 69 = .ok (.getfield 72, 3) := by decide +kernel
theorem dX11_all_72 : decode cX11_all 72 = .ok (.invokevirtual 341, 3) := by decide +kernel
theorem dX11_all_75 : decode cX11_all 75 = .ok (.ireturn, 1) := by decide +kernel
theorem dX11_all_76 : decode cX11_all 76 = .ok (.aload_n 0, 1) := by decide +kernel
theorem dX11_all_77 : decode cX11_all 77 = .ok (.getfield 72, 3) := by decide +kernel
theorem dX11_all_80 : decode cX11_all 80 = .ok (.invokevirtual 344, 3) := by decide +kernel
theorem dX11_all_83 : decode cX11_all 83 = .ok (.ireturn, 1) := by decide +kernel
theorem dX11_all_84 : decode cX11_all 84 = .ok (.aload_n 0, 1) := by decide +kernel
theorem dX11_all_85 : decode cX11_all 85 = .ok (.getfield 64, 3) := by decide +kernel
theorem dX11_all_88 : decode cX11_all 88 = .ok (.invokevirtual 347, 3) := by decide +kernel
theorem dX11_all_91 : decode cX11_all 91 = .ok (.ireturn, 1) := by decide +kernel
theorem dX11_all_92 : decode cX11_all 92 = .ok (.aload_n 0, 1) := by decide +kernel
theorem dX11_all_93 : decode cX11_all 93 = .ok (.getfield 45, 3) := by decide +kernel
theorem dX11_all_96 : decode cX11_all 96 = .ok (.aload_n 0, 1) := by decide +kernel
theorem dX11_all_97 : decode cX11_all 97 = .ok (.getfield 72, 3) := by decide +kernel
theorem dX11_all_100 : decode cX11_all 100 = .ok (.invokevirtual 220, 3) := by decide +kernel
theorem dX11_all_103 : decode cX11_all 103 = .ok (.aload_n 0, 1) := by decide +kernel
theorem dX11_all_104 : decode cX11_all 104 = .ok (.getfield 64, 3) := by decide +kernel
theorem dX11_all_107 : decode cX11_all 107 = .ok (.invokevirtual 350, 3) := by decide +kernel
theorem dX11_all_110 : decode cX11_all 110 = .ok (.ireturn, 1) := by decide +kernel
theorem dX11_all_111 : decode cX11_all 111 = .ok (.aload_n 0, 1) := by decide +kernel
theorem dX11_all_112 : decode cX11_all 112 = .ok (.getfield 45, 3) := by decide +kernel
theorem dX11_all_115 : decode cX11_all 115 = .ok (.aload_n 0, 1) := by decide +kernel
theorem dX11_all_116 : decode cX11_all 116 = .ok (.getfield 72, 3) := by decide +kernel
theorem dX11_all_119 : decode cX11_all 119 = .ok (.invokevirtual 220, 3) := by decide +kernel
theorem dX11_all_122 : decode cX11_all 122 = .ok (.iconst (-1), 1) := by decide +kernel
theorem dX11_all_123 : decode cX11_all 123 = .ok (.invokevirtual 354, 3) := by decide +kernel
theorem dX11_all_126 : decode cX11_all 126 = .ok (.ireturn, 1) := by decide +kernel
theorem dX11_all_127 : decode cX11_all 127 = .ok (.aload_n 0, 1) := by decide +kernel
theorem dX11_all_128 : decode cX11_all 128 = .ok (.getfield 72, 3) := by decide +kernel
theorem dX11_all_131 : decode cX11_all 131 = .ok (.invokevirtual 357, 3) := by decide +kernel
theorem dX11_all_134 : decode cX11_all 134 = .ok (.ireturn, 1) := by decide +kernel
theorem dX11_all_135 : decode cX11_all 135 = .ok (.aload_n 0, 1) := by decide +kernel
theorem dX11_all_136 : decode cX11_all 136 = .ok (.getfield 72, 3) := by decide +kernel
theorem dX11_all_139 : decode cX11_all 139 = .ok (.invokevirtual 360, 3) := by decide +kernel
theorem dX11_all_142 : decode cX11_all 142 = .ok (.ireturn, 1) := by decide +kernel
theorem dX11_all_143 : decode cX11_all 143 = .ok (.iconst (-1), 1) := by decide +kernel
theorem dX11_all_144 : decode cX11_all 144 = .ok (.ireturn, 1) := by decide +kernel
theorem dX11_affords_0 : decode cX11_affords 0 = .ok (.aload_n 0, 1) := by decide +kernel
theorem dX11_affords_1 : decode cX11_affords 1 = .ok (.getfield 64, 3) := by decide +kernel
theorem dX11_affords_4 : decode cX11_affords 4 = .ok (.iload_n 1, 1) := by decide +kernel
theorem dX11_affords_5 : decode cX11_affords 5 = .ok (.invokevirtual 171, 3) := by decide +kernel
theorem dX11_affords_8 : decode cX11_affords 8 = .ok (.ifCond .eq 14, 3) := by decide +kernel
theorem dX11_affords_11 : decode cX11_affords 11 = .ok (.aload_n 0, 1) := by decide +kernel
theorem dX11_affords_12 : decode cX11_affords 12 = .ok (.getfield 72, 3) := by decide +kernel
theorem dX11_affords_15 : decode cX11_affords 15 = .ok (.iload_n 1, 1) := by decide +kernel
theorem dX11_affords_16 : decode cX11_affords 16 = .ok (.invokevirtual 363, 3) := by decide +kernel
theorem dX11_affords_19 : decode cX11_affords 19 = .ok (.goto 4, 3) := by decide +kernel
theorem dX11_affords_22 : decode cX11_affords 22 = .ok (.iconst (-1), 1) := by decide +kernel
theorem dX11_affords_23 : decode cX11_affords 23 = .ok (.ireturn, 1) := by decide +kernel
theorem dX11_brought_0 : decode cX11_brought 0 = .ok (.aload_n 0, 1) := by decide +kernel
theorem dX11_brought_1 : decode cX11_brought 1 = .ok (.getfield 64, 3) := by decide +kernel
theorem dX11_brought_4 : decode cX11_brought 4 = .ok (.iload_n 1, 1) := by decide +kernel
theorem dX11_brought_5 : decode cX11_brought 5 = .ok (.invokevirtual 160, 3) := by decide +kernel
theorem dX11_brought_8 : decode cX11_brought 8 = .ok (.ifCond .eq 21, 3) := by decide +kernel
theorem dX11_brought_11 : decode cX11_brought 11 = .ok (.aload_n 0, 1) := by decide +kernel
theorem dX11_brought_12 : decode cX11_brought 12 = .ok (.getfield 45, 3) := by decide +kernel
theorem dX11_brought_15 : decode cX11_brought 15 = .ok (.aload_n 0, 1) := by decide +kernel
theorem dX11_brought_16 : decode cX11_brought 16 = .ok (.getfield 72, 3) := by decide +kernel
theorem dX11_brought_19 : decode cX11_brought 19 = .ok (.invokevirtual 220, 3) := by decide +kernel
theorem dX11_brought_22 : decode cX11_brought 22 = .ok (.iload_n 1, 1) := by decide +kernel
theorem dX11_brought_23 : decode cX11_brought 23 = .ok (.invokevirtual 354, 3) := by decide +kernel
theorem dX11_brought_26 : decode cX11_brought 26 = .ok (.goto 4, 3) := by decide +kernel
theorem dX11_brought_29 : decode cX11_brought 29 = .ok (.iconst (-1), 1) := by decide +kernel
theorem dX11_brought_30 : decode cX11_brought 30 = .ok (.ireturn, 1) := by decide +kernel
theorem dX11_saves_0 : decode cX11_saves 0 = .ok (.aload_n 0, 1) := by decide +kernel
theorem dX11_saves_1 : decode cX11_saves 1 = .ok (.getfield 64, 3) := by decide +kernel
theorem dX11_saves_4 : decode cX11_saves 4 = .ok (.iload_n 1, 1) := by decide +kernel
theorem dX11_saves_5 : decode cX11_saves 5 = .ok (.invokevirtual 171, 3) := by decide +kernel
theorem dX11_saves_8 : decode cX11_saves 8 = .ok (.ifCond .eq 14, 3) := by decide +kernel
theorem dX11_saves_11 : decode cX11_saves 11 = .ok (.aload_n 0, 1) := by decide +kernel
theorem dX11_saves_12 : decode cX11_saves 12 = .ok (.getfield 64, 3) := by decide +kernel
theorem dX11_saves_15 : decode cX11_saves 15 = .ok (.iload_n 2, 1) := by decide +kernel
theorem dX11_saves_16 : decode cX11_saves 16 = .ok (.invokevirtual 160, 3) := by decide +kernel
theorem dX11_saves_19 : decode cX11_saves 19 = .ok (.ifCond .ne 5, 3) := by decide +kernel
theorem dX11_saves_22 : decode cX11_saves 22 = .ok (.iconst (-1), 1) := by decide +kernel
theorem dX11_saves_23 : decode cX11_saves 23 = .ok (.ireturn, 1) := by decide +kernel
theorem dX11_saves_24 : decode cX11_saves 24 = .ok (.iconst 0, 1) := by decide +kernel
theorem dX11_saves_25 : decode cX11_saves 25 = .ok (.istore_n 3, 1) := by decide +kernel
theorem dX11_saves_26 : decode cX11_saves 26 = .ok (.iload_n 3, 1) := by decide +kernel
theorem dX11_saves_27 : decode cX11_saves 27 = .ok (.bipush 99, 2) := by decide +kernel
theorem dX11_saves_29 : decode cX11_saves 29 = .ok (.if_icmp .gt 40, 3) := by decide +kernel
theorem dX11_saves_32 : decode cX11_saves 32 = .ok (.aload_n 0, 1) := by decide +kernel
theorem dX11_saves_33 : decode cX11_saves 33 = .ok (.getfield 72, 3) := by decide +kernel
theorem dX11_saves_36 : decode cX11_saves 36 = .ok (.iload_n 1, 1) := by decide +kernel
theorem dX11_saves_37 : decode cX11_saves 37 = .ok (.invokevirtual 184, 3) := by decide +kernel
theorem dX11_saves_40 : decode cX11_saves 40 = .ok (.iload_n 3, 1) := by decide +kernel
theorem dX11_saves_41 : decode cX11_saves 41 = .ok (.aload_n 0, 1) := by decide +kernel
theorem dX11_saves_42 : decode cX11_saves 42 = .ok (.getfield 64, 3) := by decide +kernel
theorem dX11_saves_45 : decode cX11_saves 45 = .ok (.getfield 154, 3) := by decide +kernel
theorem dX11_saves_48 : decode cX11_saves 48 = .ok (.imul, 1) := by decide +kernel
theorem dX11_saves_49 : decode cX11_saves 49 = .ok (.iadd, 1) := by decide +kernel
theorem dX11_saves_50 : decode cX11_saves 50 = .ok (.aload_n 0, 1) := by decide +kernel
theorem dX11_saves_51 : decode cX11_saves 51 = .ok (.getfield 72, 3) := by decide +kernel
theorem dX11_saves_54 : decode cX11_saves 54 = .ok (.iload_n 2, 1) := by decide +kernel
theorem dX11_saves_55 : decode cX11_saves 55 = .ok (.invokevirtual 168, 3) := by decide +kernel
theorem dX11_saves_58 : decode cX11_saves 58 = .ok (.if_icmp .lt 5, 3) := by decide +kernel
theorem dX11_saves_61 : decode cX11_saves 61 = .ok (.iload_n 3, 1) := by decide +kernel
theorem dX11_saves_62 : decode cX11_saves 62 = .ok (.ireturn, 1) := by decide +kernel
theorem dX11_saves_63 : decode cX11_saves 63 = .ok (.iinc 3 1, 3) := by decide +kernel
theorem dX11_saves_66 : decode cX11_saves 66 = .ok (.goto (-40), 3) := by decide +kernel
theorem dX11_saves_69 : decode cX11_saves 69 = .ok (.iconst (-1), 1) := by decide +kernel
theorem dX11_saves_70 : decode cX11_saves 70 = .ok (.ireturn, 1) := by decide +kernel
theorem dX11_image_0 : decode cX11_image 0 = .ok (.aload_n 0, 1) := by decide +kernel
theorem dX11_image_1 : decode cX11_image 1 = .ok (.getfield 64, 3) := by decide +kernel
theorem dX11_image_4 : decode cX11_image 4 = .ok (.invokevirtual 147, 3) := by decide +kernel
theorem dX11_image_7 : decode cX11_image 7 = .ok (.ifCond .ne 5, 3) := by decide +kernel
theorem dX11_image_10 : decode cX11_image 10 = .ok (.iconst (-1), 1) := by decide +kernel
theorem dX11_image_11 : decode cX11_image 11 = .ok (.ireturn, 1) := by decide +kernel
theorem dX11_image_12 : decode cX11_image 12 = .ok (.aload_n 0, 1) := by decide +kernel
theorem dX11_image_13 : decode cX11_image 13 = .ok (.getfield 45, 3) := by decide +kernel
theorem dX11_image_16 : decode cX11_image 16 = .ok (.aload_n 0, 1) := by decide +kernel
theorem dX11_image_17 : decode cX11_image 17 = .ok (.getfield 72, 3) := by decide +kernel
theorem dX11_image_20 : decode cX11_image 20 = .ok (.getfield 206, 3) := by decide +kernel
theorem dX11_image_23 : decode cX11_image 23 = .ok (.invokevirtual 366, 3) := by decide +kernel
theorem dX11_image_26 : decode cX11_image 26 = .ok (.aload_n 0, 1) := by decide +kernel
theorem dX11_image_27 : decode cX11_image 27 = .ok (.getfield 72, 3) := by decide +kernel
theorem dX11_image_30 : decode cX11_image 30 = .ok (.invokevirtual 220, 3) := by decide +kernel
theorem dX11_image_33 : decode cX11_image 33 = .ok (.ireturn, 1) := by decide +kernel
theorem dX11_back_0 : decode cX11_back 0 = .ok (.aload_n 0, 1) := by decide +kernel
theorem dX11_back_1 : decode cX11_back 1 = .ok (.getfield 45, 3) := by decide +kernel
theorem dX11_back_4 : decode cX11_back 4 = .ok (.aload_n 0, 1) := by decide +kernel
theorem dX11_back_5 : decode cX11_back 5 = .ok (.getfield 72, 3) := by decide +kernel
theorem dX11_back_8 : decode cX11_back 8 = .ok (.getfield 206, 3) := by decide +kernel
theorem dX11_back_11 : decode cX11_back 11 = .ok (.invokevirtual 369, 3) := by decide +kernel
theorem dX11_back_14 : decode cX11_back 14 = .ok (.ifCond .eq 13, 3) := by decide +kernel
theorem dX11_back_17 : decode cX11_back 17 = .ok (.aload_n 0, 1) := by decide +kernel
theorem dX11_back_18 : decode cX11_back 18 = .ok (.getfield 72, 3) := by decide +kernel
theorem dX11_back_21 : decode cX11_back 21 = .ok (.invokevirtual 220, 3) := by decide +kernel
theorem dX11_back_24 : decode cX11_back 24 = .ok (.goto 4, 3) := by decide +kernel
theorem dX11_back_27 : decode cX11_back 27 = .ok (.iconst (-1), 1) := by decide +kernel
theorem dX11_back_28 : decode cX11_back 28 = .ok (.ireturn, 1) := by decide +kernel
theorem dX11_count_0 : decode cX11_count 0 = .ok (.iload_n 1, 1) := by decide +kernel
theorem dX11_count_1 : decode cX11_count 1 = .ok (.tableswitch 180 0 13 #[71, 79, 87, 95, 100, 108, 116, 124, 132, 140, 145, 153, 161, 172], 71) := by decide +kernel
theorem dX11_count_72 : decode cX11_count 72 = .ok (.aload_n 0, 1) := by decide +kernel
theorem dX11_count_73 : decode cX11_count 73 = .ok (.getfield 64, 3) := by decide +kernel
theorem dX11_count_76 : decode cX11_count 76 = .ok (.getfield 137, 3) := by decide +kernel
theorem dX11_count_79 : decode cX11_count 79 = .ok (.ireturn, 1) := by decide +kernel
theorem dX11_count_80 : decode cX11_count 80 = .ok (.aload_n 0, 1) := by decide +kernel
theorem dX11_count_81 : decode cX11_count 81 = .ok (.getfield 64, 3) := by decide +kernel
theorem dX11_count_84 : decode cX11_count 84 = .ok (.getfield 325, 3) := by decide +kernel
theorem dX11_count_87 : decode cX11_count 87 = .ok (.ireturn, 1) := by decide +kernel
theorem dX11_count_88 : decode cX11_count 88 = .ok (.aload_n 0, 1) := by decide +kernel
theorem dX11_count_89 : decode cX11_count 89 = .ok (.getfield 68, 3) := by decide +kernel
theorem dX11_count_92 : decode cX11_count 92 = .ok (.getfield 193, 3) := by decide +kernel
theorem dX11_count_95 : decode cX11_count 95 = .ok (.ireturn, 1) := by decide +kernel
theorem dX11_count_96 : decode cX11_count 96 = .ok (.aload_n 0, 1) := by decide +kernel
theorem dX11_count_97 : decode cX11_count 97 = .ok (.getfield 140, 3) := by decide +kernel
theorem dX11_count_100 : decode cX11_count 100 = .ok (.ireturn, 1) := by decide +kernel
theorem dX11_count_101 : decode cX11_count 101 = .ok (.aload_n 0, 1) := by decide +kernel
theorem dX11_count_102 : decode cX11_count 102 = .ok (.getfield 10, 3) := by decide +kernel
theorem dX11_count_105 : decode cX11_count 105 = .ok (.getfield 101, 3) := by decide +kernel
theorem dX11_count_108 : decode cX11_count 108 = .ok (.ireturn, 1) := by decide +kernel
theorem dX11_count_109 : decode cX11_count 109 = .ok (.aload_n 0, 1) := by decide +kernel
theorem dX11_count_110 : decode cX11_count 110 = .ok (.getfield 68, 3) := by decide +kernel
theorem dX11_count_113 : decode cX11_count 113 = .ok (.getfield 196, 3) := by decide +kernel
theorem dX11_count_116 : decode cX11_count 116 = .ok (.ireturn, 1) := by decide +kernel
theorem dX11_count_117 : decode cX11_count 117 = .ok (.aload_n 0, 1) := by decide +kernel
theorem dX11_count_118 : decode cX11_count 118 = .ok (.getfield 72, 3) := by decide +kernel
theorem dX11_count_121 : decode cX11_count 121 = .ok (.invokevirtual 220, 3) := by decide +kernel
theorem dX11_count_124 : decode cX11_count 124 = .ok (.ireturn, 1) := by decide +kernel
theorem dX11_count_125 : decode cX11_count 125 = .ok (.aload_n 0, 1) := by decide +kernel
theorem dX11_count_126 : decode cX11_count 126 = .ok (.getfield 72, 3) := by decide +kernel
theorem dX11_count_129 : decode cX11_count 129 = .ok (.invokevirtual 203, 3) := by decide +kernel
theorem dX11_count_132 : decode cX11_count 132 = .ok (.ireturn, 1) := by decide +kernel
theorem dX11_count_133 : decode cX11_count 133 = .ok (.aload_n 0, 1) := by decide +kernel
theorem dX11_count_134 : decode cX11_count 134 = .ok (.getfield 72, 3) := by decide +kernel
theorem dX11_count_137 : decode cX11_count 137 = .ok (.invokevirtual 280, 3) := by decide +kernel
theorem dX11_count_140 : decode cX11_count 140 = .ok (.ireturn, 1) := by decide +kernel
theorem dX11_count_141 : decode cX11_count 141 = .ok (.aload_n 0, 1) := by decide +kernel
theorem dX11_count_142 : decode cX11_count 142 = .ok (.getfield 49, 3) := by decide +kernel
theorem dX11_count_145 : decode cX11_count 145 = .ok (.ireturn, 1) := by decide +kernel
theorem dX11_count_146 : decode cX11_count 146 = .ok (.aload_n 0, 1) := by decide +kernel
theorem dX11_count_147 : decode cX11_count 147 = .ok (.getfield 93, 3) := by decide +kernel
theorem dX11_count_150 : decode cX11_count 150 = .ok (.getfield 136, 3) := by decide +kernel
theorem dX11_count_153 : decode cX11_count 153 = .ok (.ireturn, 1) := by decide +kernel
theorem dX11_count_154 : decode cX11_count 154 = .ok (.aload_n 0, 1) := by decide +kernel
theorem dX11_count_155 : decode cX11_count 155 = .ok (.getfield 72, 3) := by decide +kernel
theorem dX11_count_158 : decode cX11_count 158 = .ok (.invokevirtual 372, 3) := by decide +kernel
theorem dX11_count_161 : decode cX11_count 161 = .ok (.ireturn, 1) := by decide +kernel
theorem dX11_count_162 : decode cX11_count 162 = .ok (.aload_n 0, 1) := by decide +kernel
theorem dX11_count_163 : decode cX11_count 163 = .ok (.getfield 72, 3) := by decide +kernel
theorem dX11_count_166 : decode cX11_count 166 = .ok (.invokevirtual 220, 3) := by decide +kernel
theorem dX11_count_169 : decode cX11_count 169 = .ok (.invokestatic 261, 3) := by decide +kernel
theorem dX11_count_172 : decode cX11_count 172 = .ok (.ireturn, 1) := by decide +kernel
theorem dX11_count_173 : decode cX11_count 173 = .ok (.aload_n 0, 1) := by decide +kernel
theorem dX11_count_174 : decode cX11_count 174 = .ok (.getfield 45, 3) := by decide +kernel
theorem dX11_count_177 : decode cX11_count 177 = .ok (.getfield 238, 3) := by decide +kernel
theorem dX11_count_180 : decode cX11_count 180 = .ok (.ireturn, 1) := by decide +kernel
theorem dX11_count_181 : decode cX11_count 181 = .ok (.ldc_w 264, 3) := by decide +kernel
theorem dX11_count_184 : decode cX11_count 184 = .ok (.ireturn, 1) := by decide +kernel
theorem dX12_init_0 : decode cX12_init 0 = .ok (.aload_n 0, 1) := by decide +kernel
theorem dX12_init_1 : decode cX12_init 1 = .ok (.invokespecial 3, 3) := by decide +kernel
theorem dX12_init_4 : decode cX12_init 4 = .ok (.aload_n 0, 1) := by decide +kernel
theorem dX12_init_5 : decode cX12_init 5 = .ok (.sipush 240, 3) := by decide +kernel
theorem dX12_init_8 : decode cX12_init 8 = .ok (.newarray .byte, 2) := by decide +kernel
theorem dX12_init_10 : decode cX12_init 10 = .ok (.putfield 9, 3) := by decide +kernel
theorem dX12_init_13 : decode cX12_init 13 = .ok (.aload_n 0, 1) := by decide +kernel
theorem dX12_init_14 : decode cX12_init 14 = .ok (.sipush 960, 3) := by decide +kernel
theorem dX12_init_17 : decode cX12_init 17 = .ok (.newarray .byte, 2) := by decide +kernel
theorem dX12_init_19 : decode cX12_init 19 = .ok (.putfield 13, 3) := by decide +kernel
theorem dX12_init_22 : decode cX12_init 22 = .ok (.aload_n 0, 1) := by decide +kernel
theorem dX12_init_23 : decode cX12_init 23 = .ok (.iconst 4, 1) := by decide +kernel
theorem dX12_init_24 : decode cX12_init 24 = .ok (.newarray .int, 2) := by decide +kernel
theorem dX12_init_26 : decode cX12_init 26 = .ok (.putfield 16, 3) := by decide +kernel
theorem dX12_init_29 : decode cX12_init 29 = .ok (.aload_n 0, 1) := by decide +kernel
theorem dX12_init_30 : decode cX12_init 30 = .ok (.sipush 128, 3) := by decide +kernel
theorem dX12_init_33 : decode cX12_init 33 = .ok (.newarray .int, 2) := by decide +kernel
theorem dX12_init_35 : decode cX12_init 35 = .ok (.putfield 20, 3) := by decide +kernel
theorem dX12_init_38 : decode cX12_init 38 = .ok (.aload_n 0, 1) := by decide +kernel
theorem dX12_init_39 : decode cX12_init 39 = .ok (.aload_n 0, 1) := by decide +kernel
theorem dX12_init_40 : decode cX12_init 40 = .ok (.getfield 9, 3) := by decide +kernel
theorem dX12_init_43 : decode cX12_init 43 = .ok (.putfield 23, 3) := by decide +kernel
theorem dX12_init_46 : decode cX12_init 46 = .ok (.aload_n 0, 1) := by decide +kernel
theorem dX12_init_47 : decode cX12_init 47 = .ok (.ldc 26, 2) := by decide +kernel
theorem dX12_init_49 : decode cX12_init 49 = .ok (.putfield 28, 3) := by decide +kernel
theorem dX12_init_52 : decode cX12_init 52 = .ok (.aload_n 0, 1) := by decide +kernel
theorem dX12_init_53 : decode cX12_init 53 = .ok (.ldc 32, 2) := by decide +kernel
theorem dX12_init_55 : decode cX12_init 55 = .ok (.putfield 34, 3) := by decide +kernel
theorem dX12_init_58 : decode cX12_init 58 = .ok (.aload_n 0, 1) := by decide +kernel
theorem dX12_init_59 : decode cX12_init 59 = .ok (.iconst 3, 1) := by decide +kernel
theorem dX12_init_60 : decode cX12_init 60 = .ok (.newarray .int, 2) := by decide +kernel
theorem dX12_init_62 : decode cX12_init 62 = .ok (.putfield 37, 3) := by decide +kernel
theorem dX12_init_65 : decode cX12_init 65 = .ok (.aload_n 0, 1) := by decide +kernel
theorem dX12_init_66 : decode cX12_init 66 = .ok (.iconst 3, 1) := by decide +kernel
theorem dX12_init_67 : decode cX12_init 67 = .ok (.newarray .int, 2) := by decide +kernel
theorem dX12_init_69 : decode cX12_init 69 = .ok (.putfield 40, 3) := by decide +kernel
theorem dX12_init_72 : decode cX12_init 72 = .ok (.aload_n 0, 1) := by decide +kernel
theorem dX12_init_73 : decode cX12_init 73 = .ok (.bipush 12, 2) := by decide +kernel
theorem dX12_init_75 : decode cX12_init 75 = .ok (.newarray .int, 2) := by decide +kernel
theorem dX12_init_77 : decode cX12_init 77 = .ok (.putfield 43, 3) := by decide +kernel
theorem dX12_init_80 : decode cX12_init 80 = .ok (.aload_n 0, 1) := by decide +kernel
theorem dX12_init_81 : decode cX12_init 81 = .ok (.bipush 12, 2) := by decide +kernel
theorem dX12_init_83 : decode cX12_init 83 = .ok (.newarray .int, 2) := by decide +kernel
theorem dX12_init_85 : decode cX12_init 85 = .ok (.putfield 46, 3) := by decide +kernel
theorem dX12_init_88 : decode cX12_init 88 = .ok (.aload_n 0, 1) := by decide +kernel
theorem dX12_init_89 : decode cX12_init 89 = .ok (.bipush 18, 2) := by decide +kernel
theorem dX12_init_91 : decode cX12_init 91 = .ok (.newarray .int, 2) := by decide +kernel
theorem dX12_init_93 : decode cX12_init 93 = .ok (.putfield 49, 3) := by decide +kernel
theorem dX12_init_96 : decode cX12_init 96 = .ok (.aload_n 0, 1) := by decide +kernel
theorem dX12_init_97 : decode cX12_init 97 = .ok (.bipush 18, 2) := by decide +kernel
theorem dX12_init_99 : decode cX12_init 99 = .ok (.newarray .int, 2) := by decide +kernel
theorem dX12_init_101 : decode cX12_init 101 = .ok (.putfield 52, 3) := by decide +kernel
theorem dX12_init_104 : decode cX12_init 104 = .ok (.aload_n 0, 1) := by decide +kernel
theorem dX12_init_105 : decode cX12_init 105 = .ok (.sipush 160, 3) := by decide +kernel
theorem dX12_init_108 : decode cX12_init 108 = .ok (.newarray .int, 2) := by decide +kernel
theorem dX12_init_110 : decode cX12_init 110 = .ok (.putfield 55, 3) := by decide +kernel
theorem dX12_init_113 : decode cX12_init 113 = .ok (.aload_n 0, 1) := by decide +kernel
theorem dX12_init_114 : decode cX12_init 114 = .ok (.iconst 5, 1) := by decide +kernel
theorem dX12_init_115 : decode cX12_init 115 = .ok (.newarray .int, 2) := by decide +kernel
theorem dX12_init_117 : decode cX12_init 117 = .ok (.putfield 58, 3) := by decide +kernel
theorem dX12_init_120 : decode cX12_init 120 = .ok (.aload_n 0, 1) := by decide +kernel
theorem dX12_init_121 : decode cX12_init 121 = .ok (.sipush 269, 3) := by decide +kernel
theorem dX12_init_124 : decode cX12_init 124 = .ok (.newarray .int, 2) := by decide +kernel
theorem dX12_init_126 : decode cX12_init 126 = .ok (.putfield 61, 3) := by decide +kernel
theorem dX12_init_129 : decode cX12_init 129 = .ok (.aload_n 0, 1) := by decide +kernel
theorem dX12_init_130 : decode cX12_init 130 = .ok (.sipush 269, 3) := by decide +kernel
theorem dX12_init_133 : decode cX12_init 133 = .ok (.newarray .int, 2) := by decide +kernel
theorem dX12_init_135 : decode cX12_init 135 = .ok (.putfield 64, 3) := by decide +kernel
theorem dX12_init_138 : decode cX12_init 138 = .ok (.aload_n 0, 1) := by decide +kernel
theorem dX12_init_139 : decode cX12_init 139 = .ok (.iconst (-1), 1) := by decide +kernel
theorem dX12_init_140 : decode cX12_init 140 = .ok (.putfield 67, 3) := by decide +kernel
theorem dX12_init_143 : decode cX12_init 143 = .ok (.aload_n 0, 1) := by decide +kernel
theorem dX12_init_144 : decode cX12_init 144 = .ok (.iconst 2, 1) := by decide +kernel
theorem dX12_init_145 : decode cX12_init 145 = .ok (.putfield 71, 3) := by decide +kernel
theorem dX12_init_148 : decode cX12_init 148 = .ok (.aload_n 0, 1) := by decide +kernel
theorem dX12_init_149 : decode cX12_init 149 = .ok (.sipush 10760, 3) := by decide +kernel
theorem dX12_init_152 : decode cX12_init 152 = .ok (.newarray .int, 2) := by decide +kernel
theorem dX12_init_154 : decode cX12_init 154 = .ok (.putfield 74, 3) := by decide +kernel
theorem dX12_init_157 : decode cX12_init 157 = .ok (.aload_n 0, 1) := by decide +kernel
theorem dX12_init_158 : decode cX12_init 158 = .ok (.sipush 203, 3) := by decide +kernel
theorem dX12_init_161 : decode cX12_init 161 = .ok (.newarray .int, 2) := by decide +kernel
theorem dX12_init_163 : decode cX12_init 163 = .ok (.putfield 77, 3) := by decide +kernel
theorem dX12_init_166 : decode cX12_init 166 = .ok (.aload_n 0, 1) := by decide +kernel
theorem dX12_init_167 : decode cX12_init 167 = .ok (.bipush 40, 2) := by decide +kernel
theorem dX12_init_169 : decode cX12_init 169 = .ok (.newarray .int, 2) := by decide +kernel
theorem dX12_init_171 : decode cX12_init 171 = .ok (.putfield 80, 3) := by decide +kernel
theorem dX12_init_174 : decode cX12_init 174 = .ok (.aload_n 0, 1) := by decide +kernel
theorem dX12_init_175 : decode cX12_init 175 = .ok (.bipush 7, 2) := by decide +kernel
theorem dX12_init_177 : decode cX12_init 177 = .ok (.newarray .int, 2) := by decide +kernel
theorem dX12_init_179 : decode cX12_init 179 = .ok (.putfield 83, 3) := by decide +kernel
theorem dX12_init_182 : decode cX12_init 182 = .ok (.aload_n 0, 1) := by decide +kernel
theorem dX12_init_183 : decode cX12_init 183 = .ok (.sipush 269, 3) := by decide +kernel
theorem dX12_init_186 : decode cX12_init 186 = .ok (.newarray .int, 2) := by decide +kernel
theorem dX12_init_188 : decode cX12_init 188 = .ok (.putfield 86, 3) := by decide +kernel
theorem dX12_init_191 : decode cX12_init 191 = .ok (.return_, 1) := by decide +kernel
theorem dX12_thrown_0 : decode cX12_thrown 0 = .ok (.aload_n 0, 1) := by decide +kernel
theorem dX12_thrown_1 : decode cX12_thrown 1 = .ok (.getfield 89, 3) := by decide +kernel
theorem dX12_thrown_4 : decode cX12_thrown 4 = .ok (.ireturn, 1) := by decide +kernel
theorem dX12_isIn_0 : decode cX12_isIn 0 = .ok (.lload_n 0, 1) := by decide +kernel
theorem dX12_isIn_1 : decode cX12_isIn 1 = .ok (.lload_n 2, 1) := by decide +kernel
theorem dX12_isIn_2 : decode cX12_isIn 2 = .ok (.lcmp, 1) := by decide +kernel
theorem dX12_isIn_3 : decode cX12_isIn 3 = .ok (.ifCond .lt 14, 3) := by decide +kernel
theorem dX12_isIn_6 : decode cX12_isIn 6 = .ok (.lload_n 0, 1) := by decide +kernel
theorem dX12_isIn_7 : decode cX12_isIn 7 = .ok (.lload 4, 2) := by decide +kernel
theorem dX12_isIn_9 : decode cX12_isIn 9 = .ok (.lcmp, 1) := by decide +kernel
theorem dX12_isIn_10 : decode cX12_isIn 10 = .ok (.ifCond .gt 7, 3) := by decide +kernel
theorem dX12_isIn_13 : decode cX12_isIn 13 = .ok (.iconst 1, 1) := by decide +kernel
theorem dX12_isIn_14 : decode cX12_isIn 14 = .ok (.goto 4, 3) := by decide +kernel
theorem dX12_isIn_17 : decode cX12_isIn 17 = .ok (.iconst 0, 1) := by decide +kernel
theorem dX12_isIn_18 : decode cX12_isIn 18 = .ok (.ireturn, 1) := by decide +kernel
theorem dX12_has_0 : decode cX12_has 0 = .ok (.iload_n 0, 1) := by decide +kernel
theorem dX12_has_1 : decode cX12_has 1 = .ok (.iload_n 1, 1) := by decide +kernel
theorem dX12_has_2 : decode cX12_has 2 = .ok (.ishr, 1) := by decide +kernel
theorem dX12_has_3 : decode cX12_has 3 = .ok (.iconst 1, 1) := by decide +kernel
theorem dX12_has_4 : decode cX12_has 4 = .ok (.iand, 1) := by decide +kernel
theorem dX12_has_5 : decode cX12_has 5 = .ok (.iconst 1, 1) := by decide +kernel
theorem dX12_has_6 : decode cX12_has 6 = .ok (.if_icmp .ne 7, 3) := by decide +kernel
theorem dX12_has_9 : decode cX12_has 9 = .ok (.iconst 1, 1) := by decide +kernel
theorem dX12_has_10 : decode cX12_has 10 = .ok (.goto 4, 3) := by decide +kernel
theorem dX12_has_13 : decode cX12_has 13 = .ok (.iconst 0, 1) := by decide +kernel
theorem dX12_has_14 : decode cX12_has 14 = .ok (.ireturn, 1) := by decide +kernel
theorem dX12_isAmong_0 : decode cX12_isAmong 0 = .ok (.iconst 0, 1) := by decide +kernel
theorem dX12_isAmong_1 : decode cX12_isAmong 1 = .ok (.istore_n 2, 1) := by decide +kernel
theorem dX12_isAmong_2 : decode cX12_isAmong 2 = .ok (.iload_n 2, 1) := by decide +kernel
theorem dX12_isAmong_3 : decode cX12_isAmong 3 = .ok (.aload_n 0, 1) := by decide +kernel
theorem dX12_isAmong_4 : decode cX12_isAmong 4 = .ok (.invokevirtual 92, 3) := by decide +kernel
theorem dX12_isAmong_7 : decode cX12_isAmong 7 = .ok (.if_icmp .ge 20, 3) := by decide +kernel
theorem dX12_isAmong_10 : decode cX12_isAmong 10 = .ok (.aload_n 0, 1) := by decide +kernel
theorem dX12_isAmong_11 : decode cX12_isAmong 11 = .ok (.iload_n 2, 1) := by decide +kernel
theorem dX12_isAmong_12 : decode cX12_isAmong 12 = .ok (.invokevirtual 98, 3) := by decide +kernel
theorem dX12_isAmong_15 : decode cX12_isAmong 15 = .ok (.iload_n 1, 1) := by decide +kernel
theorem dX12_isAmong_16 : decode cX12_isAmong 16 = .ok (.if_icmp .ne 5, 3) := by decide +kernel
theorem dX12_isAmong_19 : decode cX12_isAmong 19 = .ok (.iconst 1, 1) := by decide +kernel
theorem dX12_isAmong_20 : decode cX12_isAmong 20 = .ok (.ireturn, 1) := by decide +kernel
theorem dX12_isAmong_21 : decode cX12_isAmong 21 = .ok (.iinc 2 1, 3) := by decide +kernel
theorem dX12_isAmong_24 : decode cX12_isAmong 24 = .ok (.goto (-22), 3) := by decide +kernel
theorem dX12_isAmong_27 : decode cX12_isAmong 27 = .ok (.iconst 0, 1) := by decide +kernel
theorem dX12_isAmong_28 : decode cX12_isAmong 28 = .ok (.ireturn, 1) := by decide +kernel
theorem dX12_bytesIn_0 : decode cX12_bytesIn 0 = .ok (.iconst 0, 1) := by decide +kernel
theorem dX12_bytesIn_1 : decode cX12_bytesIn 1 = .ok (.istore_n 1, 1) := by decide +kernel
theorem dX12_bytesIn_2 : decode cX12_bytesIn 2 = .ok (.bipush 24, 2) := by decide +kernel
theorem dX12_bytesIn_4 : decode cX12_bytesIn 4 = .ok (.istore_n 2, 1) := by decide +kernel
theorem dX12_bytesIn_5 : decode cX12_bytesIn 5 = .ok (.iload_n 2, 1) := by decide +kernel
theorem dX12_bytesIn_6 : decode cX12_bytesIn 6 = .ok (.ifCond .lt 27, 3) := by decide +kernel
theorem dX12_bytesIn_9 : decode cX12_bytesIn 9 = .ok (.iload_n 1, 1) := by decide +kernel
theorem dX12_bytesIn_10 : decode cX12_bytesIn 10 = .ok (.iload_n 0, 1) := by decide +kernel
theorem dX12_bytesIn_11 : decode cX12_bytesIn 11 = .ok (.iload_n 2, 1) := by decide +kernel
theorem dX12_bytesIn_12 : decode cX12_bytesIn 12 = .ok (.ishr, 1) := by decide +kernel
theorem dX12_bytesIn_13 : decode cX12_bytesIn 13 = .ok (.sipush 255, 3) := by decide +kernel
theorem dX12_bytesIn_16 : decode cX12_bytesIn 16 = .ok (.iand, 1) := by decide +kernel
theorem dX12_bytesIn_17 : decode cX12_bytesIn 17 = .ok (.ifCond .eq 7, 3) := by decide +kernel
theorem dX12_bytesIn_20 : decode cX12_bytesIn 20 = .ok (.iconst 1, 1) := by decide +kernel
theorem dX12_bytesIn_21 : decode cX12_bytesIn 21 = .ok (.goto 4, 3) := by decide +kernel
theorem dX12_bytesIn_24 : decode cX12_bytesIn 24 = .ok (.iconst 0, 1) := by decide +kernel
theorem dX12_bytesIn_25 : decode cX12_bytesIn 25 = .ok (.iadd, 1) := by decide +kernel
theorem dX12_bytesIn_26 : decode cX12_bytesIn 26 = .ok (.istore_n 1, 1) := by decide +kernel
theorem dX12_bytesIn_27 : decode cX12_bytesIn 27 = .ok (.iinc 2 (-8), 3) := by decide +kernel
theorem dX12_bytesIn_30 : decode cX12_bytesIn 30 = .ok (.goto (-25), 3) := by decide +kernel
theorem dX12_bytesIn_33 : decode cX12_bytesIn 33 = .ok (.iload_n 1, 1) := by decide +kernel
theorem dX12_bytesIn_34 : decode cX12_bytesIn 34 = .ok (.ireturn, 1) := by decide +kernel
theorem dX12_put_0 : decode cX12_put 0 = .ok (.bipush 24, 2) := by decide +kernel
theorem dX12_put_2 : decode cX12_put 2 = .ok (.istore_n 2, 1) := by decide +kernel
theorem dX12_put_3 : decode cX12_put 3 = .ok (.iload_n 2, 1) := by decide +kernel
theorem dX12_put_4 : decode cX12_put 4 = .ok (.ifCond .lt 45, 3) := by decide +kernel
theorem dX12_put_7 : decode cX12_put 7 = .ok (.iload_n 1, 1) := by decide +kernel
theorem dX12_put_8 : decode cX12_put 8 = .ok (.iload_n 2, 1) := by decide +kernel
theorem dX12_put_9 : decode cX12_put 9 = .ok (.ishr, 1) := by decide +kernel
theorem dX12_put_10 : decode cX12_put 10 = .ok (.sipush 255, 3) := by decide +kernel
theorem dX12_put_13 : decode cX12_put 13 = .ok (.iand, 1) := by decide +kernel
theorem dX12_put_14 : decode cX12_put 14 = .ok (.ifCond .ne 6, 3) := by decide +kernel
theorem dX12_put_17 : decode cX12_put 17 = .ok (.goto 26, 3) := by decide +kernel
theorem dX12_put_20 : decode cX12_put 20 = .ok (.aload_n 0, 1) := by decide +kernel
theorem dX12_put_21 : decode cX12_put 21 = .ok (.getfield 9, 3) := by decide +kernel
theorem dX12_put_24 : decode cX12_put 24 = .ok (.aload_n 0, 1) := by decide +kernel
theorem dX12_put_25 : decode cX12_put 25 = .ok (.getfield 102, 3) := by decide +kernel
theorem dX12_put_28 : decode cX12_put 28 = .ok (.iload_n 1, 1) := by decide +kernel
theorem dX12_put_29 : decode cX12_put 29 = .ok (.iload_n 2, 1) := by decide +kernel
theorem dX12_put_30 : decode cX12_put 30 = .ok (.ishr, 1) := by decide +kernel
theorem dX12_put_31 : decode cX12_put 31 = .ok (.i2b, 1) := by decide +kernel
theorem dX12_put_32 : decode cX12_put 32 = .ok (.bastore, 1) := by decide +kernel
theorem dX12_put_33 : decode cX12_put 33 = .ok (.aload_n 0, 1) := by decide +kernel
theorem dX12_put_34 : decode cX12_put 34 = .ok (.dup, 1) := by decide +kernel
theorem dX12_put_35 : decode cX12_put 35 = .ok (.getfield 102, 3) := by decide +kernel
theorem dX12_put_38 : decode cX12_put 38 = .ok (.iconst 1, 1) := by decide +kernel
theorem dX12_put_39 : decode cX12_put 39 = .ok (.iadd, 1) := by decide +kernel
theorem dX12_put_40 : decode cX12_put 40 = .ok (.putfield 102, 3) := by decide +kernel
theorem dX12_put_43 : decode cX12_put 43 = .ok (.iinc 2 (-8), 3) := by decide +kernel
theorem dX12_put_46 : decode cX12_put 46 = .ok (.goto (-43), 3) := by decide +kernel
theorem dX12_put_49 : decode cX12_put 49 = .ok (.return_, 1) := by decide +kernel
theorem dX12_feed_0 : decode cX12_feed 0 = .ok (.aload_n 0, 1) := by decide +kernel
theorem dX12_feed_1 : decode cX12_feed 1 = .ok (.iconst 0, 1) := by decide +kernel
theorem dX12_feed_2 : decode cX12_feed 2 = .ok (.putfield 89, 3) := by decide +kernel
theorem dX12_feed_5 : decode cX12_feed 5 = .ok (.aload_n 0, 1) := by decide +kernel
theorem dX12_feed_6 : decode cX12_feed 6 = .ok (.getfield 102, 3) := by decide +kernel
theorem dX12_feed_9 : decode cX12_feed 9 = .ok (.iload_n 1, 1) := by decide +kernel
theorem dX12_feed_10 : decode cX12_feed 10 = .ok (.invokestatic 104, 3) := by decide +kernel
theorem dX12_feed_13 : decode cX12_feed 13 = .ok (.iadd, 1) := by decide +kernel
theorem dX12_feed_14 : decode cX12_feed 14 = .ok (.iload_n 2, 1) := by decide +kernel
theorem dX12_feed_15 : decode cX12_feed 15 = .ok (.invokestatic 104, 3) := by decide +kernel
theorem dX12_feed_18 : decode cX12_feed 18 = .ok (.iadd, 1) := by decide +kernel
theorem dX12_feed_19 : decode cX12_feed 19 = .ok (.iload_n 3, 1) := by decide +kernel
theorem dX12_feed_20 : decode cX12_feed 20 = .ok (.invokestatic 104, 3) := by decide +kernel
theorem dX12_feed_23 : decode cX12_feed 23 = .ok (.iadd, 1) := by decide +kernel
theorem dX12_feed_24 : decode cX12_feed 24 = .ok (.iload 4, 2) := by decide +kernel
theorem dX12_feed_26 : decode cX12_feed 26 = .ok (.invokestatic 104, 3) := by decide +kernel
theorem dX12_feed_29 : decode cX12_feed 29 = .ok (.iadd, 1) := by decide +kernel
theorem dX12_feed_30 : decode cX12_feed 30 = .ok (.iload 5, 2) := by decide +kernel
theorem dX12_feed_32 : decode cX12_feed 32 = .ok (.invokestatic 104, 3) := by decide +kernel
theorem dX12_feed_35 : decode cX12_feed 35 = .ok (.iadd, 1) := by decide +kernel
theorem dX12_feed_36 : decode cX12_feed 36 = .ok (.sipush 240, 3) := by decide +kernel
theorem dX12_feed_39 : decode cX12_feed 39 = .ok (.if_icmp .le 5, 3) := by decide +kernel
theorem dX12_feed_42 : decode cX12_feed 42 = .ok (.iconst (-1), 1) := by decide +kernel
theorem dX12_feed_43 : decode cX12_feed 43 = .ok (.ireturn, 1) := by decide +kernel
theorem dX12_feed_44 : decode cX12_feed 44 = .ok (.aload_n 0, 1) := by decide +kernel
theorem dX12_feed_45 : decode cX12_feed 45 = .ok (.iload_n 1, 1) := by decide +kernel
theorem dX12_feed_46 : decode cX12_feed 46 = .ok (.invokevirtual 108, 3) := by decide +kernel
theorem dX12_feed_49 : decode cX12_feed 49 = .ok (.aload_n 0, 1) := by decide +kernel
theorem dX12_feed_50 : decode cX12_feed 50 = .ok (.iload_n 2, 1) := by decide +kernel
theorem dX12_feed_51 : decode cX12_feed 51 = .ok (.invokevirtual 108, 3) := by decide +kernel
theorem dX12_feed_54 : decode cX12_feed 54 = .ok (.aload_n 0, 1) := by decide +kernel
theorem dX12_feed_55 : decode cX12_feed 55 = .ok (.iload_n 3, 1) := by decide +kernel
theorem dX12_feed_56 : decode cX12_feed 56 = .ok (.invokevirtual 108, 3) := by decide +kernel
theorem dX12_feed_59 : decode cX12_feed 59 = .ok (.aload_n 0, 1) := by decide +kernel
theorem dX12_feed_60 : decode cX12_feed 60 = .ok (.iload 4, 2) := by decide +kernel
theorem dX12_feed_62 : decode cX12_feed 62 = .ok (.invokevirtual 108, 3) := by decide +kernel
theorem dX12_feed_65 : decode cX12_feed 65 = .ok (.aload_n 0, 1) := by decide +kernel
theorem dX12_feed_66 : decode cX12_feed 66 = .ok (.iload 5, 2) := by decide +kernel
theorem dX12_feed_68 : decode cX12_feed 68 = .ok (.invokevirtual 108, 3) := by decide +kernel
theorem dX12_feed_71 : decode cX12_feed 71 = .ok (.aload_n 0, 1) := by decide +kernel
theorem dX12_feed_72 : decode cX12_feed 72 = .ok (.getfield 102, 3) := by decide +kernel
theorem dX12_feed_75 : decode cX12_feed 75 = .ok (.ireturn, 1) := by decide +kernel
theorem dX12_end_0 : decode cX12_end 0 = .ok (.aload_n 0, 1) := by decide +kernel
theorem dX12_end_1 : decode cX12_end 1 = .ok (.iconst 0, 1) := by decide +kernel
theorem dX12_end_2 : decode cX12_end 2 = .ok (.putfield 89, 3) := by decide +kernel
theorem dX12_end_5 : decode cX12_end 5 = .ok (.iload_n 1, 1) := by decide +kernel
theorem dX12_end_6 : decode cX12_end 6 = .ok (.ifCond .lt 11, 3) := by decide +kernel
theorem dX12_end_9 : decode cX12_end 9 = .ok (.iload_n 1, 1) := by decide +kernel
theorem dX12_end_10 : decode cX12_end 10 = .ok (.aload_n 0, 1) := by decide +kernel
theorem dX12_end_11 : decode cX12_end 11 = .ok (.getfield 102, 3) := by decide +kernel
theorem dX12_end_14 : decode cX12_end 14 = .ok (.if_icmp .le 5, 3) := by decide +kernel
theorem dX12_end_17 : decode cX12_end 17 = .ok (.iconst 0, 1) := by decide +kernel
theorem dX12_end_18 : decode cX12_end 18 = .ok (.ireturn, 1) := by decide +kernel
theorem dX12_end_19 : decode cX12_end 19 = .ok (.aload_n 0, 1) := by decide +kernel
theorem dX12_end_20 : decode cX12_end 20 = .ok (.iload_n 1, 1) := by decide +kernel
theorem dX12_end_21 : decode cX12_end 21 = .ok (.putfield 102, 3) := by decide +kernel
theorem dX12_end_24 : decode cX12_end 24 = .ok (.iconst 1, 1) := by decide +kernel
theorem dX12_end_25 : decode cX12_end 25 = .ok (.ireturn, 1) := by decide +kernel
theorem dX12_look_0 : decode cX12_look 0 = .ok (.aload_n 0, 1) := by decide +kernel
theorem dX12_look_1 : decode cX12_look 1 = .ok (.getfield 112, 3) := by decide +kernel
theorem dX12_look_4 : decode cX12_look 4 = .ok (.aload_n 0, 1) := by decide +kernel
theorem dX12_look_5 : decode cX12_look 5 = .ok (.getfield 115, 3) := by decide +kernel
theorem dX12_look_8 : decode cX12_look 8 = .ok (.if_icmp .ge 35, 3) := by decide +kernel
theorem dX12_look_11 : decode cX12_look 11 = .ok (.aload_n 0, 1) := by decide +kernel
theorem dX12_look_12 : decode cX12_look 12 = .ok (.getfield 23, 3) := by decide +kernel
theorem dX12_look_15 : decode cX12_look 15 = .ok (.aload_n 0, 1) := by decide +kernel
theorem dX12_look_16 : decode cX12_look 16 = .ok (.getfield 118, 3) := by decide +kernel
theorem dX12_look_19 : decode cX12_look 19 = .ok (.aload_n 0, 1) := by decide +kernel
theorem dX12_look_20 : decode cX12_look 20 = .ok (.getfield 112, 3) := by decide +kernel
theorem dX12_look_23 : decode cX12_look 23 = .ok (.iadd, 1) := by decide +kernel
theorem dX12_look_24 : decode cX12_look 24 = .ok (.baload, 1) := by decide +kernel
theorem dX12_look_25 : decode cX12_look 25 = .ok (.bipush 32, 2) := by decide +kernel
theorem dX12_look_27 : decode cX12_look 27 = .ok (.if_icmp .ne 16, 3) := by decide +kernel
theorem dX12_look_30 : decode cX12_look 30 = .ok (.aload_n 0, 1) := by decide +kernel
theorem dX12_look_31 : decode cX12_look 31 = .ok (.dup, 1) := by decide +kernel
theorem dX12_look_32 : decode cX12_look 32 = .ok (.getfield 112, 3) := by decide +kernel
theorem dX12_look_35 : decode cX12_look 35 = .ok (.iconst 1, 1) := by decide +kernel
theorem dX12_look_36 : decode cX12_look 36 = .ok (.iadd, 1) := by decide +kernel
theorem dX12_look_37 : decode cX12_look 37 = .ok (.putfield 112, 3) := by decide +kernel
theorem dX12_look_40 : decode cX12_look 40 = .ok (.goto (-40), 3) := by decide +kernel
theorem dX12_look_43 : decode cX12_look 43 = .ok (.aload_n 0, 1) := by decide +kernel
theorem dX12_look_44 : decode cX12_look 44 = .ok (.getfield 112, 3) := by decide +kernel
theorem dX12_look_47 : decode cX12_look 47 = .ok (.aload_n 0, 1) := by decide +kernel
theorem dX12_look_48 : decode cX12_look 48 = .ok (.getfield 115, 3) := by decide +kernel
theorem dX12_look_51 : decode cX12_look 51 = .ok (.if_icmp .ge 24, 3) := by decide +kernel
theorem dX12_look_54 : decode cX12_look 54 = .ok (.aload_n 0, 1) := by decide +kernel
theorem dX12_look_55 : decode cX12_look 55 = .ok (.getfield 23, 3) := by decide +kernel
theorem dX12_look_58 : decode cX12_look 58 = .ok (.aload_n 0, 1) := by decide +kernel
theorem dX12_look_59 : decode cX12_look 59 = .ok (.getfield 118, 3) := by decide +kernel
theorem dX12_look_62 : decode cX12_look 62 = .ok (.aload_n 0, 1) := by decide +kernel
theorem dX12_look_63 : decode cX12_look 63 = .ok (.getfield 112, 3) := by decide +kernel
theorem dX12_look_66 : decode cX12_look 66 = .ok (.iadd, 1) := by decide +kernel
theorem dX12_look_67 : decode cX12_look 67 = .ok (.baload, 1) := by decide +kernel
theorem dX12_look_68 : decode cX12_look 68 = .ok (.sipush 255, 3) := by decide +kernel
theorem dX12_look_71 : decode cX12_look 71 = .ok (.iand, 1) := by decide +kernel
theorem dX12_look_72 : decode cX12_look 72 = .ok (.goto 4, 3) := by decide +kernel
theorem dX12_look_75 : decode cX12_look 75 = .ok (.iconst (-1), 1) := by decide +kernel
theorem dX12_look_76 : decode cX12_look 76 = .ok (.ireturn, 1) := by decide +kernel
theorem dX12_fails_0 : decode cX12_fails 0 = .ok (.aload_n 0, 1) := by decide +kernel
theorem dX12_fails_1 : decode cX12_fails 1 = .ok (.getfield 121, 3) := by decide +kernel
theorem dX12_fails_4 : decode cX12_fails 4 = .ok (.iconst (-1), 1) := by decide +kernel
theorem dX12_fails_5 : decode cX12_fails 5 = .ok (.if_icmp .ne 11, 3) := by decide +kernel
theorem dX12_fails_8 : decode cX12_fails 8 = .ok (.aload_n 0, 1) := by decide +kernel
theorem dX12_fails_9 : decode cX12_fails 9 = .ok (.aload_n 0, 1) := by decide +kernel
theorem dX12_fails_10 : decode cX12_fails 10 = .ok (.getfield 112, 3) := by decide +kernel
theorem dX12_fails_13 : decode cX12_fails 13 = .ok (.putfield 121, 3) := by decide +kernel
theorem dX12_fails_16 : decode cX12_fails 16 = .ok (.iconst 0, 1) := by decide +kernel
theorem dX12_fails_17 : decode cX12_fails 17 = .ok (.ireturn, 1) := by decide +kernel
theorem dX12_goesIn_0 : decode cX12_goesIn 0 = .ok (.aload_n 0, 1) := by decide +kernel
theorem dX12_goesIn_1 : decode cX12_goesIn 1 = .ok (.getfield 124, 3) := by decide +kernel
theorem dX12_goesIn_4 : decode cX12_goesIn 4 = .ok (.bipush 6, 2) := by decide +kernel
theorem dX12_goesIn_6 : decode cX12_goesIn 6 = .ok (.if_icmp .ne 8, 3) := by decide +kernel
theorem dX12_goesIn_9 : decode cX12_goesIn 9 = .ok (.aload_n 0, 1) := by decide +kernel
theorem dX12_goesIn_10 : decode cX12_goesIn 10 = .ok (.invokevirtual 127, 3) := by decide +kernel
theorem dX12_goesIn_13 : decode cX12_goesIn 13 = .ok (.ireturn, 1) := by decide +kernel
theorem dX12_goesIn_14 : decode cX12_goesIn 14 = .ok (.aload_n 0, 1) := by decide +kernel
theorem dX12_goesIn_15 : decode cX12_goesIn 15 = .ok (.dup, 1) := by decide +kernel
theorem dX12_goesIn_16 : decode cX12_goesIn 16 = .ok (.getfield 124, 3) := by decide +kernel
theorem dX12_goesIn_19 : decode cX12_goesIn 19 = .ok (.iconst 1, 1) := by decide +kernel
theorem dX12_goesIn_20 : decode cX12_goesIn 20 = .ok (.iadd, 1) := by decide +kernel
theorem dX12_goesIn_21 : decode cX12_goesIn 21 = .ok (.putfield 124, 3) := by decide +kernel
theorem dX12_goesIn_24 : decode cX12_goesIn 24 = .ok (.aload_n 0, 1) := by decide +kernel
theorem dX12_goesIn_25 : decode cX12_goesIn 25 = .ok (.dup, 1) := by decide +kernel
theorem dX12_goesIn_26 : decode cX12_goesIn 26 = .ok (.getfield 112, 3) := by decide +kernel
theorem dX12_goesIn_29 : decode cX12_goesIn 29 = .ok (.iconst 1, 1) := by decide +kernel
theorem dX12_goesIn_30 : decode cX12_goesIn 30 = .ok (.iadd, 1) := by decide +kernel
theorem dX12_goesIn_31 : decode cX12_goesIn 31 = .ok (.putfield 112, 3) := by decide +kernel
theorem dX12_goesIn_34 : decode cX12_goesIn 34 = .ok (.iconst 1, 1) := by decide +kernel
theorem dX12_goesIn_35 : decode cX12_goesIn 35 = .ok (.ireturn, 1) := by decide +kernel
theorem dX12_takes_0 : decode cX12_takes 0 = .ok (.aload_n 0, 1) := by decide +kernel
theorem dX12_takes_1 : decode cX12_takes 1 = .ok (.getfield 121, 3) := by decide +kernel
theorem dX12_takes_4 : decode cX12_takes 4 = .ok (.iconst (-1), 1) := by decide +kernel
theorem dX12_takes_5 : decode cX12_takes 5 = .ok (.if_icmp .ne 11, 3) := by decide +kernel
theorem dX12_takes_8 : decode cX12_takes 8 = .ok (.aload_n 0, 1) := by decide +kernel
theorem dX12_takes_9 : decode cX12_takes 9 = .ok (.invokevirtual 131, 3) := by decide +kernel
theorem dX12_takes_12 : decode cX12_takes 12 = .ok (.iload_n 1, 1) := by decide +kernel
theorem dX12_takes_13 : decode cX12_takes 13 = .ok (.if_icmp .eq 8, 3) := by decide +kernel
theorem dX12_takes_16 : decode cX12_takes 16 = .ok (.aload_n 0, 1) := by decide +kernel
theorem dX12_takes_17 : decode cX12_takes 17 = .ok (.invokevirtual 127, 3) := by decide +kernel
theorem dX12_takes_20 : decode cX12_takes 20 = .ok (.ireturn, 1) := by decide +kernel
theorem dX12_takes_21 : decode cX12_takes 21 = .ok (.aload_n 0, 1) := by decide +kernel
theorem dX12_takes_22 : decode cX12_takes 22 = .ok (.dup, 1) := by decide +kernel
theorem dX12_takes_23 : decode cX12_takes 23 = .ok (.getfield 112, 3) := by decide +kernel
theorem dX12_takes_26 : decode cX12_takes 26 = .ok (.iconst 1, 1) := by decide +kernel
theorem dX12_takes_27 : decode cX12_takes 27 = .ok (.iadd, 1) := by decide +kernel
theorem dX12_takes_28 : decode cX12_takes 28 = .ok (.putfield 112, 3) := by decide +kernel
theorem dX12_takes_31 : decode cX12_takes 31 = .ok (.iconst 1, 1) := by decide +kernel
theorem dX12_takes_32 : decode cX12_takes 32 = .ok (.ireturn, 1) := by decide +kernel
theorem dX12_isDigit_0 : decode cX12_isDigit 0 = .ok (.aload_n 0, 1) := by decide +kernel
theorem dX12_isDigit_1 : decode cX12_isDigit 1 = .ok (.getfield 112, 3) := by decide +kernel
theorem dX12_isDigit_4 : decode cX12_isDigit 4 = .ok (.aload_n 0, 1) := by decide +kernel
theorem dX12_isDigit_5 : decode cX12_isDigit 5 = .ok (.getfield 115, 3) := by decide +kernel
theorem dX12_isDigit_8 : decode cX12_isDigit 8 = .ok (.if_icmp .ge 45, 3) := by decide +kernel
theorem dX12_isDigit_11 : decode cX12_isDigit 11 = .ok (.aload_n 0, 1) := by decide +kernel
theorem dX12_isDigit_12 : decode cX12_isDigit 12 = .ok (.getfield 23, 3) := by decide +kernel
theorem dX12_isDigit_15 : decode cX12_isDigit 15 = .ok (.aload_n 0, 1) := by decide +kernel
theorem dX12_isDigit_16 : decode cX12_isDigit 16 = .ok (.getfield 118, 3) := by decide +kernel
theorem dX12_isDigit_19 : decode cX12_isDigit 19 = .ok (.aload_n 0, 1) := by decide +kernel
theorem dX12_isDigit_20 : decode cX12_isDigit 20 = .ok (.getfield 112, 3) := by decide +kernel
theorem dX12_isDigit_23 : decode cX12_isDigit 23 = .ok (.iadd, 1) := by decide +kernel
theorem dX12_isDigit_24 : decode cX12_isDigit 24 = .ok (.baload, 1) := by decide +kernel
theorem dX12_isDigit_25 : decode cX12_isDigit 25 = .ok (.bipush 48, 2) := by decide +kernel
theorem dX12_isDigit_27 : decode cX12_isDigit 27 = .ok (.if_icmp .lt 26, 3) := by decide +kernel
theorem dX12_isDigit_30 : decode cX12_isDigit 30 = .ok (.aload_n 0, 1) := by decide +kernel
theorem dX12_isDigit_31 : decode cX12_isDigit 31 = .ok (.getfield 23, 3) := by decide +kernel
theorem dX12_isDigit_34 : decode cX12_isDigit 34 = .ok (.aload_n 0, 1) := by decide +kernel
theorem dX12_isDigit_35 : decode cX12_isDigit 35 = .ok (.getfield 118, 3) := by decide +kernel
theorem dX12_isDigit_38 : decode cX12_isDigit 38 = .ok (.aload_n 0, 1) := by decide +kernel
theorem dX12_isDigit_39 : decode cX12_isDigit 39 = .ok (.getfield 112, 3) := by decide +kernel
theorem dX12_isDigit_42 : decode cX12_isDigit 42 = .ok (.iadd, 1) := by decide +kernel
theorem dX12_isDigit_43 : decode cX12_isDigit 43 = .ok (.baload, 1) := by decide +kernel
theorem dX12_isDigit_44 : decode cX12_isDigit 44 = .ok (.bipush 57, 2) := by decide +kernel
theorem dX12_isDigit_46 : decode cX12_isDigit 46 = .ok (.if_icmp .gt 7, 3) := by decide +kernel
theorem dX12_isDigit_49 : decode cX12_isDigit 49 = .ok (.iconst 1, 1) := by decide +kernel
theorem dX12_isDigit_50 : decode cX12_isDigit 50 = .ok (.goto 4, 3) := by decide +kernel
theorem dX12_isDigit_53 : decode cX12_isDigit 53 = .ok (.iconst 0, 1) := by decide +kernel
theorem dX12_isDigit_54 : decode cX12_isDigit 54 = .ok (.ireturn, 1) := by decide +kernel
theorem dX12_within_0 : decode cX12_within 0 = .ok (.ldc2_w 134, 3) := by decide +kernel
theorem dX12_within_3 : decode cX12_within 3 = .ok (.ldc2_w 136, 3) := by decide +kernel
theorem dX12_within_6 : decode cX12_within 6 = .ok (.lload_n 0, 1) := by decide +kernel
theorem dX12_within_7 : decode cX12_within 7 = .ok (.invokestatic 138, 3) := by decide +kernel
theorem dX12_within_10 : decode cX12_within 10 = .ok (.invokestatic 144, 3) := by decide +kernel
theorem dX12_within_13 : decode cX12_within 13 = .ok (.l2i, 1) := by decide +kernel
theorem dX12_within_14 : decode cX12_within 14 = .ok (.ireturn, 1) := by decide +kernel
theorem dX12_atom_0 : decode cX12_atom 0 = .ok (.aload_n 0, 1) := by decide +kernel
theorem dX12_atom_1 : decode cX12_atom 1 = .ok (.invokevirtual 131, 3) := by decide +kernel
theorem dX12_atom_4 : decode cX12_atom 4 = .ok (.istore_n 1, 1) := by decide +kernel
theorem dX12_atom_5 : decode cX12_atom 5 = .ok (.ldc 32, 2) := by decide +kernel
theorem dX12_atom_7 : decode cX12_atom 7 = .ok (.iload_n 1, 1) := by decide +kernel
theorem dX12_atom_8 : decode cX12_atom 8 = .ok (.invokestatic 147, 3) := by decide +kernel
theorem dX12_atom_11 : decode cX12_atom 11 = .ok (.ifCond .eq 20, 3) := by decide +kernel
theorem dX12_atom_14 : decode cX12_atom 14 = .ok (.aload_n 0, 1) := by decide +kernel
theorem dX12_atom_15 : decode cX12_atom 15 = .ok (.dup, 1) := by decide +kernel
theorem dX12_atom_16 : decode cX12_atom 16 = .ok (.getfield 112, 3) := by decide +kernel
theorem dX12_atom_19 : decode cX12_atom 19 = .ok (.iconst 1, 1) := by decide +kernel
theorem dX12_atom_20 : decode cX12_atom 20 = .ok (.iadd, 1) := by decide +kernel
theorem dX12_atom_21 : decode cX12_atom 21 = .ok (.putfield 112, 3) := by decide +kernel
theorem dX12_atom_24 : decode cX12_atom 24 = .ok (.aload_n 0, 1) := by decide +kernel
theorem dX12_atom_25 : decode cX12_atom 25 = .ok (.getfield 20, 3) := by decide +kernel
theorem dX12_atom_28 : decode cX12_atom 28 = .ok (.iload_n 1, 1) := by decide +kernel
theorem dX12_atom_29 : decode cX12_atom 29 = .ok (.iaload, 1) := by decide +kernel
theorem dX12_atom_30 : decode cX12_atom 30 = .ok (.ireturn, 1) := by decide +kernel
theorem dX12_atom_31 : decode cX12_atom 31 = .ok (.iload_n 1, 1) := by decide +kernel
theorem dX12_atom_32 : decode cX12_atom 32 = .ok (.bipush 91, 2) := by decide +kernel
theorem dX12_atom_34 : decode cX12_atom 34 = .ok (.if_icmp .ne 40, 3) := by decide +kernel
theorem dX12_atom_37 : decode cX12_atom 37 = .ok (.aload_n 0, 1) := by decide +kernel
theorem dX12_atom_38 : decode cX12_atom 38 = .ok (.invokevirtual 151, 3) := by decide +kernel
theorem dX12_atom_41 : decode cX12_atom 41 = .ok (.ifCond .ne 5, 3) := by decide +kernel
theorem dX12_atom_44 : decode cX12_atom 44 = .ok (.iconst 0, 1) := by decide +kernel
theorem dX12_atom_45 : decode cX12_atom 45 = .ok (.ireturn, 1) := by decide +kernel
theorem dX12_atom_46 : decode cX12_atom 46 = .ok (.aload_n 0, 1) := by decide +kernel
theorem dX12_atom_47 : decode cX12_atom 47 = .ok (.invokevirtual 154, 3) := by decide +kernel
theorem dX12_atom_50 : decode cX12_atom 50 = .ok (.istore_n 2, 1) := by decide +kernel
theorem dX12_atom_51 : decode cX12_atom 51 = .ok (.aload_n 0, 1) := by decide +kernel
theorem dX12_atom_52 : decode cX12_atom 52 = .ok (.bipush 93, 2) := by decide +kernel
theorem dX12_atom_54 : decode cX12_atom 54 = .ok (.invokevirtual 157, 3) := by decide +kernel
theorem dX12_atom_57 : decode cX12_atom 57 = .ok (.ifCond .ne 5, 3) := by decide +kernel
theorem dX12_atom_60 : decode cX12_atom 60 = .ok (.iconst 0, 1) := by decide +kernel
theorem dX12_atom_61 : decode cX12_atom 61 = .ok (.ireturn, 1) := by decide +kernel
theorem dX12_atom_62 : decode cX12_atom 62 = .ok (.aload_n 0, 1) := by decide +kernel
theorem dX12_atom_63 : decode cX12_atom 63 = .ok (.dup, 1) := by decide +kernel
theorem dX12_atom_64 : decode cX12_atom 64 = .ok (.getfield 124, 3) := by decide +kernel
theorem dX12_atom_67 : decode cX12_atom 67 = .ok (.iconst 1, 1) := by decide +kernel
theorem dX12_atom_68 : decode cX12_atom 68 = .ok (.isub, 1) := by decide +kernel
theorem dX12_atom_69 : decode cX12_atom 69 = .ok (.putfield 124, 3) := by decide +kernel
theorem dX12_atom_72 : decode cX12_atom 72 = .ok (.iload_n 2, 1) := by decide +kernel
theorem dX12_atom_73 : decode cX12_atom 73 = .ok (.ireturn, 1) := by decide +kernel
theorem dX12_atom_74 : decode cX12_atom 74 = .ok (.aload_n 0, 1) := by decide +kernel
theorem dX12_atom_75 : decode cX12_atom 75 = .ok (.invokevirtual 161, 3) := by decide +kernel
theorem dX12_atom_78 : decode cX12_atom 78 = .ok (.ifCond .ne 8, 3) := by decide +kernel
theorem dX12_atom_81 : decode cX12_atom 81 = .ok (.aload_n 0, 1) := by decide +kernel
theorem dX12_atom_82 : decode cX12_atom 82 = .ok (.invokevirtual 127, 3) := by decide +kernel
theorem dX12_atom_85 : decode cX12_atom 85 = .ok (.pop, 1) := by decide +kernel
theorem dX12_atom_86 : decode cX12_atom 86 = .ok (.iconst 0, 1) := by decide +kernel
theorem dX12_atom_87 : decode cX12_atom 87 = .ok (.istore_n 2, 1) := by decide +kernel
theorem dX12_atom_88 : decode cX12_atom 88 = .ok (.iconst 0, 1) := by decide +kernel
theorem dX12_atom_89 : decode cX12_atom 89 = .ok (.istore_n 3, 1) := by decide +kernel
theorem dX12_atom_90 : decode cX12_atom 90 = .ok (.aload_n 0, 1) := by decide +kernel
theorem dX12_atom_91 : decode cX12_atom 91 = .ok (.invokevirtual 161, 3) := by decide +kernel
theorem dX12_atom_94 : decode cX12_atom 94 = .ok (.ifCond .eq 62, 3) := by decide +kernel
theorem dX12_atom_97 : decode cX12_atom 97 = .ok (.aload_n 0, 1) := by decide +kernel
theorem dX12_atom_98 : decode cX12_atom 98 = .ok (.getfield 121, 3) := by decide +kernel
theorem dX12_atom_101 : decode cX12_atom 101 = .ok (.iconst (-1), 1) := by decide +kernel
theorem dX12_atom_102 : decode cX12_atom 102 = .ok (.if_icmp .ne 54, 3) := by decide +kernel
theorem dX12_atom_105 : decode cX12_atom 105 = .ok (.iload_n 3, 1) := by decide +kernel
theorem dX12_atom_106 : decode cX12_atom 106 = .ok (.iconst 4, 1) := by decide +kernel
theorem dX12_atom_107 : decode cX12_atom 107 = .ok (.if_icmp .ne 10, 3) := by decide +kernel
theorem dX12_atom_110 : decode cX12_atom 110 = .ok (.aload_n 0, 1) := by decide +kernel
theorem dX12_atom_111 : decode cX12_atom 111 = .ok (.invokevirtual 127, 3) := by decide +kernel
theorem dX12_atom_114 : decode cX12_atom 114 = .ok (.pop, 1) := by decide +kernel
theorem dX12_atom_115 : decode cX12_atom 115 = .ok (.iconst 0, 1) := by decide +kernel
theorem dX12_atom_116 : decode cX12_atom 116 = .ok (.ireturn, 1) := by decide +kernel
theorem dX12_atom_117 : decode cX12_atom 117 = .ok (.bipush 10, 2) := by decide +kernel
theorem dX12_atom_119 : decode cX12_atom 119 = .ok (.iload_n 2, 1) := by decide +kernel
theorem dX12_atom_120 : decode cX12_atom 120 = .ok (.imul, 1) := by decide +kernel
theorem dX12_atom_121 : decode cX12_atom 121 = .ok (.aload_n 0, 1) := by decide +kernel
theorem dX12_atom_122 : decode cX12_atom 122 = .ok (.getfield 23, 3) := by decide +kernel
theorem dX12_atom_125 : decode cX12_atom 125 = .ok (.aload_n 0, 1) := by decide +kernel
theorem dX12_atom_126 : decode cX12_atom 126 = .ok (.getfield 118, 3) := by decide +kernel
theorem dX12_atom_129 : decode cX12_atom 129 = .ok (.aload_n 0, 1) := by decide +kernel
theorem dX12_atom_130 : decode cX12_atom 130 = .ok (.getfield 112, 3) := by decide +kernel
theorem dX12_atom_133 : decode cX12_atom 133 = .ok (.iadd, 1) := by decide +kernel
theorem dX12_atom_134 : decode cX12_atom 134 = .ok (.baload, 1) := by decide +kernel
theorem dX12_atom_135 : decode cX12_atom 135 = .ok (.iadd, 1) := by decide +kernel
theorem dX12_atom_136 : decode cX12_atom 136 = .ok (.bipush 48, 2) := by decide +kernel
theorem dX12_atom_138 : decode cX12_atom 138 = .ok (.isub, 1) := by decide +kernel
theorem dX12_atom_139 : decode cX12_atom 139 = .ok (.istore_n 2, 1) := by decide +kernel
theorem dX12_atom_140 : decode cX12_atom 140 = .ok (.aload_n 0, 1) := by decide +kernel
theorem dX12_atom_141 : decode cX12_atom 141 = .ok (.dup, 1) := by decide +kernel
theorem dX12_atom_142 : decode cX12_atom 142 = .ok (.getfield 112, 3) := by decide +kernel
theorem dX12_atom_145 : decode cX12_atom 145 = .ok (.iconst 1, 1) := by decide +kernel
theorem dX12_atom_146 : decode cX12_atom 146 = .ok (.iadd, 1) := by decide +kernel
theorem dX12_atom_147 : decode cX12_atom 147 = .ok (.putfield 112, 3) := by decide +kernel
theorem dX12_atom_150 : decode cX12_atom 150 = .ok (.iinc 3 1, 3) := by decide +kernel
theorem dX12_atom_153 : decode cX12_atom 153 = .ok (.goto (-63), 3) := by decide +kernel
theorem dX12_atom_156 : decode cX12_atom 156 = .ok (.iload_n 2, 1) := by decide +kernel
theorem dX12_atom_157 : decode cX12_atom 157 = .ok (.ireturn, 1) := by decide +kernel
theorem dX12_term_0 : decode cX12_term 0 = .ok (.aload_n 0, 1) := by decide +kernel
theorem dX12_term_1 : decode cX12_term 1 = .ok (.invokevirtual 164, 3) := by decide +kernel
theorem dX12_term_4 : decode cX12_term 4 = .ok (.istore_n 1, 1) := by decide +kernel
theorem dX12_term_5 : decode cX12_term 5 = .ok (.aload_n 0, 1) := by decide +kernel
theorem dX12_term_6 : decode cX12_term 6 = .ok (.getfield 121, 3) := by decide +kernel
theorem dX12_term_9 : decode cX12_term 9 = .ok (.iconst (-1), 1) := by decide +kernel
theorem dX12_term_10 : decode cX12_term 10 = .ok (.if_icmp .ne 84, 3) := by decide +kernel
theorem dX12_term_13 : decode cX12_term 13 = .ok (.aload_n 0, 1) := by decide +kernel
theorem dX12_term_14 : decode cX12_term 14 = .ok (.invokevirtual 131, 3) := by decide +kernel
theorem dX12_term_17 : decode cX12_term 17 = .ok (.bipush 42, 2) := by decide +kernel
theorem dX12_term_19 : decode cX12_term 19 = .ok (.if_icmp .eq 12, 3) := by decide +kernel
theorem dX12_term_22 : decode cX12_term 22 = .ok (.aload_n 0, 1) := by decide +kernel
theorem dX12_term_23 : decode cX12_term 23 = .ok (.invokevirtual 131, 3) := by decide +kernel
theorem dX12_term_26 : decode cX12_term 26 = .ok (.bipush 47, 2) := by decide +kernel
theorem dX12_term_28 : decode cX12_term 28 = .ok (.if_icmp .ne 66, 3) := by decide +kernel
theorem dX12_term_31 : decode cX12_term 31 = .ok (.aload_n 0, 1) := by decide +kernel
theorem dX12_term_32 : decode cX12_term 32 = .ok (.invokevirtual 131, 3) := by decide +kernel
theorem dX12_term_35 : decode cX12_term 35 = .ok (.bipush 42, 2) := by decide +kernel
theorem dX12_term_37 : decode cX12_term 37 = .ok (.if_icmp .ne 7, 3) := by decide +kernel
theorem dX12_term_40 : decode cX12_term 40 = .ok (.iconst 1, 1) := by decide +kernel
theorem dX12_term_41 : decode cX12_term 41 = .ok (.goto 4, 3) := by decide +kernel
theorem dX12_term_44 : decode cX12_term 44 = .ok (.iconst 0, 1) := by decide +kernel
theorem dX12_term_45 : decode cX12_term 45 = .ok (.istore_n 2, 1) := by decide +kernel
theorem dX12_term_46 : decode cX12_term 46 = .ok (.aload_n 0, 1) := by decide +kernel
theorem dX12_term_47 : decode cX12_term 47 = .ok (.dup, 1) := by decide +kernel
theorem dX12_term_48 : decode cX12_term 48 = .ok (.getfield 112, 3) := by decide +kernel
theorem dX12_term_51 : decode cX12_term 51 = .ok (.iconst 1, 1) := by decide +kernel
theorem dX12_term_52 : decode cX12_term 52 = .ok (.iadd, 1) := by decide +kernel
theorem dX12_term_53 : decode cX12_term 53 = .ok (.putfield 112, 3) := by decide +kernel
theorem dX12_term_56 : decode cX12_term 56 = .ok (.aload_n 0, 1) := by decide +kernel
theorem dX12_term_57 : decode cX12_term 57 = .ok (.invokevirtual 164, 3) := by decide +kernel
theorem dX12_term_60 : decode cX12_term 60 = .ok (.i2l, 1) := by decide +kernel
theorem dX12_term_61 : decode cX12_term 61 = .ok (.lstore_n 3, 1) := by decide +kernel
theorem dX12_term_62 : decode cX12_term 62 = .ok (.iload_n 2, 1) := by decide +kernel
theorem dX12_term_63 : decode cX12_term 63 = .ok (.ifCond .eq 10, 3) := by decide +kernel
theorem dX12_term_66 : decode cX12_term 66 = .ok (.iload_n 1, 1) := by decide +kernel
theorem dX12_term_67 : decode cX12_term 67 = .ok (.i2l, 1) := by decide +kernel
theorem dX12_term_68 : decode cX12_term 68 = .ok (.lload_n 3, 1) := by decide +kernel
theorem dX12_term_69 : decode cX12_term 69 = .ok (.lmul, 1) := by decide +kernel
theorem dX12_term_70 : decode cX12_term 70 = .ok (.goto 17, 3) := by decide +kernel
theorem dX12_term_73 : decode cX12_term 73 = .ok (.lload_n 3, 1) := by decide +kernel
theorem dX12_term_74 : decode cX12_term 74 = .ok (.lconst 0, 1) := by decide +kernel
theorem dX12_term_75 : decode cX12_term 75 = .ok (.lcmp, 1) := by decide +kernel
theorem dX12_term_76 : decode cX12_term 76 = .ok (.ifCond .ne 7, 3) := by decide +kernel
theorem dX12_term_79 : decode cX12_term 79 = .ok (.lconst 0, 1) := by decide +kernel
theorem dX12_term_80 : decode cX12_term 80 = .ok (.goto 7, 3) := by decide +kernel
theorem dX12_term_83 : decode cX12_term 83 = .ok (.iload_n 1, 1) := by decide +kernel
theorem dX12_term_84 : decode cX12_term 84 = .ok (.i2l, 1) := by decide +kernel
theorem dX12_term_85 : decode cX12_term 85 = .ok (.lload_n 3, 1) := by decide +kernel
theorem dX12_term_86 : decode cX12_term 86 = .ok (.ldiv, 1) := by decide +kernel
theorem dX12_term_87 : decode cX12_term 87 = .ok (.invokestatic 167, 3) := by decide +kernel
theorem dX12_term_90 : decode cX12_term 90 = .ok (.istore_n 1, 1) := by decide +kernel
theorem dX12_term_91 : decode cX12_term 91 = .ok (.goto (-86), 3) := by decide +kernel
theorem dX12_term_94 : decode cX12_term 94 = .ok (.iload_n 1, 1) := by decide +kernel
theorem dX12_term_95 : decode cX12_term 95 = .ok (.ireturn, 1) := by decide +kernel
theorem dX12_sum_0 : decode cX12_sum 0 = .ok (.aload_n 0, 1) := by decide +kernel
theorem dX12_sum_1 : decode cX12_sum 1 = .ok (.invokevirtual 171, 3) := by decide +kernel
theorem dX12_sum_4 : decode cX12_sum 4 = .ok (.istore_n 1, 1) := by decide +kernel
theorem dX12_sum_5 : decode cX12_sum 5 = .ok (.aload_n 0, 1) := by decide +kernel
theorem dX12_sum_6 : decode cX12_sum 6 = .ok (.getfield 121, 3) := by decide +kernel
theorem dX12_sum_9 : decode cX12_sum 9 = .ok (.iconst (-1), 1) := by decide +kernel
theorem dX12_sum_10 : decode cX12_sum 10 = .ok (.if_icmp .ne 74, 3) := by decide +kernel
theorem dX12_sum_13 : decode cX12_sum 13 = .ok (.aload_n 0, 1) := by decide +kernel
theorem dX12_sum_14 : decode cX12_sum 14 = .ok (.invokevirtual 131, 3) := by decide +kernel
theorem dX12_sum_17 : decode cX12_sum 17 = .ok (.bipush 43, 2) := by decide +kernel
theorem dX12_sum_19 : decode cX12_sum 19 = .ok (.if_icmp .eq 12, 3) := by decide +kernel
theorem dX12_sum_22 : decode cX12_sum 22 = .ok (.aload_n 0, 1) := by decide +kernel
theorem dX12_sum_23 : decode cX12_sum 23 = .ok (.invokevirtual 131, 3) := by decide +kernel
theorem dX12_sum_26 : decode cX12_sum 26 = .ok (.bipush 45, 2) := by decide +kernel
theorem dX12_sum_28 : decode cX12_sum 28 = .ok (.if_icmp .ne 56, 3) := by decide +kernel
theorem dX12_sum_31 : decode cX12_sum 31 = .ok (.aload_n 0, 1) := by decide +kernel
theorem dX12_sum_32 : decode cX12_sum 32 = .ok (.invokevirtual 131, 3) := by decide +kernel
theorem dX12_sum_35 : decode cX12_sum 35 = .ok (.bipush 43, 2) := by decide +kernel
theorem dX12_sum_37 : decode cX12_sum 37 = .ok (.if_icmp .ne 7, 3) := by decide +kernel
theorem dX12_sum_40 : decode cX12_sum 40 = .ok (.iconst 1, 1) := by decide +kernel
theorem dX12_sum_41 : decode cX12_sum 41 = .ok (.goto 4, 3) := by decide +kernel
theorem dX12_sum_44 : decode cX12_sum 44 = .ok (.iconst 0, 1) := by decide +kernel
theorem dX12_sum_45 : decode cX12_sum 45 = .ok (.istore_n 2, 1) := by decide +kernel
theorem dX12_sum_46 : decode cX12_sum 46 = .ok (.aload_n 0, 1) := by decide +kernel
theorem dX12_sum_47 : decode cX12_sum 47 = .ok (.dup, 1) := by decide +kernel
theorem dX12_sum_48 : decode cX12_sum 48 = .ok (.getfield 112, 3) := by decide +kernel
theorem dX12_sum_51 : decode cX12_sum 51 = .ok (.iconst 1, 1) := by decide +kernel
theorem dX12_sum_52 : decode cX12_sum 52 = .ok (.iadd, 1) := by decide +kernel
theorem dX12_sum_53 : decode cX12_sum 53 = .ok (.putfield 112, 3) := by decide +kernel
theorem dX12_sum_56 : decode cX12_sum 56 = .ok (.aload_n 0, 1) := by decide +kernel
theorem dX12_sum_57 : decode cX12_sum 57 = .ok (.invokevirtual 171, 3) := by decide +kernel
theorem dX12_sum_60 : decode cX12_sum 60 = .ok (.i2l, 1) := by decide +kernel
theorem dX12_sum_61 : decode cX12_sum 61 = .ok (.lstore_n 3, 1) := by decide +kernel
theorem dX12_sum_62 : decode cX12_sum 62 = .ok (.iload_n 2, 1) := by decide +kernel
theorem dX12_sum_63 : decode cX12_sum 63 = .ok (.ifCond .eq 10, 3) := by decide +kernel
theorem dX12_sum_66 : decode cX12_sum 66 = .ok (.iload_n 1, 1) := by decide +kernel
theorem dX12_sum_67 : decode cX12_sum 67 = .ok (.i2l, 1) := by decide +kernel
theorem dX12_sum_68 : decode cX12_sum 68 = .ok (.lload_n 3, 1) := by decide +kernel
theorem dX12_sum_69 : decode cX12_sum 69 = .ok (.ladd, 1) := by decide +kernel
theorem dX12_sum_70 : decode cX12_sum 70 = .ok (.goto 7, 3) := by decide +kernel
theorem dX12_sum_73 : decode cX12_sum 73 = .ok (.iload_n 1, 1) := by decide +kernel
theorem dX12_sum_74 : decode cX12_sum 74 = .ok (.i2l, 1) := by decide +kernel
theorem dX12_sum_75 : decode cX12_sum 75 = .ok (.lload_n 3, 1) := by decide +kernel
theorem dX12_sum_76 : decode cX12_sum 76 = .ok (.lsub, 1) := by decide +kernel
theorem dX12_sum_77 : decode cX12_sum 77 = .ok (.invokestatic 167, 3) := by decide +kernel
theorem dX12_sum_80 : decode cX12_sum 80 = .ok (.istore_n 1, 1) := by decide +kernel
theorem dX12_sum_81 : decode cX12_sum 81 = .ok (.goto (-76), 3) := by decide +kernel
theorem dX12_sum_84 : decode cX12_sum 84 = .ok (.iload_n 1, 1) := by decide +kernel
theorem dX12_sum_85 : decode cX12_sum 85 = .ok (.ireturn, 1) := by decide +kernel
theorem dX12_isSign_0 : decode cX12_isSign 0 = .ok (.iload_n 0, 1) := by decide +kernel
theorem dX12_isSign_1 : decode cX12_isSign 1 = .ok (.bipush 61, 2) := by decide +kernel
theorem dX12_isSign_3 : decode cX12_isSign 3 = .ok (.if_icmp .eq 15, 3) := by decide +kernel
theorem dX12_isSign_6 : decode cX12_isSign 6 = .ok (.iload_n 0, 1) := by decide +kernel
theorem dX12_isSign_7 : decode cX12_isSign 7 = .ok (.bipush 60, 2) := by decide +kernel
theorem dX12_isSign_9 : decode cX12_isSign 9 = .ok (.if_icmp .eq 9, 3) := by decide +kernel
theorem dX12_isSign_12 : decode cX12_isSign 12 = .ok (.iload_n 0, 1) := by decide +kernel
theorem dX12_isSign_13 : decode cX12_isSign 13 = .ok (.bipush 62, 2) := by decide +kernel
theorem dX12_isSign_15 : decode cX12_isSign 15 = .ok (.if_icmp .ne 7, 3) := by decide +kernel
theorem dX12_isSign_18 : decode cX12_isSign 18 = .ok (.iconst 1, 1) := by decide +kernel
theorem dX12_isSign_19 : decode cX12_isSign 19 = .ok (.goto 4, 3) := by decide +kernel
theorem dX12_isSign_22 : decode cX12_isSign 22 = .ok (.iconst 0, 1) := by decide +kernel
theorem dX12_isSign_23 : decode cX12_isSign 23 = .ok (.ireturn, 1) := by decide +kernel
theorem dX12_compares_0 : decode cX12_compares 0 = .ok (.iload_n 1, 1) := by decide +kernel
theorem dX12_compares_1 : decode cX12_compares 1 = .ok (.ifCond .eq 7, 3) := by decide +kernel
theorem dX12_compares_4 : decode cX12_compares 4 = .ok (.iload_n 2, 1) := by decide +kernel
theorem dX12_compares_5 : decode cX12_compares 5 = .ok (.goto 7, 3) := by decide +kernel
theorem dX12_compares_8 : decode cX12_compares 8 = .ok (.aload_n 0, 1) := by decide +kernel
theorem dX12_compares_9 : decode cX12_compares 9 = .ok (.invokevirtual 154, 3) := by decide +kernel
theorem dX12_compares_12 : decode cX12_compares 12 = .ok (.istore_n 3, 1) := by decide +kernel
theorem dX12_compares_13 : decode cX12_compares 13 = .ok (.aload_n 0, 1) := by decide +kernel
theorem dX12_compares_14 : decode cX12_compares 14 = .ok (.getfield 121, 3) := by decide +kernel
theorem dX12_compares_17 : decode cX12_compares 17 = .ok (.iconst (-1), 1) := by decide +kernel
theorem dX12_compares_18 : decode cX12_compares 18 = .ok (.if_icmp .eq 5, 3) := by decide +kernel
theorem dX12_compares_21 : decode cX12_compares 21 = .ok (.iconst 0, 1) := by decide +kernel
theorem dX12_compares_22 : decode cX12_compares 22 = .ok (.ireturn, 1) := by decide +kernel
theorem dX12_compares_23 : decode cX12_compares 23 = .ok (.aload_n 0, 1) := by decide +kernel
theorem dX12_compares_24 : decode cX12_compares 24 = .ok (.invokevirtual 131, 3) := by decide +kernel
theorem dX12_compares_27 : decode cX12_compares 27 = .ok (.istore 4, 2) := by decide +kernel
theorem dX12_compares_29 : decode cX12_compares 29 = .ok (.iload 4, 2) := by decide +kernel
theorem dX12_compares_31 : decode cX12_compares 31 = .ok (.invokestatic 174, 3) := by decide +kernel
theorem dX12_compares_34 : decode cX12_compares 34 = .ok (.ifCond .ne 8, 3) := by decide +kernel
theorem dX12_compares_37 : decode cX12_compares 37 = .ok (.aload_n 0, 1) := by decide +kernel
theorem dX12_compares_38 : decode cX12_compares 38 = .ok (.invokevirtual 127, 3) := by decide +kernel
theorem dX12_compares_41 : decode cX12_compares 41 = .ok (.ireturn, 1) := by decide +kernel
theorem dX12_compares_42 : decode cX12_compares 42 = .ok (.aload_n 0, 1) := by decide +kernel
theorem dX12_compares_43 : decode cX12_compares 43 = .ok (.dup, 1) := by decide +kernel
theorem dX12_compares_44 : decode cX12_compares 44 = .ok (.getfield 112, 3) := by decide +kernel
theorem dX12_compares_47 : decode cX12_compares 47 = .ok (.iconst 1, 1) := by decide +kernel
theorem dX12_compares_48 : decode cX12_compares 48 = .ok (.iadd, 1) := by decide +kernel
theorem dX12_compares_49 : decode cX12_compares 49 = .ok (.putfield 112, 3) := by decide +kernel
theorem dX12_compares_52 : decode cX12_compares 52 = .ok (.aload_n 0, 1) := by decide +kernel
theorem dX12_compares_53 : decode cX12_compares 53 = .ok (.invokevirtual 154, 3) := by decide +kernel
theorem dX12_compares_56 : decode cX12_compares 56 = .ok (.istore 5, 2) := by decide +kernel
theorem dX12_compares_58 : decode cX12_compares 58 = .ok (.iload 4, 2) := by decide +kernel
theorem dX12_compares_60 : decode cX12_compares 60 = .ok (.bipush 61, 2) := by decide +kernel
theorem dX12_compares_62 : decode cX12_compares 62 = .ok (.if_icmp .ne 17, 3) := by decide +kernel
theorem dX12_compares_65 : decode cX12_compares 65 = .ok (.iload_n 3, 1) := by decide +kernel
theorem dX12_compares_66 : decode cX12_compares 66 = .ok (.iload 5, 2) := by decide +kernel
theorem dX12_compares_68 : decode cX12_compares 68 = .ok (.if_icmp .ne 7, 3) := by decide +kernel
theorem dX12_compares_71 : decode cX12_compares 71 = .ok (.iconst 1, 1) := by decide +kernel
theorem dX12_compares_72 : decode cX12_compares 72 = .ok (.goto 39, 3) := by decide +kernel
theorem dX12_compares_75 : decode cX12_compares 75 = .ok (.iconst 0, 1) := by decide +kernel
theorem dX12_compares_76 : decode cX12_compares 76 = .ok (.goto 35, 3) := by decide +kernel
theorem dX12_compares_79 : decode cX12_compares 79 = .ok (.iload 4, 2) := by decide +kernel
theorem dX12_compares_81 : decode cX12_compares 81 = .ok (.bipush 60, 2) := by decide +kernel
theorem dX12_compares_83 : decode cX12_compares 83 = .ok (.if_icmp .ne 17, 3) := by decide +kernel
theorem dX12_compares_86 : decode cX12_compares 86 = .ok (.iload_n 3, 1) := by decide +kernel
theorem dX12_compares_87 : decode cX12_compares 87 = .ok (.iload 5, 2) := by decide +kernel
theorem dX12_compares_89 : decode cX12_compares 89 = .ok (.if_icmp .ge 7, 3) := by decide +kernel
theorem dX12_compares_92 : decode cX12_compares 92 = .ok (.iconst 1, 1) := by decide +kernel
theorem dX12_compares_93 : decode cX12_compares 93 = .ok (.goto 18, 3) := by decide +kernel
theorem dX12_compares_96 : decode cX12_compares 96 = .ok (.iconst 0, 1) := by decide +kernel
theorem dX12_compares_97 : decode cX12_compares 97 = .ok (.goto 14, 3) := by decide +kernel
theorem dX12_compares_100 : decode cX12_compares 100 = .ok (.iload_n 3, 1) := by decide +kernel
theorem dX12_compares_101 : decode cX12_compares 101 = .ok (.iload 5, 2) := by decide +kernel
theorem dX12_compares_103 : decode cX12_compares 103 = .ok (.if_icmp .le 7, 3) := by decide +kernel
theorem dX12_compares_106 : decode cX12_compares 106 = .ok (.iconst 1, 1) := by decide +kernel
theorem dX12_compares_107 : decode cX12_compares 107 = .ok (.goto 4, 3) := by decide +kernel
theorem dX12_compares_110 : decode cX12_compares 110 = .ok (.iconst 0, 1) := by decide +kernel
theorem dX12_compares_111 : decode cX12_compares 111 = .ok (.ireturn, 1) := by decide +kernel
theorem dX12_unit_0 : decode cX12_unit 0 = .ok (.aload_n 0, 1) := by decide +kernel
theorem dX12_unit_1 : decode cX12_unit 1 = .ok (.invokevirtual 131, 3) := by decide +kernel
theorem dX12_unit_4 : decode cX12_unit 4 = .ok (.istore_n 1, 1) := by decide +kernel
theorem dX12_unit_5 : decode cX12_unit 5 = .ok (.iload_n 1, 1) := by decide +kernel
theorem dX12_unit_6 : decode cX12_unit 6 = .ok (.bipush 33, 2) := by decide +kernel
theorem dX12_unit_8 : decode cX12_unit 8 = .ok (.if_icmp .ne 37, 3) := by decide +kernel
theorem dX12_unit_11 : decode cX12_unit 11 = .ok (.aload_n 0, 1) := by decide +kernel
theorem dX12_unit_12 : decode cX12_unit 12 = .ok (.invokevirtual 151, 3) := by decide +kernel
theorem dX12_unit_15 : decode cX12_unit 15 = .ok (.ifCond .ne 5, 3) := by decide +kernel
theorem dX12_unit_18 : decode cX12_unit 18 = .ok (.iconst 0, 1) := by decide +kernel
theorem dX12_unit_19 : decode cX12_unit 19 = .ok (.ireturn, 1) := by decide +kernel
theorem dX12_unit_20 : decode cX12_unit 20 = .ok (.aload_n 0, 1) := by decide +kernel
theorem dX12_unit_21 : decode cX12_unit 21 = .ok (.invokevirtual 177, 3) := by decide +kernel
theorem dX12_unit_24 : decode cX12_unit 24 = .ok (.istore_n 2, 1) := by decide +kernel
theorem dX12_unit_25 : decode cX12_unit 25 = .ok (.aload_n 0, 1) := by decide +kernel
theorem dX12_unit_26 : decode cX12_unit 26 = .ok (.dup, 1) := by decide +kernel
theorem dX12_unit_27 : decode cX12_unit 27 = .ok (.getfield 124, 3) := by decide +kernel
theorem dX12_unit_30 : decode cX12_unit 30 = .ok (.iconst 1, 1) := by decide +kernel
theorem dX12_unit_31 : decode cX12_unit 31 = .ok (.isub, 1) := by decide +kernel
theorem dX12_unit_32 : decode cX12_unit 32 = .ok (.putfield 124, 3) := by decide +kernel
theorem dX12_unit_35 : decode cX12_unit 35 = .ok (.iload_n 2, 1) := by decide +kernel
theorem dX12_unit_36 : decode cX12_unit 36 = .ok (.ifCond .ne 7, 3) := by decide +kernel
theorem dX12_unit_39 : decode cX12_unit 39 = .ok (.iconst 1, 1) := by decide +kernel
theorem dX12_unit_40 : decode cX12_unit 40 = .ok (.goto 4, 3) := by decide +kernel
theorem dX12_unit_43 : decode cX12_unit 43 = .ok (.iconst 0, 1) := by decide +kernel
theorem dX12_unit_44 : decode cX12_unit 44 = .ok (.ireturn, 1) := by decide +kernel
theorem dX12_unit_45 : decode cX12_unit 45 = .ok (.iload_n 1, 1) := by decide +kernel
theorem dX12_unit_46 : decode cX12_unit 46 = .ok (.bipush 40, 2) := by decide +kernel
theorem dX12_unit_48 : decode cX12_unit 48 = .ok (.if_icmp .ne 42, 3) := by decide +kernel
theorem dX12_unit_51 : decode cX12_unit 51 = .ok (.aload_n 0, 1) := by decide +kernel
theorem dX12_unit_52 : decode cX12_unit 52 = .ok (.invokevirtual 151, 3) := by decide +kernel
theorem dX12_unit_55 : decode cX12_unit 55 = .ok (.ifCond .ne 5, 3) := by decide +kernel
theorem dX12_unit_58 : decode cX12_unit 58 = .ok (.iconst 0, 1) := by decide +kernel
theorem dX12_unit_59 : decode cX12_unit 59 = .ok (.ireturn, 1) := by decide +kernel
theorem dX12_unit_60 : decode cX12_unit 60 = .ok (.aload_n 0, 1) := by decide +kernel
theorem dX12_unit_61 : decode cX12_unit 61 = .ok (.iconst 0, 1) := by decide +kernel
theorem dX12_unit_62 : decode cX12_unit 62 = .ok (.iconst 0, 1) := by decide +kernel
theorem dX12_unit_63 : decode cX12_unit 63 = .ok (.invokevirtual 180, 3) := by decide +kernel
theorem dX12_unit_66 : decode cX12_unit 66 = .ok (.istore_n 2, 1) := by decide +kernel
theorem dX12_unit_67 : decode cX12_unit 67 = .ok (.aload_n 0, 1) := by decide +kernel
theorem dX12_unit_68 : decode cX12_unit 68 = .ok (.bipush 41, 2) := by decide +kernel
theorem dX12_unit_70 : decode cX12_unit 70 = .ok (.invokevirtual 157, 3) := by decide +kernel
theorem dX12_unit_73 : decode cX12_unit 73 = .ok (.ifCond .ne 5, 3) := by decide +kernel
theorem dX12_unit_76 : decode cX12_unit 76 = .ok (.iconst 0, 1) := by decide +kernel
theorem dX12_unit_77 : decode cX12_unit 77 = .ok (.ireturn, 1) := by decide +kernel
theorem dX12_unit_78 : decode cX12_unit 78 = .ok (.aload_n 0, 1) := by decide +kernel
theorem dX12_unit_79 : decode cX12_unit 79 = .ok (.dup, 1) := by decide +kernel
theorem dX12_unit_80 : decode cX12_unit 80 = .ok (.getfield 124, 3) := by decide +kernel
theorem dX12_unit_83 : decode cX12_unit 83 = .ok (.iconst 1, 1) := by decide +kernel
theorem dX12_unit_84 : decode cX12_unit 84 = .ok (.isub, 1) := by decide +kernel
theorem dX12_unit_85 : decode cX12_unit 85 = .ok (.putfield 124, 3) := by decide +kernel
theorem dX12_unit_88 : decode cX12_unit 88 = .ok (.iload_n 2, 1) := by decide +kernel
theorem dX12_unit_89 : decode cX12_unit 89 = .ok (.ireturn, 1) := by decide +kernel
theorem dX12_unit_90 : decode cX12_unit 90 = .ok (.aload_n 0, 1) := by decide +kernel
theorem dX12_unit_91 : decode cX12_unit 91 = .ok (.iconst 0, 1) := by decide +kernel
theorem dX12_unit_92 : decode cX12_unit 92 = .ok (.iconst 0, 1) := by decide +kernel
theorem dX12_unit_93 : decode cX12_unit 93 = .ok (.invokevirtual 184, 3) := by decide +kernel
theorem dX12_unit_96 : decode cX12_unit 96 = .ok (.ireturn, 1) := by decide +kernel
theorem dX12_part_0 : decode cX12_part 0 = .ok (.iload_n 1, 1) := by decide +kernel
theorem dX12_part_1 : decode cX12_part 1 = .ok (.ifCond .eq 12, 3) := by decide +kernel
theorem dX12_part_4 : decode cX12_part 4 = .ok (.aload_n 0, 1) := by decide +kernel
theorem dX12_part_5 : decode cX12_part 5 = .ok (.iconst 1, 1) := by decide +kernel
theorem dX12_part_6 : decode cX12_part 6 = .ok (.iload_n 2, 1) := by decide +kernel
theorem dX12_part_7 : decode cX12_part 7 = .ok (.invokevirtual 184, 3) := by decide +kernel
theorem dX12_part_10 : decode cX12_part 10 = .ok (.goto 7, 3) := by decide +kernel
theorem dX12_part_13 : decode cX12_part 13 = .ok (.aload_n 0, 1) := by decide +kernel
theorem dX12_part_14 : decode cX12_part 14 = .ok (.invokevirtual 177, 3) := by decide +kernel
theorem dX12_part_17 : decode cX12_part 17 = .ok (.istore_n 3, 1) := by decide +kernel
theorem dX12_part_18 : decode cX12_part 18 = .ok (.aload_n 0, 1) := by decide +kernel
theorem dX12_part_19 : decode cX12_part 19 = .ok (.getfield 121, 3) := by decide +kernel
theorem dX12_part_22 : decode cX12_part 22 = .ok (.iconst (-1), 1) := by decide +kernel
theorem dX12_part_23 : decode cX12_part 23 = .ok (.if_icmp .ne 46, 3) := by decide +kernel
theorem dX12_part_26 : decode cX12_part 26 = .ok (.aload_n 0, 1) := by decide +kernel
theorem dX12_part_27 : decode cX12_part 27 = .ok (.invokevirtual 131, 3) := by decide +kernel
theorem dX12_part_30 : decode cX12_part 30 = .ok (.bipush 38, 2) := by decide +kernel
theorem dX12_part_32 : decode cX12_part 32 = .ok (.if_icmp .ne 37, 3) := by decide +kernel
theorem dX12_part_35 : decode cX12_part 35 = .ok (.aload_n 0, 1) := by decide +kernel
theorem dX12_part_36 : decode cX12_part 36 = .ok (.dup, 1) := by decide +kernel
theorem dX12_part_37 : decode cX12_part 37 = .ok (.getfield 112, 3) := by decide +kernel
theorem dX12_part_40 : decode cX12_part 40 = .ok (.iconst 1, 1) := by decide +kernel
theorem dX12_part_41 : decode cX12_part 41 = .ok (.iadd, 1) := by decide +kernel
theorem dX12_part_42 : decode cX12_part 42 = .ok (.putfield 112, 3) := by decide +kernel
theorem dX12_part_45 : decode cX12_part 45 = .ok (.aload_n 0, 1) := by decide +kernel
theorem dX12_part_46 : decode cX12_part 46 = .ok (.invokevirtual 177, 3) := by decide +kernel
theorem dX12_part_49 : decode cX12_part 49 = .ok (.istore 4, 2) := by decide +kernel
theorem dX12_part_51 : decode cX12_part 51 = .ok (.iload_n 3, 1) := by decide +kernel
theorem dX12_part_52 : decode cX12_part 52 = .ok (.ifCond .eq 12, 3) := by decide +kernel
theorem dX12_part_55 : decode cX12_part 55 = .ok (.iload 4, 2) := by decide +kernel
theorem dX12_part_57 : decode cX12_part 57 = .ok (.ifCond .eq 7, 3) := by decide +kernel
theorem dX12_part_60 : decode cX12_part 60 = .ok (.iconst 1, 1) := by decide +kernel
theorem dX12_part_61 : decode cX12_part 61 = .ok (.goto 4, 3) := by decide +kernel
theorem dX12_part_64 : decode cX12_part 64 = .ok (.iconst 0, 1) := by decide +kernel
theorem dX12_part_65 : decode cX12_part 65 = .ok (.istore_n 3, 1) := by decide +kernel
theorem dX12_part_66 : decode cX12_part 66 = .ok (.goto (-48), 3) := by decide +kernel
theorem dX12_part_69 : decode cX12_part 69 = .ok (.iload_n 3, 1) := by decide +kernel
theorem dX12_part_70 : decode cX12_part 70 = .ok (.ireturn, 1) := by decide +kernel
theorem dX12_condition_0 : decode cX12_condition 0 = .ok (.aload_n 0, 1) := by decide +kernel
theorem dX12_condition_1 : decode cX12_condition 1 = .ok (.iload_n 1, 1) := by decide +kernel
theorem dX12_condition_2 : decode cX12_condition 2 = .ok (.iload_n 2, 1) := by decide +kernel
theorem dX12_condition_3 : decode cX12_condition 3 = .ok (.invokevirtual 187, 3) := by decide +kernel
theorem dX12_condition_6 : decode cX12_condition 6 = .ok (.istore_n 3, 1) := by decide +kernel
theorem dX12_condition_7 : decode cX12_condition 7 = .ok (.aload_n 0, 1) := by decide +kernel
theorem dX12_condition_8 : decode cX12_condition 8 = .ok (.getfield 121, 3) := by decide +kernel
theorem dX12_condition_11 : decode cX12_condition 11 = .ok (.iconst (-1), 1) := by decide +kernel
theorem dX12_condition_12 : decode cX12_condition 12 = .ok (.if_icmp .ne 48, 3) := by decide +kernel
theorem dX12_condition_15 : decode cX12_condition 15 = .ok (.aload_n 0, 1) := by decide +kernel
theorem dX12_condition_16 : decode cX12_condition 16 = .ok (.invokevirtual 131, 3) := by decide +kernel
theorem dX12_condition_19 : decode cX12_condition 19 = .ok (.bipush 124, 2) := by decide +kernel
theorem dX12_condition_21 : decode cX12_condition 21 = .ok (.if_icmp .ne 39, 3) := by decide +kernel
theorem dX12_condition_24 : decode cX12_condition 24 = .ok (.aload_n 0, 1) := by decide +kernel
theorem dX12_condition_25 : decode cX12_condition 25 = .ok (.dup, 1) := by decide +kernel
theorem dX12_condition_26 : decode cX12_condition 26 = .ok (.getfield 112, 3) := by decide +kernel
theorem dX12_condition_29 : decode cX12_condition 29 = .ok (.iconst 1, 1) := by decide +kernel
theorem dX12_condition_30 : decode cX12_condition 30 = .ok (.iadd, 1) := by decide +kernel
theorem dX12_condition_31 : decode cX12_condition 31 = .ok (.putfield 112, 3) := by decide +kernel
theorem dX12_condition_34 : decode cX12_condition 34 = .ok (.aload_n 0, 1) := by decide +kernel
theorem dX12_condition_35 : decode cX12_condition 35 = .ok (.iconst 0, 1) := by decide +kernel
theorem dX12_condition_36 : decode cX12_condition 36 = .ok (.iconst 0, 1) := by decide +kernel
theorem dX12_condition_37 : decode cX12_condition 37 = .ok (.invokevirtual 187, 3) := by decide +kernel
theorem dX12_condition_40 : decode cX12_condition 40 = .ok (.istore 4, 2) := by decide +kernel
theorem dX12_condition_42 : decode cX12_condition 42 = .ok (.iload_n 3, 1) := by decide +kernel
theorem dX12_condition_43 : decode cX12_condition 43 = .ok (.ifCond .ne 8, 3) := by decide +kernel
theorem dX12_condition_46 : decode cX12_condition 46 = .ok (.iload 4, 2) := by decide +kernel
theorem dX12_condition_48 : decode cX12_condition 48 = .ok (.ifCond .eq 7, 3) := by decide +kernel
theorem dX12_condition_51 : decode cX12_condition 51 = .ok (.iconst 1, 1) := by decide +kernel
theorem dX12_condition_52 : decode cX12_condition 52 = .ok (.goto 4, 3) := by decide +kernel
theorem dX12_condition_55 : decode cX12_condition 55 = .ok (.iconst 0, 1) := by decide +kernel
theorem dX12_condition_56 : decode cX12_condition 56 = .ok (.istore_n 3, 1) := by decide +kernel
theorem dX12_condition_57 : decode cX12_condition 57 = .ok (.goto (-50), 3) := by decide +kernel
theorem dX12_condition_60 : decode cX12_condition 60 = .ok (.iload_n 3, 1) := by decide +kernel
theorem dX12_condition_61 : decode cX12_condition 61 = .ok (.ireturn, 1) := by decide +kernel
theorem dX12_clause_0 : decode cX12_clause 0 = .ok (.aload_n 0, 1) := by decide +kernel
theorem dX12_clause_1 : decode cX12_clause 1 = .ok (.invokevirtual 131, 3) := by decide +kernel
theorem dX12_clause_4 : decode cX12_clause 4 = .ok (.istore_n 1, 1) := by decide +kernel
theorem dX12_clause_5 : decode cX12_clause 5 = .ok (.ldc 26, 2) := by decide +kernel
theorem dX12_clause_7 : decode cX12_clause 7 = .ok (.iload_n 1, 1) := by decide +kernel
theorem dX12_clause_8 : decode cX12_clause 8 = .ok (.invokestatic 147, 3) := by decide +kernel
theorem dX12_clause_11 : decode cX12_clause 11 = .ok (.ifCond .ne 9, 3) := by decide +kernel
theorem dX12_clause_14 : decode cX12_clause 14 = .ok (.aload_n 0, 1) := by decide +kernel
theorem dX12_clause_15 : decode cX12_clause 15 = .ok (.invokevirtual 127, 3) := by decide +kernel
theorem dX12_clause_18 : decode cX12_clause 18 = .ok (.pop, 1) := by decide +kernel
theorem dX12_clause_19 : decode cX12_clause 19 = .ok (.return_, 1) := by decide +kernel
theorem dX12_clause_20 : decode cX12_clause 20 = .ok (.aload_n 0, 1) := by decide +kernel
theorem dX12_clause_21 : decode cX12_clause 21 = .ok (.dup, 1) := by decide +kernel
theorem dX12_clause_22 : decode cX12_clause 22 = .ok (.getfield 112, 3) := by decide +kernel
theorem dX12_clause_25 : decode cX12_clause 25 = .ok (.iconst 1, 1) := by decide +kernel
theorem dX12_clause_26 : decode cX12_clause 26 = .ok (.iadd, 1) := by decide +kernel
theorem dX12_clause_27 : decode cX12_clause 27 = .ok (.putfield 112, 3) := by decide +kernel
theorem dX12_clause_30 : decode cX12_clause 30 = .ok (.aload_n 0, 1) := by decide +kernel
theorem dX12_clause_31 : decode cX12_clause 31 = .ok (.bipush 58, 2) := by decide +kernel
theorem dX12_clause_33 : decode cX12_clause 33 = .ok (.invokevirtual 157, 3) := by decide +kernel
theorem dX12_clause_36 : decode cX12_clause 36 = .ok (.ifCond .ne 4, 3) := by decide +kernel
theorem dX12_clause_39 : decode cX12_clause 39 = .ok (.return_, 1) := by decide +kernel
theorem dX12_clause_40 : decode cX12_clause 40 = .ok (.iconst 1, 1) := by decide +kernel
theorem dX12_clause_41 : decode cX12_clause 41 = .ok (.istore_n 2, 1) := by decide +kernel
theorem dX12_clause_42 : decode cX12_clause 42 = .ok (.iconst 0, 1) := by decide +kernel
theorem dX12_clause_43 : decode cX12_clause 43 = .ok (.istore_n 3, 1) := by decide +kernel
theorem dX12_clause_44 : decode cX12_clause 44 = .ok (.aload_n 0, 1) := by decide +kernel
theorem dX12_clause_45 : decode cX12_clause 45 = .ok (.invokevirtual 131, 3) := by decide +kernel
theorem dX12_clause_48 : decode cX12_clause 48 = .ok (.istore 4, 2) := by decide +kernel
theorem dX12_clause_50 : decode cX12_clause 50 = .ok (.iload 4, 2) := by decide +kernel
theorem dX12_clause_52 : decode cX12_clause 52 = .ok (.bipush 33, 2) := by decide +kernel
theorem dX12_clause_54 : decode cX12_clause 54 = .ok (.if_icmp .eq 10, 3) := by decide +kernel
theorem dX12_clause_57 : decode cX12_clause 57 = .ok (.iload 4, 2) := by decide +kernel
theorem dX12_clause_59 : decode cX12_clause 59 = .ok (.bipush 40, 2) := by decide +kernel
theorem dX12_clause_61 : decode cX12_clause 61 = .ok (.if_icmp .ne 28, 3) := by decide +kernel
theorem dX12_clause_64 : decode cX12_clause 64 = .ok (.aload_n 0, 1) := by decide +kernel
theorem dX12_clause_65 : decode cX12_clause 65 = .ok (.iconst 0, 1) := by decide +kernel
theorem dX12_clause_66 : decode cX12_clause 66 = .ok (.iconst 0, 1) := by decide +kernel
theorem dX12_clause_67 : decode cX12_clause 67 = .ok (.invokevirtual 180, 3) := by decide +kernel
theorem dX12_clause_70 : decode cX12_clause 70 = .ok (.istore_n 2, 1) := by decide +kernel
theorem dX12_clause_71 : decode cX12_clause 71 = .ok (.aload_n 0, 1) := by decide +kernel
theorem dX12_clause_72 : decode cX12_clause 72 = .ok (.bipush 63, 2) := by decide +kernel
theorem dX12_clause_74 : decode cX12_clause 74 = .ok (.invokevirtual 157, 3) := by decide +kernel
theorem dX12_clause_77 : decode cX12_clause 77 = .ok (.ifCond .ne 4, 3) := by decide +kernel
theorem dX12_clause_80 : decode cX12_clause 80 = .ok (.return_, 1) := by decide +kernel
theorem dX12_clause_81 : decode cX12_clause 81 = .ok (.aload_n 0, 1) := by decide +kernel
theorem dX12_clause_82 : decode cX12_clause 82 = .ok (.invokevirtual 154, 3) := by decide +kernel
theorem dX12_clause_85 : decode cX12_clause 85 = .ok (.istore_n 3, 1) := by decide +kernel
theorem dX12_clause_86 : decode cX12_clause 86 = .ok (.goto 48, 3) := by decide +kernel
theorem dX12_clause_89 : decode cX12_clause 89 = .ok (.aload_n 0, 1) := by decide +kernel
theorem dX12_clause_90 : decode cX12_clause 90 = .ok (.invokevirtual 154, 3) := by decide +kernel
theorem dX12_clause_93 : decode cX12_clause 93 = .ok (.istore_n 3, 1) := by decide +kernel
theorem dX12_clause_94 : decode cX12_clause 94 = .ok (.aload_n 0, 1) := by decide +kernel
theorem dX12_clause_95 : decode cX12_clause 95 = .ok (.getfield 121, 3) := by decide +kernel
theorem dX12_clause_98 : decode cX12_clause 98 = .ok (.iconst (-1), 1) := by decide +kernel
theorem dX12_clause_99 : decode cX12_clause 99 = .ok (.if_icmp .ne 35, 3) := by decide +kernel
theorem dX12_clause_102 : decode cX12_clause 102 = .ok (.aload_n 0, 1) := by decide +kernel
theorem dX12_clause_103 : decode cX12_clause 103 = .ok (.invokevirtual 131, 3) := by decide +kernel
theorem dX12_clause_106 : decode cX12_clause 106 = .ok (.invokestatic 174, 3) := by decide +kernel
theorem dX12_clause_109 : decode cX12_clause 109 = .ok (.ifCond .eq 25, 3) := by decide +kernel
theorem dX12_clause_112 : decode cX12_clause 112 = .ok (.aload_n 0, 1) := by decide +kernel
theorem dX12_clause_113 : decode cX12_clause 113 = .ok (.iconst 1, 1) := by decide +kernel
theorem dX12_clause_114 : decode cX12_clause 114 = .ok (.iload_n 3, 1) := by decide +kernel
theorem dX12_clause_115 : decode cX12_clause 115 = .ok (.invokevirtual 180, 3) := by decide +kernel
theorem dX12_clause_118 : decode cX12_clause 118 = .ok (.istore_n 2, 1) := by decide +kernel
theorem dX12_clause_119 : decode cX12_clause 119 = .ok (.aload_n 0, 1) := by decide +kernel
theorem dX12_clause_120 : decode cX12_clause 120 = .ok (.bipush 63, 2) := by decide +kernel
theorem dX12_clause_122 : decode cX12_clause 122 = .ok (.invokevirtual 157, 3) := by decide +kernel
theorem dX12_clause_125 : decode cX12_clause 125 = .ok (.ifCond .ne 4, 3) := by decide +kernel
theorem dX12_clause_128 : decode cX12_clause 128 = .ok (.return_, 1) := by decide +kernel
theorem dX12_clause_129 : decode cX12_clause 129 = .ok (.aload_n 0, 1) := by decide +kernel
theorem dX12_clause_130 : decode cX12_clause 130 = .ok (.invokevirtual 154, 3) := by decide +kernel
theorem dX12_clause_133 : decode cX12_clause 133 = .ok (.istore_n 3, 1) := by decide +kernel
theorem dX12_clause_134 : decode cX12_clause 134 = .ok (.aload_n 0, 1) := by decide +kernel
theorem dX12_clause_135 : decode cX12_clause 135 = .ok (.getfield 121, 3) := by decide +kernel
theorem dX12_clause_138 : decode cX12_clause 138 = .ok (.iconst (-1), 1) := by decide +kernel
theorem dX12_clause_139 : decode cX12_clause 139 = .ok (.if_icmp .ne 22, 3) := by decide +kernel
theorem dX12_clause_142 : decode cX12_clause 142 = .ok (.aload_n 0, 1) := by decide +kernel
theorem dX12_clause_143 : decode cX12_clause 143 = .ok (.getfield 190, 3) := by decide +kernel
theorem dX12_clause_146 : decode cX12_clause 146 = .ok (.ifCond .ne 15, 3) := by decide +kernel
theorem dX12_clause_149 : decode cX12_clause 149 = .ok (.iload_n 1, 1) := by decide +kernel
theorem dX12_clause_150 : decode cX12_clause 150 = .ok (.aload_n 0, 1) := by decide +kernel
theorem dX12_clause_151 : decode cX12_clause 151 = .ok (.getfield 194, 3) := by decide +kernel
theorem dX12_clause_154 : decode cX12_clause 154 = .ok (.if_icmp .ne 7, 3) := by decide +kernel
theorem dX12_clause_157 : decode cX12_clause 157 = .ok (.iload_n 2, 1) := by decide +kernel
theorem dX12_clause_158 : decode cX12_clause 158 = .ok (.ifCond .ne 4, 3) := by decide +kernel
theorem dX12_clause_161 : decode cX12_clause 161 = .ok (.return_, 1) := by decide +kernel
theorem dX12_clause_162 : decode cX12_clause 162 = .ok (.aload_n 0, 1) := by decide +kernel
theorem dX12_clause_163 : decode cX12_clause 163 = .ok (.iconst 1, 1) := by decide +kernel
theorem dX12_clause_164 : decode cX12_clause 164 = .ok (.putfield 190, 3) := by decide +kernel
theorem dX12_clause_167 : decode cX12_clause 167 = .ok (.aload_n 0, 1) := by decide +kernel
theorem dX12_clause_168 : decode cX12_clause 168 = .ok (.iload_n 3, 1) := by decide +kernel
theorem dX12_clause_169 : decode cX12_clause 169 = .ok (.putfield 197, 3) := by decide +kernel
theorem dX12_clause_172 : decode cX12_clause 172 = .ok (.return_, 1) := by decide +kernel
theorem dX12_starts_0 : decode cX12_starts 0 = .ok (.aload_n 0, 1) := by decide +kernel
theorem dX12_starts_1 : decode cX12_starts 1 = .ok (.aload_n 1, 1) := by decide +kernel
theorem dX12_starts_2 : decode cX12_starts 2 = .ok (.putfield 23, 3) := by decide +kernel
theorem dX12_starts_5 : decode cX12_starts 5 = .ok (.aload_n 0, 1) := by decide +kernel
theorem dX12_starts_6 : decode cX12_starts 6 = .ok (.iload_n 2, 1) := by decide +kernel
theorem dX12_starts_7 : decode cX12_starts 7 = .ok (.putfield 118, 3) := by decide +kernel
theorem dX12_starts_10 : decode cX12_starts 10 = .ok (.aload_n 0, 1) := by decide +kernel
theorem dX12_starts_11 : decode cX12_starts 11 = .ok (.iload_n 3, 1) := by decide +kernel
theorem dX12_starts_12 : decode cX12_starts 12 = .ok (.putfield 115, 3) := by decide +kernel
theorem dX12_starts_15 : decode cX12_starts 15 = .ok (.aload_n 0, 1) := by decide +kernel
theorem dX12_starts_16 : decode cX12_starts 16 = .ok (.iconst 0, 1) := by decide +kernel
theorem dX12_starts_17 : decode cX12_starts 17 = .ok (.putfield 112, 3) := by decide +kernel
theorem dX12_starts_20 : decode cX12_starts 20 = .ok (.aload_n 0, 1) := by decide +kernel
theorem dX12_starts_21 : decode cX12_starts 21 = .ok (.iconst (-1), 1) := by decide +kernel
theorem dX12_starts_22 : decode cX12_starts 22 = .ok (.putfield 121, 3) := by decide +kernel
theorem dX12_starts_25 : decode cX12_starts 25 = .ok (.return_, 1) := by decide +kernel
theorem dX12_goThrough_0 : decode cX12_goThrough 0 = .ok (.aload_n 0, 1) := by decide +kernel
theorem dX12_goThrough_1 : decode cX12_goThrough 1 = .ok (.aload_n 1, 1) := by decide +kernel
theorem dX12_goThrough_2 : decode cX12_goThrough 2 = .ok (.iload_n 2, 1) := by decide +kernel
theorem dX12_goThrough_3 : decode cX12_goThrough 3 = .ok (.iload_n 3, 1) := by decide +kernel
theorem dX12_goThrough_4 : decode cX12_goThrough 4 = .ok (.invokevirtual 200, 3) := by decide +kernel
theorem dX12_goThrough_7 : decode cX12_goThrough 7 = .ok (.aload_n 0, 1) := by decide +kernel
theorem dX12_goThrough_8 : decode cX12_goThrough 8 = .ok (.bipush 121, 2) := by decide +kernel
theorem dX12_goThrough_10 : decode cX12_goThrough 10 = .ok (.putfield 194, 3) := by decide +kernel
theorem dX12_goThrough_13 : decode cX12_goThrough 13 = .ok (.aload_n 0, 1) := by decide +kernel
theorem dX12_goThrough_14 : decode cX12_goThrough 14 = .ok (.iconst 0, 1) := by decide +kernel
theorem dX12_goThrough_15 : decode cX12_goThrough 15 = .ok (.putfield 124, 3) := by decide +kernel
theorem dX12_goThrough_18 : decode cX12_goThrough 18 = .ok (.aload_n 0, 1) := by decide +kernel
theorem dX12_goThrough_19 : decode cX12_goThrough 19 = .ok (.iconst 0, 1) := by decide +kernel
theorem dX12_goThrough_20 : decode cX12_goThrough 20 = .ok (.putfield 190, 3) := by decide +kernel
theorem dX12_goThrough_23 : decode cX12_goThrough 23 = .ok (.aload_n 0, 1) := by decide +kernel
theorem dX12_goThrough_24 : decode cX12_goThrough 24 = .ok (.iconst 0, 1) := by decide +kernel
theorem dX12_goThrough_25 : decode cX12_goThrough 25 = .ok (.putfield 197, 3) := by decide +kernel
theorem dX12_goThrough_28 : decode cX12_goThrough 28 = .ok (.aload_n 0, 1) := by decide +kernel
theorem dX12_goThrough_29 : decode cX12_goThrough 29 = .ok (.invokevirtual 204, 3) := by decide +kernel
theorem dX12_goThrough_32 : decode cX12_goThrough 32 = .ok (.aload_n 0, 1) := by decide +kernel
theorem dX12_goThrough_33 : decode cX12_goThrough 33 = .ok (.getfield 121, 3) := by decide +kernel
theorem dX12_goThrough_36 : decode cX12_goThrough 36 = .ok (.iconst (-1), 1) := by decide +kernel
theorem dX12_goThrough_37 : decode cX12_goThrough 37 = .ok (.if_icmp .ne 29, 3) := by decide +kernel
theorem dX12_goThrough_40 : decode cX12_goThrough 40 = .ok (.aload_n 0, 1) := by decide +kernel
theorem dX12_goThrough_41 : decode cX12_goThrough 41 = .ok (.invokevirtual 131, 3) := by decide +kernel
theorem dX12_goThrough_44 : decode cX12_goThrough 44 = .ok (.bipush 59, 2) := by decide +kernel
theorem dX12_goThrough_46 : decode cX12_goThrough 46 = .ok (.if_icmp .ne 20, 3) := by decide +kernel
theorem dX12_goThrough_49 : decode cX12_goThrough 49 = .ok (.aload_n 0, 1) := by decide +kernel
theorem dX12_goThrough_50 : decode cX12_goThrough 50 = .ok (.dup, 1) := by decide +kernel
theorem dX12_goThrough_51 : decode cX12_goThrough 51 = .ok (.getfield 112, 3) := by decide +kernel
theorem dX12_goThrough_54 : decode cX12_goThrough 54 = .ok (.iconst 1, 1) := by decide +kernel
theorem dX12_goThrough_55 : decode cX12_goThrough 55 = .ok (.iadd, 1) := by decide +kernel
theorem dX12_goThrough_56 : decode cX12_goThrough 56 = .ok (.putfield 112, 3) := by decide +kernel
theorem dX12_goThrough_59 : decode cX12_goThrough 59 = .ok (.aload_n 0, 1) := by decide +kernel
theorem dX12_goThrough_60 : decode cX12_goThrough 60 = .ok (.invokevirtual 204, 3) := by decide +kernel
theorem dX12_goThrough_63 : decode cX12_goThrough 63 = .ok (.goto (-31), 3) := by decide +kernel
theorem dX12_goThrough_66 : decode cX12_goThrough 66 = .ok (.aload_n 0, 1) := by decide +kernel
theorem dX12_goThrough_67 : decode cX12_goThrough 67 = .ok (.getfield 121, 3) := by decide +kernel
theorem dX12_goThrough_70 : decode cX12_goThrough 70 = .ok (.iconst (-1), 1) := by decide +kernel
theorem dX12_goThrough_71 : decode cX12_goThrough 71 = .ok (.if_icmp .ne 16, 3) := by decide +kernel
theorem dX12_goThrough_74 : decode cX12_goThrough 74 = .ok (.aload_n 0, 1) := by decide +kernel
theorem dX12_goThrough_75 : decode cX12_goThrough 75 = .ok (.invokevirtual 131, 3) := by decide +kernel
theorem dX12_goThrough_78 : decode cX12_goThrough 78 = .ok (.iconst (-1), 1) := by decide +kernel
theorem dX12_goThrough_79 : decode cX12_goThrough 79 = .ok (.if_icmp .eq 8, 3) := by decide +kernel
theorem dX12_goThrough_82 : decode cX12_goThrough 82 = .ok (.aload_n 0, 1) := by decide +kernel
theorem dX12_goThrough_83 : decode cX12_goThrough 83 = .ok (.invokevirtual 127, 3) := by decide +kernel
theorem dX12_goThrough_86 : decode cX12_goThrough 86 = .ok (.pop, 1) := by decide +kernel
theorem dX12_goThrough_87 : decode cX12_goThrough 87 = .ok (.return_, 1) := by decide +kernel
theorem dX12_here_0 : decode cX12_here 0 = .ok (.aload_n 0, 1) := by decide +kernel
theorem dX12_here_1 : decode cX12_here 1 = .ok (.getfield 112, 3) := by decide +kernel
theorem dX12_here_4 : decode cX12_here 4 = .ok (.aload_n 0, 1) := by decide +kernel
theorem dX12_here_5 : decode cX12_here 5 = .ok (.getfield 115, 3) := by decide +kernel
theorem dX12_here_8 : decode cX12_here 8 = .ok (.if_icmp .ge 24, 3) := by decide +kernel
theorem dX12_here_11 : decode cX12_here 11 = .ok (.aload_n 0, 1) := by decide +kernel
theorem dX12_here_12 : decode cX12_here 12 = .ok (.getfield 23, 3) := by decide +kernel
theorem dX12_here_15 : decode cX12_here 15 = .ok (.aload_n 0, 1) := by decide +kernel
theorem dX12_here_16 : decode cX12_here 16 = .ok (.getfield 118, 3) := by decide +kernel
theorem dX12_here_19 : decode cX12_here 19 = .ok (.aload_n 0, 1) := by decide +kernel
theorem dX12_here_20 : decode cX12_here 20 = .ok (.getfield 112, 3) := by decide +kernel
theorem dX12_here_23 : decode cX12_here 23 = .ok (.iadd, 1) := by decide +kernel
theorem dX12_here_24 : decode cX12_here 24 = .ok (.baload, 1) := by decide +kernel
theorem dX12_here_25 : decode cX12_here 25 = .ok (.sipush 255, 3) := by decide +kernel
theorem dX12_here_28 : decode cX12_here 28 = .ok (.iand, 1) := by decide +kernel
theorem dX12_here_29 : decode cX12_here 29 = .ok (.goto 4, 3) := by decide +kernel
theorem dX12_here_32 : decode cX12_here 32 = .ok (.iconst (-1), 1) := by decide +kernel
theorem dX12_here_33 : decode cX12_here 33 = .ok (.ireturn, 1) := by decide +kernel
theorem dX12_spotOf_0 : decode cX12_spotOf 0 = .ok (.iconst 0, 1) := by decide +kernel
theorem dX12_spotOf_1 : decode cX12_spotOf 1 = .ok (.istore_n 2, 1) := by decide +kernel
theorem dX12_spotOf_2 : decode cX12_spotOf 2 = .ok (.iload_n 2, 1) := by decide +kernel
theorem dX12_spotOf_3 : decode cX12_spotOf 3 = .ok (.aload_n 0, 1) := by decide +kernel
theorem dX12_spotOf_4 : decode cX12_spotOf 4 = .ok (.invokevirtual 92, 3) := by decide +kernel
theorem dX12_spotOf_7 : decode cX12_spotOf 7 = .ok (.if_icmp .ge 20, 3) := by decide +kernel
theorem dX12_spotOf_10 : decode cX12_spotOf 10 = .ok (.aload_n 0, 1) := by decide +kernel
theorem dX12_spotOf_11 : decode cX12_spotOf 11 = .ok (.iload_n 2, 1) := by decide +kernel
theorem dX12_spotOf_12 : decode cX12_spotOf 12 = .ok (.invokevirtual 98, 3) := by decide +kernel
theorem dX12_spotOf_15 : decode cX12_spotOf 15 = .ok (.iload_n 1, 1) := by decide +kernel
theorem dX12_spotOf_16 : decode cX12_spotOf 16 = .ok (.if_icmp .ne 5, 3) := by decide +kernel
theorem dX12_spotOf_19 : decode cX12_spotOf 19 = .ok (.iload_n 2, 1) := by decide +kernel
theorem dX12_spotOf_20 : decode cX12_spotOf 20 = .ok (.ireturn, 1) := by decide +kernel
theorem dX12_spotOf_21 : decode cX12_spotOf 21 = .ok (.iinc 2 1, 3) := by decide +kernel
theorem dX12_spotOf_24 : decode cX12_spotOf 24 = .ok (.goto (-22), 3) := by decide +kernel
theorem dX12_spotOf_27 : decode cX12_spotOf 27 = .ok (.iconst (-1), 1) := by decide +kernel
theorem dX12_spotOf_28 : decode cX12_spotOf 28 = .ok (.ireturn, 1) := by decide +kernel
theorem dX12_number_0 : decode cX12_number 0 = .ok (.aload_n 0, 1) := by decide +kernel
theorem dX12_number_1 : decode cX12_number 1 = .ok (.invokevirtual 131, 3) := by decide +kernel
theorem dX12_number_4 : decode cX12_number 4 = .ok (.istore_n 2, 1) := by decide +kernel
theorem dX12_number_5 : decode cX12_number 5 = .ok (.aload_n 0, 1) := by decide +kernel
theorem dX12_number_6 : decode cX12_number 6 = .ok (.invokevirtual 161, 3) := by decide +kernel
theorem dX12_number_9 : decode cX12_number 9 = .ok (.ifCond .ne 10, 3) := by decide +kernel
theorem dX12_number_12 : decode cX12_number 12 = .ok (.aload_n 0, 1) := by decide +kernel
theorem dX12_number_13 : decode cX12_number 13 = .ok (.invokevirtual 127, 3) := by decide +kernel
theorem dX12_number_16 : decode cX12_number 16 = .ok (.pop, 1) := by decide +kernel
theorem dX12_number_17 : decode cX12_number 17 = .ok (.iconst 0, 1) := by decide +kernel
theorem dX12_number_18 : decode cX12_number 18 = .ok (.ireturn, 1) := by decide +kernel
theorem dX12_number_19 : decode cX12_number 19 = .ok (.iload_n 2, 1) := by decide +kernel
theorem dX12_number_20 : decode cX12_number 20 = .ok (.bipush 48, 2) := by decide +kernel
theorem dX12_number_22 : decode cX12_number 22 = .ok (.isub, 1) := by decide +kernel
theorem dX12_number_23 : decode cX12_number 23 = .ok (.istore_n 3, 1) := by decide +kernel
theorem dX12_number_24 : decode cX12_number 24 = .ok (.aload_n 0, 1) := by decide +kernel
theorem dX12_number_25 : decode cX12_number 25 = .ok (.dup, 1) := by decide +kernel
theorem dX12_number_26 : decode cX12_number 26 = .ok (.getfield 112, 3) := by decide +kernel
theorem dX12_number_29 : decode cX12_number 29 = .ok (.iconst 1, 1) := by decide +kernel
theorem dX12_number_30 : decode cX12_number 30 = .ok (.iadd, 1) := by decide +kernel
theorem dX12_number_31 : decode cX12_number 31 = .ok (.putfield 112, 3) := by decide +kernel
theorem dX12_number_34 : decode cX12_number 34 = .ok (.aload_n 0, 1) := by decide +kernel
theorem dX12_number_35 : decode cX12_number 35 = .ok (.invokevirtual 161, 3) := by decide +kernel
theorem dX12_number_38 : decode cX12_number 38 = .ok (.ifCond .eq 26, 3) := by decide +kernel
theorem dX12_number_41 : decode cX12_number 41 = .ok (.bipush 10, 2) := by decide +kernel
theorem dX12_number_43 : decode cX12_number 43 = .ok (.iload_n 3, 1) := by decide +kernel
theorem dX12_number_44 : decode cX12_number 44 = .ok (.imul, 1) := by decide +kernel
theorem dX12_number_45 : decode cX12_number 45 = .ok (.aload_n 0, 1) := by decide +kernel
theorem dX12_number_46 : decode cX12_number 46 = .ok (.invokevirtual 207, 3) := by decide +kernel
theorem dX12_number_49 : decode cX12_number 49 = .ok (.iadd, 1) := by decide +kernel
theorem dX12_number_50 : decode cX12_number 50 = .ok (.bipush 48, 2) := by decide +kernel
theorem dX12_number_52 : decode cX12_number 52 = .ok (.isub, 1) := by decide +kernel
theorem dX12_number_53 : decode cX12_number 53 = .ok (.istore_n 3, 1) := by decide +kernel
theorem dX12_number_54 : decode cX12_number 54 = .ok (.aload_n 0, 1) := by decide +kernel
theorem dX12_number_55 : decode cX12_number 55 = .ok (.dup, 1) := by decide +kernel
theorem dX12_number_56 : decode cX12_number 56 = .ok (.getfield 112, 3) := by decide +kernel
theorem dX12_number_59 : decode cX12_number 59 = .ok (.iconst 1, 1) := by decide +kernel
theorem dX12_number_60 : decode cX12_number 60 = .ok (.iadd, 1) := by decide +kernel
theorem dX12_number_61 : decode cX12_number 61 = .ok (.putfield 112, 3) := by decide +kernel
theorem dX12_number_64 : decode cX12_number 64 = .ok (.aload_n 0, 1) := by decide +kernel
theorem dX12_number_65 : decode cX12_number 65 = .ok (.invokevirtual 161, 3) := by decide +kernel
theorem dX12_number_68 : decode cX12_number 68 = .ok (.ifCond .eq 10, 3) := by decide +kernel
theorem dX12_number_71 : decode cX12_number 71 = .ok (.aload_n 0, 1) := by decide +kernel
theorem dX12_number_72 : decode cX12_number 72 = .ok (.invokevirtual 127, 3) := by decide +kernel
theorem dX12_number_75 : decode cX12_number 75 = .ok (.pop, 1) := by decide +kernel
theorem dX12_number_76 : decode cX12_number 76 = .ok (.iconst 0, 1) := by decide +kernel
theorem dX12_number_77 : decode cX12_number 77 = .ok (.ireturn, 1) := by decide +kernel
theorem dX12_number_78 : decode cX12_number 78 = .ok (.iload_n 3, 1) := by decide +kernel
theorem dX12_number_79 : decode cX12_number 79 = .ok (.iload_n 1, 1) := by decide +kernel
theorem dX12_number_80 : decode cX12_number 80 = .ok (.if_icmp .le 18, 3) := by decide +kernel
theorem dX12_number_83 : decode cX12_number 83 = .ok (.aload_n 0, 1) := by decide +kernel
theorem dX12_number_84 : decode cX12_number 84 = .ok (.dup, 1) := by decide +kernel
theorem dX12_number_85 : decode cX12_number 85 = .ok (.getfield 112, 3) := by decide +kernel
theorem dX12_number_88 : decode cX12_number 88 = .ok (.iconst 1, 1) := by decide +kernel
theorem dX12_number_89 : decode cX12_number 89 = .ok (.isub, 1) := by decide +kernel
theorem dX12_number_90 : decode cX12_number 90 = .ok (.putfield 112, 3) := by decide +kernel
theorem dX12_number_93 : decode cX12_number 93 = .ok (.aload_n 0, 1) := by decide +kernel
theorem dX12_number_94 : decode cX12_number 94 = .ok (.invokevirtual 127, 3) := by decide +kernel
theorem dX12_number_97 : decode cX12_number 97 = .ok (.pop, 1) := by decide +kernel
theorem dX12_number_98 : decode cX12_number 98 = .ok (.iload_n 3, 1) := by decide +kernel
theorem dX12_number_99 : decode cX12_number 99 = .ok (.ireturn, 1) := by decide +kernel
theorem dX12_mostOf_0 : decode cX12_mostOf 0 = .ok (.iload_n 0, 1) := by decide +kernel
theorem dX12_mostOf_1 : decode cX12_mostOf 1 = .ok (.bipush 115, 2) := by decide +kernel
theorem dX12_mostOf_3 : decode cX12_mostOf 3 = .ok (.if_icmp .ne 24, 3) := by decide +kernel
theorem dX12_mostOf_6 : decode cX12_mostOf 6 = .ok (.iload_n 1, 1) := by decide +kernel
theorem dX12_mostOf_7 : decode cX12_mostOf 7 = .ok (.ifCond .ne 7, 3) := by decide +kernel
theorem dX12_mostOf_10 : decode cX12_mostOf 10 = .ok (.iconst 5, 1) := by decide +kernel
theorem dX12_mostOf_11 : decode cX12_mostOf 11 = .ok (.goto 15, 3) := by decide +kernel
theorem dX12_mostOf_14 : decode cX12_mostOf 14 = .ok (.iload_n 1, 1) := by decide +kernel
theorem dX12_mostOf_15 : decode cX12_mostOf 15 = .ok (.iconst 1, 1) := by decide +kernel
theorem dX12_mostOf_16 : decode cX12_mostOf 16 = .ok (.if_icmp .ne 8, 3) := by decide +kernel
theorem dX12_mostOf_19 : decode cX12_mostOf 19 = .ok (.bipush 30, 2) := by decide +kernel
theorem dX12_mostOf_21 : decode cX12_mostOf 21 = .ok (.goto 5, 3) := by decide +kernel
theorem dX12_mostOf_24 : decode cX12_mostOf 24 = .ok (.bipush 9, 2) := by decide +kernel
theorem dX12_mostOf_26 : decode cX12_mostOf 26 = .ok (.ireturn, 1) := by decide +kernel
theorem dX12_mostOf_27 : decode cX12_mostOf 27 = .ok (.iload_n 0, 1) := by decide +kernel
theorem dX12_mostOf_28 : decode cX12_mostOf 28 = .ok (.bipush 100, 2) := by decide +kernel
theorem dX12_mostOf_30 : decode cX12_mostOf 30 = .ok (.if_icmp .ne 15, 3) := by decide +kernel
theorem dX12_mostOf_33 : decode cX12_mostOf 33 = .ok (.iload_n 1, 1) := by decide +kernel
theorem dX12_mostOf_34 : decode cX12_mostOf 34 = .ok (.ifCond .ne 8, 3) := by decide +kernel
theorem dX12_mostOf_37 : decode cX12_mostOf 37 = .ok (.bipush 9, 2) := by decide +kernel
theorem dX12_mostOf_39 : decode cX12_mostOf 39 = .ok (.goto 5, 3) := by decide +kernel
theorem dX12_mostOf_42 : decode cX12_mostOf 42 = .ok (.bipush 60, 2) := by decide +kernel
theorem dX12_mostOf_44 : decode cX12_mostOf 44 = .ok (.ireturn, 1) := by decide +kernel
theorem dX12_mostOf_45 : decode cX12_mostOf 45 = .ok (.iload_n 1, 1) := by decide +kernel
theorem dX12_mostOf_46 : decode cX12_mostOf 46 = .ok (.ifCond .ne 7, 3) := by decide +kernel
theorem dX12_mostOf_49 : decode cX12_mostOf 49 = .ok (.iconst 5, 1) := by decide +kernel
theorem dX12_mostOf_50 : decode cX12_mostOf 50 = .ok (.goto 15, 3) := by decide +kernel
theorem dX12_mostOf_53 : decode cX12_mostOf 53 = .ok (.iload_n 1, 1) := by decide +kernel
theorem dX12_mostOf_54 : decode cX12_mostOf 54 = .ok (.iconst 1, 1) := by decide +kernel
theorem dX12_mostOf_55 : decode cX12_mostOf 55 = .ok (.if_icmp .ne 8, 3) := by decide +kernel
theorem dX12_mostOf_58 : decode cX12_mostOf 58 = .ok (.bipush 99, 2) := by decide +kernel
theorem dX12_mostOf_60 : decode cX12_mostOf 60 = .ok (.goto 5, 3) := by decide +kernel
theorem dX12_mostOf_63 : decode cX12_mostOf 63 = .ok (.bipush 9, 2) := by decide +kernel
theorem dX12_mostOf_65 : decode cX12_mostOf 65 = .ok (.ireturn, 1) := by decide +kernel
theorem dX12_usual_0 : decode cX12_usual 0 = .ok (.iload_n 0, 1) := by decide +kernel
theorem dX12_usual_1 : decode cX12_usual 1 = .ok (.bipush 115, 2) := by decide +kernel
theorem dX12_usual_3 : decode cX12_usual 3 = .ok (.if_icmp .ne 22, 3) := by decide +kernel
theorem dX12_usual_6 : decode cX12_usual 6 = .ok (.iload_n 1, 1) := by decide +kernel
theorem dX12_usual_7 : decode cX12_usual 7 = .ok (.ifCond .ne 7, 3) := by decide +kernel
theorem dX12_usual_10 : decode cX12_usual 10 = .ok (.iconst 0, 1) := by decide +kernel
theorem dX12_usual_11 : decode cX12_usual 11 = .ok (.goto 13, 3) := by decide +kernel
theorem dX12_usual_14 : decode cX12_usual 14 = .ok (.iload_n 1, 1) := by decide +kernel
theorem dX12_usual_15 : decode cX12_usual 15 = .ok (.iconst 1, 1) := by decide +kernel
theorem dX12_usual_16 : decode cX12_usual 16 = .ok (.if_icmp .ne 7, 3) := by decide +kernel
theorem dX12_usual_19 : decode cX12_usual 19 = .ok (.iconst 5, 1) := by decide +kernel
theorem dX12_usual_20 : decode cX12_usual 20 = .ok (.goto 4, 3) := by decide +kernel
theorem dX12_usual_23 : decode cX12_usual 23 = .ok (.iconst 3, 1) := by decide +kernel
theorem dX12_usual_24 : decode cX12_usual 24 = .ok (.ireturn, 1) := by decide +kernel
theorem dX12_usual_25 : decode cX12_usual 25 = .ok (.iload_n 0, 1) := by decide +kernel
theorem dX12_usual_26 : decode cX12_usual 26 = .ok (.bipush 100, 2) := by decide +kernel
theorem dX12_usual_28 : decode cX12_usual 28 = .ok (.if_icmp .ne 5, 3) := by decide +kernel
theorem dX12_usual_31 : decode cX12_usual 31 = .ok (.iconst 5, 1) := by decide +kernel
theorem dX12_usual_32 : decode cX12_usual 32 = .ok (.ireturn, 1) := by decide +kernel
theorem dX12_usual_33 : decode cX12_usual 33 = .ok (.iload_n 1, 1) := by decide +kernel
theorem dX12_usual_34 : decode cX12_usual 34 = .ok (.ifCond .ne 7, 3) := by decide +kernel
theorem dX12_usual_37 : decode cX12_usual 37 = .ok (.iconst 0, 1) := by decide +kernel
theorem dX12_usual_38 : decode cX12_usual 38 = .ok (.goto 14, 3) := by decide +kernel
theorem dX12_usual_41 : decode cX12_usual 41 = .ok (.iload_n 1, 1) := by decide +kernel
theorem dX12_usual_42 : decode cX12_usual 42 = .ok (.iconst 1, 1) := by decide +kernel
theorem dX12_usual_43 : decode cX12_usual 43 = .ok (.if_icmp .ne 8, 3) := by decide +kernel
theorem dX12_usual_46 : decode cX12_usual 46 = .ok (.bipush 20, 2) := by decide +kernel
theorem dX12_usual_48 : decode cX12_usual 48 = .ok (.goto 4, 3) := by decide +kernel
theorem dX12_usual_51 : decode cX12_usual 51 = .ok (.iconst 5, 1) := by decide +kernel
theorem dX12_usual_52 : decode cX12_usual 52 = .ok (.ireturn, 1) := by decide +kernel
theorem dX12_readItems_0 : decode cX12_readItems 0 = .ok (.iconst 0, 1) := by decide +kernel
theorem dX12_readItems_1 : decode cX12_readItems 1 = .ok (.istore 5, 2) := by decide +kernel
theorem dX12_readItems_3 : decode cX12_readItems 3 = .ok (.iload 5, 2) := by decide +kernel
theorem dX12_readItems_5 : decode cX12_readItems 5 = .ok (.aload 4, 2) := by decide +kernel
theorem dX12_readItems_7 : decode cX12_readItems 7 = .ok (.invokevirtual 92, 3) := by decide +kernel
theorem dX12_readItems_10 : decode cX12_readItems 10 = .ok (.if_icmp .ge 21, 3) := by decide +kernel
theorem dX12_readItems_13 : decode cX12_readItems 13 = .ok (.aload_n 2, 1) := by decide +kernel
theorem dX12_readItems_14 : decode cX12_readItems 14 = .ok (.iload_n 3, 1) := by decide +kernel
theorem dX12_readItems_15 : decode cX12_readItems 15 = .ok (.iload 5, 2) := by decide +kernel
theorem dX12_readItems_17 : decode cX12_readItems 17 = .ok (.iadd, 1) := by decide +kernel
theorem dX12_readItems_18 : decode cX12_readItems 18 = .ok (.iload_n 1, 1) := by decide +kernel
theorem dX12_readItems_19 : decode cX12_readItems 19 = .ok (.iload 5, 2) := by decide +kernel
theorem dX12_readItems_21 : decode cX12_readItems 21 = .ok (.invokestatic 210, 3) := by decide +kernel
theorem dX12_readItems_24 : decode cX12_readItems 24 = .ok (.iastore, 1) := by decide +kernel
theorem dX12_readItems_25 : decode cX12_readItems 25 = .ok (.iinc 5 1, 3) := by decide +kernel
theorem dX12_readItems_28 : decode cX12_readItems 28 = .ok (.goto (-25), 3) := by decide +kernel
theorem dX12_readItems_31 : decode cX12_readItems 31 = .ok (.iconst 0, 1) := by decide +kernel
theorem dX12_readItems_32 : decode cX12_readItems 32 = .ok (.istore 5, 2) := by decide +kernel
theorem dX12_readItems_34 : decode cX12_readItems 34 = .ok (.aload 4, 2) := by decide +kernel
theorem dX12_readItems_36 : decode cX12_readItems 36 = .ok (.aload_n 0, 1) := by decide +kernel
theorem dX12_readItems_37 : decode cX12_readItems 37 = .ok (.invokevirtual 131, 3) := by decide +kernel
theorem dX12_readItems_40 : decode cX12_readItems 40 = .ok (.invokestatic 214, 3) := by decide +kernel
theorem dX12_readItems_43 : decode cX12_readItems 43 = .ok (.istore 6, 2) := by decide +kernel
theorem dX12_readItems_45 : decode cX12_readItems 45 = .ok (.iload 6, 2) := by decide +kernel
theorem dX12_readItems_47 : decode cX12_readItems 47 = .ok (.iconst (-1), 1) := by decide +kernel
theorem dX12_readItems_48 : decode cX12_readItems 48 = .ok (.if_icmp .eq 84, 3) := by decide +kernel
theorem dX12_readItems_51 : decode cX12_readItems 51 = .ok (.aload_n 0, 1) := by decide +kernel
theorem dX12_readItems_52 : decode cX12_readItems 52 = .ok (.getfield 121, 3) := by decide +kernel
theorem dX12_readItems_55 : decode cX12_readItems 55 = .ok (.iconst (-1), 1) := by decide +kernel
theorem dX12_readItems_56 : decode cX12_readItems 56 = .ok (.if_icmp .ne 76, 3) := by decide +kernel
theorem dX12_readItems_59 : decode cX12_readItems 59 = .ok (.iload 5, 2) := by decide +kernel
theorem dX12_readItems_61 : decode cX12_readItems 61 = .ok (.iload 6, 2) := by decide +kernel
theorem dX12_readItems_63 : decode cX12_readItems 63 = .ok (.invokestatic 218, 3) := by decide +kernel
theorem dX12_readItems_66 : decode cX12_readItems 66 = .ok (.ifCond .eq 9, 3) := by decide +kernel
theorem dX12_readItems_69 : decode cX12_readItems 69 = .ok (.aload_n 0, 1) := by decide +kernel
theorem dX12_readItems_70 : decode cX12_readItems 70 = .ok (.invokevirtual 127, 3) := by decide +kernel
theorem dX12_readItems_73 : decode cX12_readItems 73 = .ok (.pop, 1) := by decide +kernel
theorem dX12_readItems_74 : decode cX12_readItems 74 = .ok (.return_, 1) := by decide +kernel
theorem dX12_readItems_75 : decode cX12_readItems 75 = .ok (.iload 5, 2) := by decide +kernel
theorem dX12_readItems_77 : decode cX12_readItems 77 = .ok (.iconst 1, 1) := by decide +kernel
theorem dX12_readItems_78 : decode cX12_readItems 78 = .ok (.iload 6, 2) := by decide +kernel
theorem dX12_readItems_80 : decode cX12_readItems 80 = .ok (.ishl, 1) := by decide +kernel
theorem dX12_readItems_81 : decode cX12_readItems 81 = .ok (.ior, 1) := by decide +kernel
theorem dX12_readItems_82 : decode cX12_readItems 82 = .ok (.istore 5, 2) := by decide +kernel
theorem dX12_readItems_84 : decode cX12_readItems 84 = .ok (.aload_n 0, 1) := by decide +kernel
theorem dX12_readItems_85 : decode cX12_readItems 85 = .ok (.dup, 1) := by decide +kernel
theorem dX12_readItems_86 : decode cX12_readItems 86 = .ok (.getfield 112, 3) := by decide +kernel
theorem dX12_readItems_89 : decode cX12_readItems 89 = .ok (.iconst 1, 1) := by decide +kernel
theorem dX12_readItems_90 : decode cX12_readItems 90 = .ok (.iadd, 1) := by decide +kernel
theorem dX12_readItems_91 : decode cX12_readItems 91 = .ok (.putfield 112, 3) := by decide +kernel
theorem dX12_readItems_94 : decode cX12_readItems 94 = .ok (.aload_n 2, 1) := by decide +kernel
theorem dX12_readItems_95 : decode cX12_readItems 95 = .ok (.iload_n 3, 1) := by decide +kernel
theorem dX12_readItems_96 : decode cX12_readItems 96 = .ok (.iload 6, 2) := by decide +kernel
theorem dX12_readItems_98 : decode cX12_readItems 98 = .ok (.iadd, 1) := by decide +kernel
theorem dX12_readItems_99 : decode cX12_readItems 99 = .ok (.aload_n 0, 1) := by decide +kernel
theorem dX12_readItems_100 : decode cX12_readItems 100 = .ok (.iload_n 1, 1) := by decide +kernel
theorem dX12_readItems_101 : decode cX12_readItems 101 = .ok (.iload 6, 2) := by decide +kernel
theorem dX12_readItems_103 : decode cX12_readItems 103 = .ok (.invokestatic 222, 3) := by decide +kernel
theorem dX12_readItems_106 : decode cX12_readItems 106 = .ok (.invokevirtual 225, 3) := by decide +kernel
theorem dX12_readItems_109 : decode cX12_readItems 109 = .ok (.iastore, 1) := by decide +kernel
theorem dX12_readItems_110 : decode cX12_readItems 110 = .ok (.aload_n 0, 1) := by decide +kernel
theorem dX12_readItems_111 : decode cX12_readItems 111 = .ok (.getfield 121, 3) := by decide +kernel
theorem dX12_readItems_114 : decode cX12_readItems 114 = .ok (.iconst (-1), 1) := by decide +kernel
theorem dX12_readItems_115 : decode cX12_readItems 115 = .ok (.if_icmp .ne (-70), 3) := by decide +kernel
theorem dX12_readItems_118 : decode cX12_readItems 118 = .ok (.aload 4, 2) := by decide +kernel
theorem dX12_readItems_120 : decode cX12_readItems 120 = .ok (.aload_n 0, 1) := by decide +kernel
theorem dX12_readItems_121 : decode cX12_readItems 121 = .ok (.invokevirtual 131, 3) := by decide +kernel
theorem dX12_readItems_124 : decode cX12_readItems 124 = .ok (.invokestatic 214, 3) := by decide +kernel
theorem dX12_readItems_127 : decode cX12_readItems 127 = .ok (.istore 6, 2) := by decide +kernel
theorem dX12_readItems_129 : decode cX12_readItems 129 = .ok (.goto (-84), 3) := by decide +kernel
theorem dX12_readItems_132 : decode cX12_readItems 132 = .ok (.return_, 1) := by decide +kernel
theorem dX12_readClause_0 : decode cX12_readClause 0 = .ok (.aload_n 0, 1) := by decide +kernel
theorem dX12_readClause_1 : decode cX12_readClause 1 = .ok (.invokevirtual 131, 3) := by decide +kernel
theorem dX12_readClause_4 : decode cX12_readClause 4 = .ok (.istore_n 1, 1) := by decide +kernel
theorem dX12_readClause_5 : decode cX12_readClause 5 = .ok (.iload_n 1, 1) := by decide +kernel
theorem dX12_readClause_6 : decode cX12_readClause 6 = .ok (.bipush 115, 2) := by decide +kernel
theorem dX12_readClause_8 : decode cX12_readClause 8 = .ok (.if_icmp .ne 10, 3) := by decide +kernel
theorem dX12_readClause_11 : decode cX12_readClause 11 = .ok (.aload_n 0, 1) := by decide +kernel
theorem dX12_readClause_12 : decode cX12_readClause 12 = .ok (.getfield 228, 3) := by decide +kernel
theorem dX12_readClause_15 : decode cX12_readClause 15 = .ok (.ifCond .eq 33, 3) := by decide +kernel
theorem dX12_readClause_18 : decode cX12_readClause 18 = .ok (.iload_n 1, 1) := by decide +kernel
theorem dX12_readClause_19 : decode cX12_readClause 19 = .ok (.bipush 100, 2) := by decide +kernel
theorem dX12_readClause_21 : decode cX12_readClause 21 = .ok (.if_icmp .ne 12, 3) := by decide +kernel
theorem dX12_readClause_24 : decode cX12_readClause 24 = .ok (.aload_n 0, 1) := by decide +kernel
theorem dX12_readClause_25 : decode cX12_readClause 25 = .ok (.getfield 231, 3) := by decide +kernel
theorem dX12_readClause_28 : decode cX12_readClause 28 = .ok (.bipush 6, 2) := by decide +kernel
theorem dX12_readClause_30 : decode cX12_readClause 30 = .ok (.if_icmp .lt 18, 3) := by decide +kernel
theorem dX12_readClause_33 : decode cX12_readClause 33 = .ok (.iload_n 1, 1) := by decide +kernel
theorem dX12_readClause_34 : decode cX12_readClause 34 = .ok (.bipush 103, 2) := by decide +kernel
theorem dX12_readClause_36 : decode cX12_readClause 36 = .ok (.if_icmp .ne 16, 3) := by decide +kernel
theorem dX12_readClause_39 : decode cX12_readClause 39 = .ok (.aload_n 0, 1) := by decide +kernel
theorem dX12_readClause_40 : decode cX12_readClause 40 = .ok (.getfield 234, 3) := by decide +kernel
theorem dX12_readClause_43 : decode cX12_readClause 43 = .ok (.bipush 6, 2) := by decide +kernel
theorem dX12_readClause_45 : decode cX12_readClause 45 = .ok (.if_icmp .ge 7, 3) := by decide +kernel
theorem dX12_readClause_48 : decode cX12_readClause 48 = .ok (.iconst 1, 1) := by decide +kernel
theorem dX12_readClause_49 : decode cX12_readClause 49 = .ok (.goto 4, 3) := by decide +kernel
theorem dX12_readClause_52 : decode cX12_readClause 52 = .ok (.iconst 0, 1) := by decide +kernel
theorem dX12_readClause_53 : decode cX12_readClause 53 = .ok (.istore_n 2, 1) := by decide +kernel
theorem dX12_readClause_54 : decode cX12_readClause 54 = .ok (.iload_n 2, 1) := by decide +kernel
theorem dX12_readClause_55 : decode cX12_readClause 55 = .ok (.ifCond .ne 9, 3) := by decide +kernel
theorem dX12_readClause_58 : decode cX12_readClause 58 = .ok (.aload_n 0, 1) := by decide +kernel
theorem dX12_readClause_59 : decode cX12_readClause 59 = .ok (.invokevirtual 127, 3) := by decide +kernel
theorem dX12_readClause_62 : decode cX12_readClause 62 = .ok (.pop, 1) := by decide +kernel
theorem dX12_readClause_63 : decode cX12_readClause 63 = .ok (.return_, 1) := by decide +kernel
theorem dX12_readClause_64 : decode cX12_readClause 64 = .ok (.aload_n 0, 1) := by decide +kernel
theorem dX12_readClause_65 : decode cX12_readClause 65 = .ok (.dup, 1) := by decide +kernel
theorem dX12_readClause_66 : decode cX12_readClause 66 = .ok (.getfield 112, 3) := by decide +kernel
theorem dX12_readClause_69 : decode cX12_readClause 69 = .ok (.iconst 1, 1) := by decide +kernel
theorem dX12_readClause_70 : decode cX12_readClause 70 = .ok (.iadd, 1) := by decide +kernel
theorem dX12_readClause_71 : decode cX12_readClause 71 = .ok (.putfield 112, 3) := by decide +kernel
theorem dX12_readClause_74 : decode cX12_readClause 74 = .ok (.iload_n 1, 1) := by decide +kernel
theorem dX12_readClause_75 : decode cX12_readClause 75 = .ok (.bipush 115, 2) := by decide +kernel
theorem dX12_readClause_77 : decode cX12_readClause 77 = .ok (.if_icmp .ne 23, 3) := by decide +kernel
theorem dX12_readClause_80 : decode cX12_readClause 80 = .ok (.aload_n 0, 1) := by decide +kernel
theorem dX12_readClause_81 : decode cX12_readClause 81 = .ok (.iconst 1, 1) := by decide +kernel
theorem dX12_readClause_82 : decode cX12_readClause 82 = .ok (.putfield 228, 3) := by decide +kernel
theorem dX12_readClause_85 : decode cX12_readClause 85 = .ok (.aload_n 0, 1) := by decide +kernel
theorem dX12_readClause_86 : decode cX12_readClause 86 = .ok (.iload_n 1, 1) := by decide +kernel
theorem dX12_readClause_87 : decode cX12_readClause 87 = .ok (.aload_n 0, 1) := by decide +kernel
theorem dX12_readClause_88 : decode cX12_readClause 88 = .ok (.getfield 40, 3) := by decide +kernel
theorem dX12_readClause_91 : decode cX12_readClause 91 = .ok (.iconst 0, 1) := by decide +kernel
theorem dX12_readClause_92 : decode cX12_readClause 92 = .ok (.ldc 237, 2) := by decide +kernel
theorem dX12_readClause_94 : decode cX12_readClause 94 = .ok (.invokevirtual 239, 3) := by decide +kernel
theorem dX12_readClause_97 : decode cX12_readClause 97 = .ok (.goto 70, 3) := by decide +kernel
theorem dX12_readClause_100 : decode cX12_readClause 100 = .ok (.iload_n 1, 1) := by decide +kernel
theorem dX12_readClause_101 : decode cX12_readClause 101 = .ok (.bipush 100, 2) := by decide +kernel
theorem dX12_readClause_103 : decode cX12_readClause 103 = .ok (.if_icmp .ne 35, 3) := by decide +kernel
theorem dX12_readClause_106 : decode cX12_readClause 106 = .ok (.aload_n 0, 1) := by decide +kernel
theorem dX12_readClause_107 : decode cX12_readClause 107 = .ok (.dup, 1) := by decide +kernel
theorem dX12_readClause_108 : decode cX12_readClause 108 = .ok (.getfield 231, 3) := by decide +kernel
theorem dX12_readClause_111 : decode cX12_readClause 111 = .ok (.iconst 1, 1) := by decide +kernel
theorem dX12_readClause_112 : decode cX12_readClause 112 = .ok (.iadd, 1) := by decide +kernel
theorem dX12_readClause_113 : decode cX12_readClause 113 = .ok (.putfield 231, 3) := by decide +kernel
theorem dX12_readClause_116 : decode cX12_readClause 116 = .ok (.aload_n 0, 1) := by decide +kernel
theorem dX12_readClause_117 : decode cX12_readClause 117 = .ok (.iload_n 1, 1) := by decide +kernel
theorem dX12_readClause_118 : decode cX12_readClause 118 = .ok (.aload_n 0, 1) := by decide +kernel
theorem dX12_readClause_119 : decode cX12_readClause 119 = .ok (.getfield 46, 3) := by decide +kernel
theorem dX12_readClause_122 : decode cX12_readClause 122 = .ok (.iconst 2, 1) := by decide +kernel
theorem dX12_readClause_123 : decode cX12_readClause 123 = .ok (.aload_n 0, 1) := by decide +kernel
theorem dX12_readClause_124 : decode cX12_readClause 124 = .ok (.getfield 231, 3) := by decide +kernel
theorem dX12_readClause_127 : decode cX12_readClause 127 = .ok (.iconst 1, 1) := by decide +kernel
theorem dX12_readClause_128 : decode cX12_readClause 128 = .ok (.isub, 1) := by decide +kernel
theorem dX12_readClause_129 : decode cX12_readClause 129 = .ok (.imul, 1) := by decide +kernel
theorem dX12_readClause_130 : decode cX12_readClause 130 = .ok (.ldc 243, 2) := by decide +kernel
theorem dX12_readClause_132 : decode cX12_readClause 132 = .ok (.invokevirtual 239, 3) := by decide +kernel
theorem dX12_readClause_135 : decode cX12_readClause 135 = .ok (.goto 32, 3) := by decide +kernel
theorem dX12_readClause_138 : decode cX12_readClause 138 = .ok (.aload_n 0, 1) := by decide +kernel
theorem dX12_readClause_139 : decode cX12_readClause 139 = .ok (.dup, 1) := by decide +kernel
theorem dX12_readClause_140 : decode cX12_readClause 140 = .ok (.getfield 234, 3) := by decide +kernel
theorem dX12_readClause_143 : decode cX12_readClause 143 = .ok (.iconst 1, 1) := by decide +kernel
theorem dX12_readClause_144 : decode cX12_readClause 144 = .ok (.iadd, 1) := by decide +kernel
theorem dX12_readClause_145 : decode cX12_readClause 145 = .ok (.putfield 234, 3) := by decide +kernel
theorem dX12_readClause_148 : decode cX12_readClause 148 = .ok (.aload_n 0, 1) := by decide +kernel
theorem dX12_readClause_149 : decode cX12_readClause 149 = .ok (.iload_n 1, 1) := by decide +kernel
theorem dX12_readClause_150 : decode cX12_readClause 150 = .ok (.aload_n 0, 1) := by decide +kernel
theorem dX12_readClause_151 : decode cX12_readClause 151 = .ok (.getfield 52, 3) := by decide +kernel
theorem dX12_readClause_154 : decode cX12_readClause 154 = .ok (.iconst 3, 1) := by decide +kernel
theorem dX12_readClause_155 : decode cX12_readClause 155 = .ok (.aload_n 0, 1) := by decide +kernel
theorem dX12_readClause_156 : decode cX12_readClause 156 = .ok (.getfield 234, 3) := by decide +kernel
theorem dX12_readClause_159 : decode cX12_readClause 159 = .ok (.iconst 1, 1) := by decide +kernel
theorem dX12_readClause_160 : decode cX12_readClause 160 = .ok (.isub, 1) := by decide +kernel
theorem dX12_readClause_161 : decode cX12_readClause 161 = .ok (.imul, 1) := by decide +kernel
theorem dX12_readClause_162 : decode cX12_readClause 162 = .ok (.ldc 245, 2) := by decide +kernel
theorem dX12_readClause_164 : decode cX12_readClause 164 = .ok (.invokevirtual 239, 3) := by decide +kernel
theorem dX12_readClause_167 : decode cX12_readClause 167 = .ok (.return_, 1) := by decide +kernel
theorem dX12_isWhole_0 : decode cX12_isWhole 0 = .ok (.iconst 0, 1) := by decide +kernel
theorem dX12_isWhole_1 : decode cX12_isWhole 1 = .ok (.istore_n 1, 1) := by decide +kernel
theorem dX12_isWhole_2 : decode cX12_isWhole 2 = .ok (.iload_n 1, 1) := by decide +kernel
theorem dX12_isWhole_3 : decode cX12_isWhole 3 = .ok (.aload_n 0, 1) := by decide +kernel
theorem dX12_isWhole_4 : decode cX12_isWhole 4 = .ok (.getfield 234, 3) := by decide +kernel
theorem dX12_isWhole_7 : decode cX12_isWhole 7 = .ok (.if_icmp .ge 26, 3) := by decide +kernel
theorem dX12_isWhole_10 : decode cX12_isWhole 10 = .ok (.aload_n 0, 1) := by decide +kernel
theorem dX12_isWhole_11 : decode cX12_isWhole 11 = .ok (.getfield 52, 3) := by decide +kernel
theorem dX12_isWhole_14 : decode cX12_isWhole 14 = .ok (.iconst 3, 1) := by decide +kernel
theorem dX12_isWhole_15 : decode cX12_isWhole 15 = .ok (.iload_n 1, 1) := by decide +kernel
theorem dX12_isWhole_16 : decode cX12_isWhole 16 = .ok (.imul, 1) := by decide +kernel
theorem dX12_isWhole_17 : decode cX12_isWhole 17 = .ok (.iaload, 1) := by decide +kernel
theorem dX12_isWhole_18 : decode cX12_isWhole 18 = .ok (.aload_n 0, 1) := by decide +kernel
theorem dX12_isWhole_19 : decode cX12_isWhole 19 = .ok (.getfield 231, 3) := by decide +kernel
theorem dX12_isWhole_22 : decode cX12_isWhole 22 = .ok (.if_icmp .lt 5, 3) := by decide +kernel
theorem dX12_isWhole_25 : decode cX12_isWhole 25 = .ok (.iconst 0, 1) := by decide +kernel
theorem dX12_isWhole_26 : decode cX12_isWhole 26 = .ok (.ireturn, 1) := by decide +kernel
theorem dX12_isWhole_27 : decode cX12_isWhole 27 = .ok (.iinc 1 1, 3) := by decide +kernel
theorem dX12_isWhole_30 : decode cX12_isWhole 30 = .ok (.goto (-28), 3) := by decide +kernel
theorem dX12_isWhole_33 : decode cX12_isWhole 33 = .ok (.aload_n 0, 1) := by decide +kernel
theorem dX12_isWhole_34 : decode cX12_isWhole 34 = .ok (.getfield 231, 3) := by decide +kernel
theorem dX12_isWhole_37 : decode cX12_isWhole 37 = .ok (.iconst 1, 1) := by decide +kernel
theorem dX12_isWhole_38 : decode cX12_isWhole 38 = .ok (.if_icmp .le 27, 3) := by decide +kernel
theorem dX12_isWhole_41 : decode cX12_isWhole 41 = .ok (.aload_n 0, 1) := by decide +kernel
theorem dX12_isWhole_42 : decode cX12_isWhole 42 = .ok (.getfield 234, 3) := by decide +kernel
theorem dX12_isWhole_45 : decode cX12_isWhole 45 = .ok (.ifCond .le 20, 3) := by decide +kernel
theorem dX12_isWhole_48 : decode cX12_isWhole 48 = .ok (.aload_n 0, 1) := by decide +kernel
theorem dX12_isWhole_49 : decode cX12_isWhole 49 = .ok (.getfield 40, 3) := by decide +kernel
theorem dX12_isWhole_52 : decode cX12_isWhole 52 = .ok (.iconst 0, 1) := by decide +kernel
theorem dX12_isWhole_53 : decode cX12_isWhole 53 = .ok (.iaload, 1) := by decide +kernel
theorem dX12_isWhole_54 : decode cX12_isWhole 54 = .ok (.aload_n 0, 1) := by decide +kernel
theorem dX12_isWhole_55 : decode cX12_isWhole 55 = .ok (.getfield 231, 3) := by decide +kernel
theorem dX12_isWhole_58 : decode cX12_isWhole 58 = .ok (.if_icmp .ge 7, 3) := by decide +kernel
theorem dX12_isWhole_61 : decode cX12_isWhole 61 = .ok (.iconst 1, 1) := by decide +kernel
theorem dX12_isWhole_62 : decode cX12_isWhole 62 = .ok (.goto 4, 3) := by decide +kernel
theorem dX12_isWhole_65 : decode cX12_isWhole 65 = .ok (.iconst 0, 1) := by decide +kernel
theorem dX12_isWhole_66 : decode cX12_isWhole 66 = .ok (.ireturn, 1) := by decide +kernel
theorem dX12_readHouse_0 : decode cX12_readHouse 0 = .ok (.aload_n 0, 1) := by decide +kernel
theorem dX12_readHouse_1 : decode cX12_readHouse 1 = .ok (.aload_n 0, 1) := by decide +kernel
theorem dX12_readHouse_2 : decode cX12_readHouse 2 = .ok (.getfield 9, 3) := by decide +kernel
theorem dX12_readHouse_5 : decode cX12_readHouse 5 = .ok (.iconst 0, 1) := by decide +kernel
theorem dX12_readHouse_6 : decode cX12_readHouse 6 = .ok (.aload_n 0, 1) := by decide +kernel
theorem dX12_readHouse_7 : decode cX12_readHouse 7 = .ok (.getfield 102, 3) := by decide +kernel
theorem dX12_readHouse_10 : decode cX12_readHouse 10 = .ok (.invokevirtual 200, 3) := by decide +kernel
theorem dX12_readHouse_13 : decode cX12_readHouse 13 = .ok (.aload_n 0, 1) := by decide +kernel
theorem dX12_readHouse_14 : decode cX12_readHouse 14 = .ok (.iconst 0, 1) := by decide +kernel
theorem dX12_readHouse_15 : decode cX12_readHouse 15 = .ok (.putfield 231, 3) := by decide +kernel
theorem dX12_readHouse_18 : decode cX12_readHouse 18 = .ok (.aload_n 0, 1) := by decide +kernel
theorem dX12_readHouse_19 : decode cX12_readHouse 19 = .ok (.iconst 0, 1) := by decide +kernel
theorem dX12_readHouse_20 : decode cX12_readHouse 20 = .ok (.putfield 234, 3) := by decide +kernel
theorem dX12_readHouse_23 : decode cX12_readHouse 23 = .ok (.aload_n 0, 1) := by decide +kernel
theorem dX12_readHouse_24 : decode cX12_readHouse 24 = .ok (.iconst 0, 1) := by decide +kernel
theorem dX12_readHouse_25 : decode cX12_readHouse 25 = .ok (.putfield 228, 3) := by decide +kernel
theorem dX12_readHouse_28 : decode cX12_readHouse 28 = .ok (.iconst 0, 1) := by decide +kernel
theorem dX12_readHouse_29 : decode cX12_readHouse 29 = .ok (.istore_n 1, 1) := by decide +kernel
theorem dX12_readHouse_30 : decode cX12_readHouse 30 = .ok (.iload_n 1, 1) := by decide +kernel
theorem dX12_readHouse_31 : decode cX12_readHouse 31 = .ok (.iconst 3, 1) := by decide +kernel
theorem dX12_readHouse_32 : decode cX12_readHouse 32 = .ok (.if_icmp .ge 21, 3) := by decide +kernel
theorem dX12_readHouse_35 : decode cX12_readHouse 35 = .ok (.aload_n 0, 1) := by decide +kernel
theorem dX12_readHouse_36 : decode cX12_readHouse 36 = .ok (.getfield 40, 3) := by decide +kernel
theorem dX12_readHouse_39 : decode cX12_readHouse 39 = .ok (.iload_n 1, 1) := by decide +kernel
theorem dX12_readHouse_40 : decode cX12_readHouse 40 = .ok (.bipush 115, 2) := by decide +kernel
theorem dX12_readHouse_42 : decode cX12_readHouse 42 = .ok (.iload_n 1, 1) := by decide +kernel
theorem dX12_readHouse_43 : decode cX12_readHouse 43 = .ok (.invokestatic 210, 3) := by decide +kernel
theorem dX12_readHouse_46 : decode cX12_readHouse 46 = .ok (.iastore, 1) := by decide +kernel
theorem dX12_readHouse_47 : decode cX12_readHouse 47 = .ok (.iinc 1 1, 3) := by decide +kernel
theorem dX12_readHouse_50 : decode cX12_readHouse 50 = .ok (.goto (-20), 3) := by decide +kernel
theorem dX12_readHouse_53 : decode cX12_readHouse 53 = .ok (.iconst 1, 1) := by decide +kernel
theorem dX12_readHouse_54 : decode cX12_readHouse 54 = .ok (.istore_n 1, 1) := by decide +kernel
theorem dX12_readHouse_55 : decode cX12_readHouse 55 = .ok (.iload_n 1, 1) := by decide +kernel
theorem dX12_readHouse_56 : decode cX12_readHouse 56 = .ok (.ifCond .eq 55, 3) := by decide +kernel
theorem dX12_readHouse_59 : decode cX12_readHouse 59 = .ok (.aload_n 0, 1) := by decide +kernel
theorem dX12_readHouse_60 : decode cX12_readHouse 60 = .ok (.getfield 121, 3) := by decide +kernel
theorem dX12_readHouse_63 : decode cX12_readHouse 63 = .ok (.iconst (-1), 1) := by decide +kernel
theorem dX12_readHouse_64 : decode cX12_readHouse 64 = .ok (.if_icmp .ne 47, 3) := by decide +kernel
theorem dX12_readHouse_67 : decode cX12_readHouse 67 = .ok (.aload_n 0, 1) := by decide +kernel
theorem dX12_readHouse_68 : decode cX12_readHouse 68 = .ok (.invokevirtual 247, 3) := by decide +kernel
theorem dX12_readHouse_71 : decode cX12_readHouse 71 = .ok (.aload_n 0, 1) := by decide +kernel
theorem dX12_readHouse_72 : decode cX12_readHouse 72 = .ok (.getfield 121, 3) := by decide +kernel
theorem dX12_readHouse_75 : decode cX12_readHouse 75 = .ok (.iconst (-1), 1) := by decide +kernel
theorem dX12_readHouse_76 : decode cX12_readHouse 76 = .ok (.if_icmp .ne 16, 3) := by decide +kernel
theorem dX12_readHouse_79 : decode cX12_readHouse 79 = .ok (.aload_n 0, 1) := by decide +kernel
theorem dX12_readHouse_80 : decode cX12_readHouse 80 = .ok (.invokevirtual 131, 3) := by decide +kernel
theorem dX12_readHouse_83 : decode cX12_readHouse 83 = .ok (.bipush 59, 2) := by decide +kernel
theorem dX12_readHouse_85 : decode cX12_readHouse 85 = .ok (.if_icmp .ne 7, 3) := by decide +kernel
theorem dX12_readHouse_88 : decode cX12_readHouse 88 = .ok (.iconst 1, 1) := by decide +kernel
theorem dX12_readHouse_89 : decode cX12_readHouse 89 = .ok (.goto 4, 3) := by decide +kernel
theorem dX12_readHouse_92 : decode cX12_readHouse 92 = .ok (.iconst 0, 1) := by decide +kernel
theorem dX12_readHouse_93 : decode cX12_readHouse 93 = .ok (.istore_n 1, 1) := by decide +kernel
theorem dX12_readHouse_94 : decode cX12_readHouse 94 = .ok (.iload_n 1, 1) := by decide +kernel
theorem dX12_readHouse_95 : decode cX12_readHouse 95 = .ok (.ifCond .eq (-40), 3) := by decide +kernel
theorem dX12_readHouse_98 : decode cX12_readHouse 98 = .ok (.aload_n 0, 1) := by decide +kernel
theorem dX12_readHouse_99 : decode cX12_readHouse 99 = .ok (.dup, 1) := by decide +kernel
theorem dX12_readHouse_100 : decode cX12_readHouse 100 = .ok (.getfield 112, 3) := by decide +kernel
theorem dX12_readHouse_103 : decode cX12_readHouse 103 = .ok (.iconst 1, 1) := by decide +kernel
theorem dX12_readHouse_104 : decode cX12_readHouse 104 = .ok (.iadd, 1) := by decide +kernel
theorem dX12_readHouse_105 : decode cX12_readHouse 105 = .ok (.putfield 112, 3) := by decide +kernel
theorem dX12_readHouse_108 : decode cX12_readHouse 108 = .ok (.goto (-53), 3) := by decide +kernel
theorem dX12_readHouse_111 : decode cX12_readHouse 111 = .ok (.aload_n 0, 1) := by decide +kernel
theorem dX12_readHouse_112 : decode cX12_readHouse 112 = .ok (.getfield 121, 3) := by decide +kernel
theorem dX12_readHouse_115 : decode cX12_readHouse 115 = .ok (.iconst (-1), 1) := by decide +kernel
theorem dX12_readHouse_116 : decode cX12_readHouse 116 = .ok (.if_icmp .ne 23, 3) := by decide +kernel
theorem dX12_readHouse_119 : decode cX12_readHouse 119 = .ok (.aload_n 0, 1) := by decide +kernel
theorem dX12_readHouse_120 : decode cX12_readHouse 120 = .ok (.invokevirtual 131, 3) := by decide +kernel
theorem dX12_readHouse_123 : decode cX12_readHouse 123 = .ok (.iconst (-1), 1) := by decide +kernel
theorem dX12_readHouse_124 : decode cX12_readHouse 124 = .ok (.if_icmp .ne 10, 3) := by decide +kernel
theorem dX12_readHouse_127 : decode cX12_readHouse 127 = .ok (.aload_n 0, 1) := by decide +kernel
theorem dX12_readHouse_128 : decode cX12_readHouse 128 = .ok (.invokevirtual 250, 3) := by decide +kernel
theorem dX12_readHouse_131 : decode cX12_readHouse 131 = .ok (.ifCond .ne 8, 3) := by decide +kernel
theorem dX12_readHouse_134 : decode cX12_readHouse 134 = .ok (.aload_n 0, 1) := by decide +kernel
theorem dX12_readHouse_135 : decode cX12_readHouse 135 = .ok (.invokevirtual 127, 3) := by decide +kernel
theorem dX12_readHouse_138 : decode cX12_readHouse 138 = .ok (.pop, 1) := by decide +kernel
theorem dX12_readHouse_139 : decode cX12_readHouse 139 = .ok (.return_, 1) := by decide +kernel
theorem dX12_readStep_0 : decode cX12_readStep 0 = .ok (.ldc 253, 2) := by decide +kernel
theorem dX12_readStep_2 : decode cX12_readStep 2 = .ok (.aload_n 0, 1) := by decide +kernel
theorem dX12_readStep_3 : decode cX12_readStep 3 = .ok (.invokevirtual 131, 3) := by decide +kernel
theorem dX12_readStep_6 : decode cX12_readStep 6 = .ok (.invokestatic 214, 3) := by decide +kernel
theorem dX12_readStep_9 : decode cX12_readStep 9 = .ok (.istore_n 2, 1) := by decide +kernel
theorem dX12_readStep_10 : decode cX12_readStep 10 = .ok (.iload_n 2, 1) := by decide +kernel
theorem dX12_readStep_11 : decode cX12_readStep 11 = .ok (.iconst (-1), 1) := by decide +kernel
theorem dX12_readStep_12 : decode cX12_readStep 12 = .ok (.if_icmp .ne 9, 3) := by decide +kernel
theorem dX12_readStep_15 : decode cX12_readStep 15 = .ok (.aload_n 0, 1) := by decide +kernel
theorem dX12_readStep_16 : decode cX12_readStep 16 = .ok (.invokevirtual 127, 3) := by decide +kernel
theorem dX12_readStep_19 : decode cX12_readStep 19 = .ok (.pop, 1) := by decide +kernel
theorem dX12_readStep_20 : decode cX12_readStep 20 = .ok (.return_, 1) := by decide +kernel
theorem dX12_readStep_21 : decode cX12_readStep 21 = .ok (.aload_n 0, 1) := by decide +kernel
theorem dX12_readStep_22 : decode cX12_readStep 22 = .ok (.dup, 1) := by decide +kernel
theorem dX12_readStep_23 : decode cX12_readStep 23 = .ok (.getfield 112, 3) := by decide +kernel
theorem dX12_readStep_26 : decode cX12_readStep 26 = .ok (.iconst 1, 1) := by decide +kernel
theorem dX12_readStep_27 : decode cX12_readStep 27 = .ok (.iadd, 1) := by decide +kernel
theorem dX12_readStep_28 : decode cX12_readStep 28 = .ok (.putfield 112, 3) := by decide +kernel
theorem dX12_readStep_31 : decode cX12_readStep 31 = .ok (.aload_n 0, 1) := by decide +kernel
theorem dX12_readStep_32 : decode cX12_readStep 32 = .ok (.getfield 55, 3) := by decide +kernel
theorem dX12_readStep_35 : decode cX12_readStep 35 = .ok (.iload_n 1, 1) := by decide +kernel
theorem dX12_readStep_36 : decode cX12_readStep 36 = .ok (.iload_n 2, 1) := by decide +kernel
theorem dX12_readStep_37 : decode cX12_readStep 37 = .ok (.iastore, 1) := by decide +kernel
theorem dX12_readStep_38 : decode cX12_readStep 38 = .ok (.aload_n 0, 1) := by decide +kernel
theorem dX12_readStep_39 : decode cX12_readStep 39 = .ok (.getfield 55, 3) := by decide +kernel
theorem dX12_readStep_42 : decode cX12_readStep 42 = .ok (.iload_n 1, 1) := by decide +kernel
theorem dX12_readStep_43 : decode cX12_readStep 43 = .ok (.iconst 1, 1) := by decide +kernel
theorem dX12_readStep_44 : decode cX12_readStep 44 = .ok (.iadd, 1) := by decide +kernel
theorem dX12_readStep_45 : decode cX12_readStep 45 = .ok (.iconst (-1), 1) := by decide +kernel
theorem dX12_readStep_46 : decode cX12_readStep 46 = .ok (.iastore, 1) := by decide +kernel
theorem dX12_readStep_47 : decode cX12_readStep 47 = .ok (.iload_n 2, 1) := by decide +kernel
theorem dX12_readStep_48 : decode cX12_readStep 48 = .ok (.iconst 1, 1) := by decide +kernel
theorem dX12_readStep_49 : decode cX12_readStep 49 = .ok (.if_icmp .ne 4, 3) := by decide +kernel
theorem dX12_readStep_52 : decode cX12_readStep 52 = .ok (.return_, 1) := by decide +kernel
theorem dX12_readStep_53 : decode cX12_readStep 53 = .ok (.aload_n 0, 1) := by decide +kernel
theorem dX12_readStep_54 : decode cX12_readStep 54 = .ok (.invokevirtual 131, 3) := by decide +kernel
theorem dX12_readStep_57 : decode cX12_readStep 57 = .ok (.istore_n 3, 1) := by decide +kernel
theorem dX12_readStep_58 : decode cX12_readStep 58 = .ok (.aload_n 0, 1) := by decide +kernel
theorem dX12_readStep_59 : decode cX12_readStep 59 = .ok (.invokevirtual 161, 3) := by decide +kernel
theorem dX12_readStep_62 : decode cX12_readStep 62 = .ok (.ifCond .ne 9, 3) := by decide +kernel
theorem dX12_readStep_65 : decode cX12_readStep 65 = .ok (.aload_n 0, 1) := by decide +kernel
theorem dX12_readStep_66 : decode cX12_readStep 66 = .ok (.invokevirtual 127, 3) := by decide +kernel
theorem dX12_readStep_69 : decode cX12_readStep 69 = .ok (.pop, 1) := by decide +kernel
theorem dX12_readStep_70 : decode cX12_readStep 70 = .ok (.return_, 1) := by decide +kernel
theorem dX12_readStep_71 : decode cX12_readStep 71 = .ok (.aload_n 0, 1) := by decide +kernel
theorem dX12_readStep_72 : decode cX12_readStep 72 = .ok (.getfield 55, 3) := by decide +kernel
theorem dX12_readStep_75 : decode cX12_readStep 75 = .ok (.iload_n 1, 1) := by decide +kernel
theorem dX12_readStep_76 : decode cX12_readStep 76 = .ok (.iconst 1, 1) := by decide +kernel
theorem dX12_readStep_77 : decode cX12_readStep 77 = .ok (.iadd, 1) := by decide +kernel
theorem dX12_readStep_78 : decode cX12_readStep 78 = .ok (.iload_n 3, 1) := by decide +kernel
theorem dX12_readStep_79 : decode cX12_readStep 79 = .ok (.bipush 48, 2) := by decide +kernel
theorem dX12_readStep_81 : decode cX12_readStep 81 = .ok (.isub, 1) := by decide +kernel
theorem dX12_readStep_82 : decode cX12_readStep 82 = .ok (.iastore, 1) := by decide +kernel
theorem dX12_readStep_83 : decode cX12_readStep 83 = .ok (.aload_n 0, 1) := by decide +kernel
theorem dX12_readStep_84 : decode cX12_readStep 84 = .ok (.dup, 1) := by decide +kernel
theorem dX12_readStep_85 : decode cX12_readStep 85 = .ok (.getfield 112, 3) := by decide +kernel
theorem dX12_readStep_88 : decode cX12_readStep 88 = .ok (.iconst 1, 1) := by decide +kernel
theorem dX12_readStep_89 : decode cX12_readStep 89 = .ok (.iadd, 1) := by decide +kernel
theorem dX12_readStep_90 : decode cX12_readStep 90 = .ok (.putfield 112, 3) := by decide +kernel
theorem dX12_readStep_93 : decode cX12_readStep 93 = .ok (.return_, 1) := by decide +kernel
theorem dX12_readWinter_0 : decode cX12_readWinter 0 = .ok (.aload_n 0, 1) := by decide +kernel
theorem dX12_readWinter_1 : decode cX12_readWinter 1 = .ok (.aload_n 0, 1) := by decide +kernel
theorem dX12_readWinter_2 : decode cX12_readWinter 2 = .ok (.getfield 9, 3) := by decide +kernel
theorem dX12_readWinter_5 : decode cX12_readWinter 5 = .ok (.iconst 0, 1) := by decide +kernel
theorem dX12_readWinter_6 : decode cX12_readWinter 6 = .ok (.aload_n 0, 1) := by decide +kernel
theorem dX12_readWinter_7 : decode cX12_readWinter 7 = .ok (.getfield 102, 3) := by decide +kernel
theorem dX12_readWinter_10 : decode cX12_readWinter 10 = .ok (.invokevirtual 200, 3) := by decide +kernel
theorem dX12_readWinter_13 : decode cX12_readWinter 13 = .ok (.iconst 0, 1) := by decide +kernel
theorem dX12_readWinter_14 : decode cX12_readWinter 14 = .ok (.istore_n 1, 1) := by decide +kernel
theorem dX12_readWinter_15 : decode cX12_readWinter 15 = .ok (.iconst 1, 1) := by decide +kernel
theorem dX12_readWinter_16 : decode cX12_readWinter 16 = .ok (.istore_n 2, 1) := by decide +kernel
theorem dX12_readWinter_17 : decode cX12_readWinter 17 = .ok (.iload_n 2, 1) := by decide +kernel
theorem dX12_readWinter_18 : decode cX12_readWinter 18 = .ok (.ifCond .eq 73, 3) := by decide +kernel
theorem dX12_readWinter_21 : decode cX12_readWinter 21 = .ok (.aload_n 0, 1) := by decide +kernel
theorem dX12_readWinter_22 : decode cX12_readWinter 22 = .ok (.iconst 2, 1) := by decide +kernel
theorem dX12_readWinter_23 : decode cX12_readWinter 23 = .ok (.bipush 64, 2) := by decide +kernel
theorem dX12_readWinter_25 : decode cX12_readWinter 25 = .ok (.iload_n 1, 1) := by decide +kernel
theorem dX12_readWinter_26 : decode cX12_readWinter 26 = .ok (.iadd, 1) := by decide +kernel
theorem dX12_readWinter_27 : decode cX12_readWinter 27 = .ok (.imul, 1) := by decide +kernel
theorem dX12_readWinter_28 : decode cX12_readWinter 28 = .ok (.invokevirtual 255, 3) := by decide +kernel
theorem dX12_readWinter_31 : decode cX12_readWinter 31 = .ok (.aload_n 0, 1) := by decide +kernel
theorem dX12_readWinter_32 : decode cX12_readWinter 32 = .ok (.getfield 121, 3) := by decide +kernel
theorem dX12_readWinter_35 : decode cX12_readWinter 35 = .ok (.iconst (-1), 1) := by decide +kernel
theorem dX12_readWinter_36 : decode cX12_readWinter 36 = .ok (.if_icmp .eq 4, 3) := by decide +kernel
theorem dX12_readWinter_39 : decode cX12_readWinter 39 = .ok (.return_, 1) := by decide +kernel
theorem dX12_readWinter_40 : decode cX12_readWinter 40 = .ok (.iinc 1 1, 3) := by decide +kernel
theorem dX12_readWinter_43 : decode cX12_readWinter 43 = .ok (.aload_n 0, 1) := by decide +kernel
theorem dX12_readWinter_44 : decode cX12_readWinter 44 = .ok (.invokevirtual 131, 3) := by decide +kernel
theorem dX12_readWinter_47 : decode cX12_readWinter 47 = .ok (.bipush 59, 2) := by decide +kernel
theorem dX12_readWinter_49 : decode cX12_readWinter 49 = .ok (.if_icmp .ne 7, 3) := by decide +kernel
theorem dX12_readWinter_52 : decode cX12_readWinter 52 = .ok (.iconst 1, 1) := by decide +kernel
theorem dX12_readWinter_53 : decode cX12_readWinter 53 = .ok (.goto 4, 3) := by decide +kernel
theorem dX12_readWinter_56 : decode cX12_readWinter 56 = .ok (.iconst 0, 1) := by decide +kernel
theorem dX12_readWinter_57 : decode cX12_readWinter 57 = .ok (.istore_n 2, 1) := by decide +kernel
theorem dX12_readWinter_58 : decode cX12_readWinter 58 = .ok (.iload_n 2, 1) := by decide +kernel
theorem dX12_readWinter_59 : decode cX12_readWinter 59 = .ok (.ifCond .eq 15, 3) := by decide +kernel
theorem dX12_readWinter_62 : decode cX12_readWinter 62 = .ok (.iload_n 1, 1) := by decide +kernel
theorem dX12_readWinter_63 : decode cX12_readWinter 63 = .ok (.bipush 16, 2) := by decide +kernel
theorem dX12_readWinter_65 : decode cX12_readWinter 65 = .ok (.if_icmp .ne 9, 3) := by decide +kernel
theorem dX12_readWinter_68 : decode cX12_readWinter 68 = .ok (.aload_n 0, 1) := by decide +kernel
theorem dX12_readWinter_69 : decode cX12_readWinter 69 = .ok (.invokevirtual 127, 3) := by decide +kernel
theorem dX12_readWinter_72 : decode cX12_readWinter 72 = .ok (.pop, 1) := by decide +kernel
theorem dX12_readWinter_73 : decode cX12_readWinter 73 = .ok (.return_, 1) := by decide +kernel
theorem dX12_readWinter_74 : decode cX12_readWinter 74 = .ok (.iload_n 2, 1) := by decide +kernel
theorem dX12_readWinter_75 : decode cX12_readWinter 75 = .ok (.ifCond .eq (-58), 3) := by decide +kernel
theorem dX12_readWinter_78 : decode cX12_readWinter 78 = .ok (.aload_n 0, 1) := by decide +kernel
theorem dX12_readWinter_79 : decode cX12_readWinter 79 = .ok (.dup, 1) := by decide +kernel
theorem dX12_readWinter_80 : decode cX12_readWinter 80 = .ok (.getfield 112, 3) := by decide +kernel
theorem dX12_readWinter_83 : decode cX12_readWinter 83 = .ok (.iconst 1, 1) := by decide +kernel
theorem dX12_readWinter_84 : decode cX12_readWinter 84 = .ok (.iadd, 1) := by decide +kernel
theorem dX12_readWinter_85 : decode cX12_readWinter 85 = .ok (.putfield 112, 3) := by decide +kernel
theorem dX12_readWinter_88 : decode cX12_readWinter 88 = .ok (.goto (-71), 3) := by decide +kernel
theorem dX12_readWinter_91 : decode cX12_readWinter 91 = .ok (.aload_n 0, 1) := by decide +kernel
theorem dX12_readWinter_92 : decode cX12_readWinter 92 = .ok (.getfield 58, 3) := by decide +kernel
theorem dX12_readWinter_95 : decode cX12_readWinter 95 = .ok (.iconst 4, 1) := by decide +kernel
theorem dX12_readWinter_96 : decode cX12_readWinter 96 = .ok (.iload_n 1, 1) := by decide +kernel
theorem dX12_readWinter_97 : decode cX12_readWinter 97 = .ok (.iastore, 1) := by decide +kernel
theorem dX12_readWinter_98 : decode cX12_readWinter 98 = .ok (.aload_n 0, 1) := by decide +kernel
theorem dX12_readWinter_99 : decode cX12_readWinter 99 = .ok (.invokevirtual 131, 3) := by decide +kernel
theorem dX12_readWinter_102 : decode cX12_readWinter 102 = .ok (.iconst (-1), 1) := by decide +kernel
theorem dX12_readWinter_103 : decode cX12_readWinter 103 = .ok (.if_icmp .eq 8, 3) := by decide +kernel
theorem dX12_readWinter_106 : decode cX12_readWinter 106 = .ok (.aload_n 0, 1) := by decide +kernel
theorem dX12_readWinter_107 : decode cX12_readWinter 107 = .ok (.invokevirtual 127, 3) := by decide +kernel
theorem dX12_readWinter_110 : decode cX12_readWinter 110 = .ok (.pop, 1) := by decide +kernel
theorem dX12_readWinter_111 : decode cX12_readWinter 111 = .ok (.return_, 1) := by decide +kernel
theorem dX12_fault_0 : decode cX12_fault 0 = .ok (.aload_n 0, 1) := by decide +kernel
theorem dX12_fault_1 : decode cX12_fault 1 = .ok (.iconst 0, 1) := by decide +kernel
theorem dX12_fault_2 : decode cX12_fault 2 = .ok (.putfield 89, 3) := by decide +kernel
theorem dX12_fault_5 : decode cX12_fault 5 = .ok (.iload_n 1, 1) := by decide +kernel
theorem dX12_fault_6 : decode cX12_fault 6 = .ok (.i2l, 1) := by decide +kernel
theorem dX12_fault_7 : decode cX12_fault 7 = .ok (.lconst 0, 1) := by decide +kernel
theorem dX12_fault_8 : decode cX12_fault 8 = .ok (.ldc2_w 258, 3) := by decide +kernel
theorem dX12_fault_11 : decode cX12_fault 11 = .ok (.invokestatic 260, 3) := by decide +kernel
theorem dX12_fault_14 : decode cX12_fault 14 = .ok (.ifCond .ne 6, 3) := by decide +kernel
theorem dX12_fault_17 : decode cX12_fault 17 = .ok (.bipush (-2), 2) := by decide +kernel
theorem dX12_fault_19 : decode cX12_fault 19 = .ok (.ireturn, 1) := by decide +kernel
theorem dX12_fault_20 : decode cX12_fault 20 = .ok (.iload_n 1, 1) := by decide +kernel
theorem dX12_fault_21 : decode cX12_fault 21 = .ok (.ifCond .ne 7, 3) := by decide +kernel
theorem dX12_fault_24 : decode cX12_fault 24 = .ok (.aload_n 0, 1) := by decide +kernel
theorem dX12_fault_25 : decode cX12_fault 25 = .ok (.invokevirtual 264, 3) := by decide +kernel
theorem dX12_fault_28 : decode cX12_fault 28 = .ok (.iload_n 1, 1) := by decide +kernel
theorem dX12_fault_29 : decode cX12_fault 29 = .ok (.iconst 1, 1) := by decide +kernel
theorem dX12_fault_30 : decode cX12_fault 30 = .ok (.if_icmp .ne 16, 3) := by decide +kernel
theorem dX12_fault_33 : decode cX12_fault 33 = .ok (.aload_n 0, 1) := by decide +kernel
theorem dX12_fault_34 : decode cX12_fault 34 = .ok (.aload_n 0, 1) := by decide +kernel
theorem dX12_fault_35 : decode cX12_fault 35 = .ok (.getfield 9, 3) := by decide +kernel
theorem dX12_fault_38 : decode cX12_fault 38 = .ok (.iconst 0, 1) := by decide +kernel
theorem dX12_fault_39 : decode cX12_fault 39 = .ok (.aload_n 0, 1) := by decide +kernel
theorem dX12_fault_40 : decode cX12_fault 40 = .ok (.getfield 102, 3) := by decide +kernel
theorem dX12_fault_43 : decode cX12_fault 43 = .ok (.invokevirtual 267, 3) := by decide +kernel
theorem dX12_fault_46 : decode cX12_fault 46 = .ok (.iload_n 1, 1) := by decide +kernel
theorem dX12_fault_47 : decode cX12_fault 47 = .ok (.iconst 2, 1) := by decide +kernel
theorem dX12_fault_48 : decode cX12_fault 48 = .ok (.if_icmp .ne 7, 3) := by decide +kernel
theorem dX12_fault_51 : decode cX12_fault 51 = .ok (.aload_n 0, 1) := by decide +kernel
theorem dX12_fault_52 : decode cX12_fault 52 = .ok (.invokevirtual 270, 3) := by decide +kernel
theorem dX12_fault_55 : decode cX12_fault 55 = .ok (.aload_n 0, 1) := by decide +kernel
theorem dX12_fault_56 : decode cX12_fault 56 = .ok (.getfield 121, 3) := by decide +kernel
theorem dX12_fault_59 : decode cX12_fault 59 = .ok (.ireturn, 1) := by decide +kernel
theorem dX12_text_0 : decode cX12_text 0 = .ok (.aload_n 0, 1) := by decide +kernel
theorem dX12_text_1 : decode cX12_text 1 = .ok (.iconst 0, 1) := by decide +kernel
theorem dX12_text_2 : decode cX12_text 2 = .ok (.putfield 89, 3) := by decide +kernel
theorem dX12_text_5 : decode cX12_text 5 = .ok (.iload_n 1, 1) := by decide +kernel
theorem dX12_text_6 : decode cX12_text 6 = .ok (.i2l, 1) := by decide +kernel
theorem dX12_text_7 : decode cX12_text 7 = .ok (.lconst 0, 1) := by decide +kernel
theorem dX12_text_8 : decode cX12_text 8 = .ok (.ldc2_w 258, 3) := by decide +kernel
theorem dX12_text_11 : decode cX12_text 11 = .ok (.invokestatic 260, 3) := by decide +kernel
theorem dX12_text_14 : decode cX12_text 14 = .ok (.ifCond .eq 38, 3) := by decide +kernel
theorem dX12_text_17 : decode cX12_text 17 = .ok (.iload_n 1, 1) := by decide +kernel
theorem dX12_text_18 : decode cX12_text 18 = .ok (.iconst 1, 1) := by decide +kernel
theorem dX12_text_19 : decode cX12_text 19 = .ok (.if_icmp .ne 11, 3) := by decide +kernel
theorem dX12_text_22 : decode cX12_text 22 = .ok (.aload_n 0, 1) := by decide +kernel
theorem dX12_text_23 : decode cX12_text 23 = .ok (.getfield 273, 3) := by decide +kernel
theorem dX12_text_26 : decode cX12_text 26 = .ok (.iconst 4, 1) := by decide +kernel
theorem dX12_text_27 : decode cX12_text 27 = .ok (.if_icmp .eq 25, 3) := by decide +kernel
theorem dX12_text_30 : decode cX12_text 30 = .ok (.iload_n 1, 1) := by decide +kernel
theorem dX12_text_31 : decode cX12_text 31 = .ok (.iconst 2, 1) := by decide +kernel
theorem dX12_text_32 : decode cX12_text 32 = .ok (.if_icmp .ne 11, 3) := by decide +kernel
theorem dX12_text_35 : decode cX12_text 35 = .ok (.aload_n 0, 1) := by decide +kernel
theorem dX12_text_36 : decode cX12_text 36 = .ok (.getfield 276, 3) := by decide +kernel
theorem dX12_text_39 : decode cX12_text 39 = .ok (.iconst 4, 1) := by decide +kernel
theorem dX12_text_40 : decode cX12_text 40 = .ok (.if_icmp .eq 12, 3) := by decide +kernel
theorem dX12_text_43 : decode cX12_text 43 = .ok (.aload_n 0, 1) := by decide +kernel
theorem dX12_text_44 : decode cX12_text 44 = .ok (.iload_n 1, 1) := by decide +kernel
theorem dX12_text_45 : decode cX12_text 45 = .ok (.invokevirtual 279, 3) := by decide +kernel
theorem dX12_text_48 : decode cX12_text 48 = .ok (.iconst (-1), 1) := by decide +kernel
theorem dX12_text_49 : decode cX12_text 49 = .ok (.if_icmp .eq 5, 3) := by decide +kernel
theorem dX12_text_52 : decode cX12_text 52 = .ok (.iconst (-1), 1) := by decide +kernel
theorem dX12_text_53 : decode cX12_text 53 = .ok (.ireturn, 1) := by decide +kernel
theorem dX12_text_54 : decode cX12_text 54 = .ok (.aload_n 0, 1) := by decide +kernel
theorem dX12_text_55 : decode cX12_text 55 = .ok (.getfield 102, 3) := by decide +kernel
theorem dX12_text_58 : decode cX12_text 58 = .ok (.istore_n 2, 1) := by decide +kernel
theorem dX12_text_59 : decode cX12_text 59 = .ok (.aload_n 0, 1) := by decide +kernel
theorem dX12_text_60 : decode cX12_text 60 = .ok (.iconst 0, 1) := by decide +kernel
theorem dX12_text_61 : decode cX12_text 61 = .ok (.putfield 102, 3) := by decide +kernel
theorem dX12_text_64 : decode cX12_text 64 = .ok (.iload_n 1, 1) := by decide +kernel
theorem dX12_text_65 : decode cX12_text 65 = .ok (.iconst 1, 1) := by decide +kernel
theorem dX12_text_66 : decode cX12_text 66 = .ok (.if_icmp .ne 64, 3) := by decide +kernel
theorem dX12_text_69 : decode cX12_text 69 = .ok (.iconst 0, 1) := by decide +kernel
theorem dX12_text_70 : decode cX12_text 70 = .ok (.istore_n 3, 1) := by decide +kernel
theorem dX12_text_71 : decode cX12_text 71 = .ok (.iload_n 3, 1) := by decide +kernel
theorem dX12_text_72 : decode cX12_text 72 = .ok (.iload_n 2, 1) := by decide +kernel
theorem dX12_text_73 : decode cX12_text 73 = .ok (.if_icmp .ge 30, 3) := by decide +kernel
theorem dX12_text_76 : decode cX12_text 76 = .ok (.aload_n 0, 1) := by decide +kernel
theorem dX12_text_77 : decode cX12_text 77 = .ok (.getfield 13, 3) := by decide +kernel
theorem dX12_text_80 : decode cX12_text 80 = .ok (.sipush 240, 3) := by decide +kernel
theorem dX12_text_83 : decode cX12_text 83 = .ok (.aload_n 0, 1) := by decide +kernel
theorem dX12_text_84 : decode cX12_text 84 = .ok (.getfield 273, 3) := by decide +kernel
theorem dX12_text_87 : decode cX12_text 87 = .ok (.imul, 1) := by decide +kernel
theorem dX12_text_88 : decode cX12_text 88 = .ok (.iload_n 3, 1) := by decide +kernel
theorem dX12_text_89 : decode cX12_text 89 = .ok (.iadd, 1) := by decide +kernel
theorem dX12_text_90 : decode cX12_text 90 = .ok (.aload_n 0, 1) := by decide +kernel
theorem dX12_text_91 : decode cX12_text 91 = .ok (.getfield 9, 3) := by decide +kernel
theorem dX12_text_94 : decode cX12_text 94 = .ok (.iload_n 3, 1) := by decide +kernel
theorem dX12_text_95 : decode cX12_text 95 = .ok (.baload, 1) := by decide +kernel
theorem dX12_text_96 : decode cX12_text 96 = .ok (.bastore, 1) := by decide +kernel
theorem dX12_text_97 : decode cX12_text 97 = .ok (.iinc 3 1, 3) := by decide +kernel
theorem dX12_text_100 : decode cX12_text 100 = .ok (.goto (-29), 3) := by decide +kernel
theorem dX12_text_103 : decode cX12_text 103 = .ok (.aload_n 0, 1) := by decide +kernel
theorem dX12_text_104 : decode cX12_text 104 = .ok (.getfield 16, 3) := by decide +kernel
theorem dX12_text_107 : decode cX12_text 107 = .ok (.aload_n 0, 1) := by decide +kernel
theorem dX12_text_108 : decode cX12_text 108 = .ok (.getfield 273, 3) := by decide +kernel
theorem dX12_text_111 : decode cX12_text 111 = .ok (.iload_n 2, 1) := by decide +kernel
theorem dX12_text_112 : decode cX12_text 112 = .ok (.iastore, 1) := by decide +kernel
theorem dX12_text_113 : decode cX12_text 113 = .ok (.aload_n 0, 1) := by decide +kernel
theorem dX12_text_114 : decode cX12_text 114 = .ok (.dup, 1) := by decide +kernel
theorem dX12_text_115 : decode cX12_text 115 = .ok (.getfield 273, 3) := by decide +kernel
theorem dX12_text_118 : decode cX12_text 118 = .ok (.iconst 1, 1) := by decide +kernel
theorem dX12_text_119 : decode cX12_text 119 = .ok (.iadd, 1) := by decide +kernel
theorem dX12_text_120 : decode cX12_text 120 = .ok (.putfield 273, 3) := by decide +kernel
theorem dX12_text_123 : decode cX12_text 123 = .ok (.aload_n 0, 1) := by decide +kernel
theorem dX12_text_124 : decode cX12_text 124 = .ok (.getfield 273, 3) := by decide +kernel
theorem dX12_text_127 : decode cX12_text 127 = .ok (.iconst 1, 1) := by decide +kernel
theorem dX12_text_128 : decode cX12_text 128 = .ok (.isub, 1) := by decide +kernel
theorem dX12_text_129 : decode cX12_text 129 = .ok (.ireturn, 1) := by decide +kernel
theorem dX12_text_130 : decode cX12_text 130 = .ok (.iload_n 1, 1) := by decide +kernel
theorem dX12_text_131 : decode cX12_text 131 = .ok (.iconst 2, 1) := by decide +kernel
theorem dX12_text_132 : decode cX12_text 132 = .ok (.if_icmp .ne 73, 3) := by decide +kernel
theorem dX12_text_135 : decode cX12_text 135 = .ok (.iconst 0, 1) := by decide +kernel
theorem dX12_text_136 : decode cX12_text 136 = .ok (.istore_n 3, 1) := by decide +kernel
theorem dX12_text_137 : decode cX12_text 137 = .ok (.iload_n 3, 1) := by decide +kernel
theorem dX12_text_138 : decode cX12_text 138 = .ok (.bipush 32, 2) := by decide +kernel
theorem dX12_text_140 : decode cX12_text 140 = .ok (.if_icmp .ge 33, 3) := by decide +kernel
theorem dX12_text_143 : decode cX12_text 143 = .ok (.aload_n 0, 1) := by decide +kernel
theorem dX12_text_144 : decode cX12_text 144 = .ok (.getfield 55, 3) := by decide +kernel
theorem dX12_text_147 : decode cX12_text 147 = .ok (.bipush 32, 2) := by decide +kernel
theorem dX12_text_149 : decode cX12_text 149 = .ok (.aload_n 0, 1) := by decide +kernel
theorem dX12_text_150 : decode cX12_text 150 = .ok (.getfield 276, 3) := by decide +kernel
theorem dX12_text_153 : decode cX12_text 153 = .ok (.imul, 1) := by decide +kernel
theorem dX12_text_154 : decode cX12_text 154 = .ok (.iload_n 3, 1) := by decide +kernel
theorem dX12_text_155 : decode cX12_text 155 = .ok (.iadd, 1) := by decide +kernel
theorem dX12_text_156 : decode cX12_text 156 = .ok (.aload_n 0, 1) := by decide +kernel
theorem dX12_text_157 : decode cX12_text 157 = .ok (.getfield 55, 3) := by decide +kernel
theorem dX12_text_160 : decode cX12_text 160 = .ok (.sipush 128, 3) := by decide +kernel
theorem dX12_text_163 : decode cX12_text 163 = .ok (.iload_n 3, 1) := by decide +kernel
theorem dX12_text_164 : decode cX12_text 164 = .ok (.iadd, 1) := by decide +kernel
theorem dX12_text_165 : decode cX12_text 165 = .ok (.iaload, 1) := by decide +kernel
theorem dX12_text_166 : decode cX12_text 166 = .ok (.iastore, 1) := by decide +kernel
theorem dX12_text_167 : decode cX12_text 167 = .ok (.iinc 3 1, 3) := by decide +kernel
theorem dX12_text_170 : decode cX12_text 170 = .ok (.goto (-33), 3) := by decide +kernel
theorem dX12_text_173 : decode cX12_text 173 = .ok (.aload_n 0, 1) := by decide +kernel
theorem dX12_text_174 : decode cX12_text 174 = .ok (.getfield 58, 3) := by decide +kernel
theorem dX12_text_177 : decode cX12_text 177 = .ok (.aload_n 0, 1) := by decide +kernel
theorem dX12_text_178 : decode cX12_text 178 = .ok (.getfield 276, 3) := by decide +kernel
theorem dX12_text_181 : decode cX12_text 181 = .ok (.aload_n 0, 1) := by decide +kernel
theorem dX12_text_182 : decode cX12_text 182 = .ok (.getfield 58, 3) := by decide +kernel
theorem dX12_text_185 : decode cX12_text 185 = .ok (.iconst 4, 1) := by decide +kernel
theorem dX12_text_186 : decode cX12_text 186 = .ok (.iaload, 1) := by decide +kernel
theorem dX12_text_187 : decode cX12_text 187 = .ok (.iastore, 1) := by decide +kernel
theorem dX12_text_188 : decode cX12_text 188 = .ok (.aload_n 0, 1) := by decide +kernel
theorem dX12_text_189 : decode cX12_text 189 = .ok (.dup, 1) := by decide +kernel
theorem dX12_text_190 : decode cX12_text 190 = .ok (.getfield 276, 3) := by decide +kernel
theorem dX12_text_193 : decode cX12_text 193 = .ok (.iconst 1, 1) := by decide +kernel
theorem dX12_text_194 : decode cX12_text 194 = .ok (.iadd, 1) := by decide +kernel
theorem dX12_text_195 : decode cX12_text 195 = .ok (.putfield 276, 3) := by decide +kernel
theorem dX12_text_198 : decode cX12_text 198 = .ok (.aload_n 0, 1) := by decide +kernel
theorem dX12_text_199 : decode cX12_text 199 = .ok (.getfield 276, 3) := by decide +kernel
theorem dX12_text_202 : decode cX12_text 202 = .ok (.iconst 1, 1) := by decide +kernel
theorem dX12_text_203 : decode cX12_text 203 = .ok (.isub, 1) := by decide +kernel
theorem dX12_text_204 : decode cX12_text 204 = .ok (.ireturn, 1) := by decide +kernel
theorem dX12_text_205 : decode cX12_text 205 = .ok (.aload_n 0, 1) := by decide +kernel
theorem dX12_text_206 : decode cX12_text 206 = .ok (.aload_n 0, 1) := by decide +kernel
theorem dX12_text_207 : decode cX12_text 207 = .ok (.getfield 231, 3) := by decide +kernel
theorem dX12_text_210 : decode cX12_text 210 = .ok (.putfield 281, 3) := by decide +kernel
theorem dX12_text_213 : decode cX12_text 213 = .ok (.aload_n 0, 1) := by decide +kernel
theorem dX12_text_214 : decode cX12_text 214 = .ok (.aload_n 0, 1) := by decide +kernel
theorem dX12_text_215 : decode cX12_text 215 = .ok (.getfield 234, 3) := by decide +kernel
theorem dX12_text_218 : decode cX12_text 218 = .ok (.putfield 284, 3) := by decide +kernel
theorem dX12_text_221 : decode cX12_text 221 = .ok (.iconst 0, 1) := by decide +kernel
theorem dX12_text_222 : decode cX12_text 222 = .ok (.istore_n 3, 1) := by decide +kernel
theorem dX12_text_223 : decode cX12_text 223 = .ok (.iload_n 3, 1) := by decide +kernel
theorem dX12_text_224 : decode cX12_text 224 = .ok (.iconst 3, 1) := by decide +kernel
theorem dX12_text_225 : decode cX12_text 225 = .ok (.if_icmp .ge 21, 3) := by decide +kernel
theorem dX12_text_228 : decode cX12_text 228 = .ok (.aload_n 0, 1) := by decide +kernel
theorem dX12_text_229 : decode cX12_text 229 = .ok (.getfield 37, 3) := by decide +kernel
theorem dX12_text_232 : decode cX12_text 232 = .ok (.iload_n 3, 1) := by decide +kernel
theorem dX12_text_233 : decode cX12_text 233 = .ok (.aload_n 0, 1) := by decide +kernel
theorem dX12_text_234 : decode cX12_text 234 = .ok (.getfield 40, 3) := by decide +kernel
theorem dX12_text_237 : decode cX12_text 237 = .ok (.iload_n 3, 1) := by decide +kernel
theorem dX12_text_238 : decode cX12_text 238 = .ok (.iaload, 1) := by decide +kernel
theorem dX12_text_239 : decode cX12_text 239 = .ok (.iastore, 1) := by decide +kernel
theorem dX12_text_240 : decode cX12_text 240 = .ok (.iinc 3 1, 3) := by decide +kernel
theorem dX12_text_243 : decode cX12_text 243 = .ok (.goto (-20), 3) := by decide +kernel
theorem dX12_text_246 : decode cX12_text 246 = .ok (.iconst 0, 1) := by decide +kernel
theorem dX12_text_247 : decode cX12_text 247 = .ok (.istore_n 3, 1) := by decide +kernel
theorem dX12_text_248 : decode cX12_text 248 = .ok (.iload_n 3, 1) := by decide +kernel
theorem dX12_text_249 : decode cX12_text 249 = .ok (.bipush 12, 2) := by decide +kernel
theorem dX12_text_251 : decode cX12_text 251 = .ok (.if_icmp .ge 21, 3) := by decide +kernel
theorem dX12_text_254 : decode cX12_text 254 = .ok (.aload_n 0, 1) := by decide +kernel
theorem dX12_text_255 : decode cX12_text 255 = .ok (.getfield 43, 3) := by decide +kernel
theorem dX12_text_258 : decode cX12_text 258 = .ok (.iload_n 3, 1) := by decide +kernel
theorem dX12_text_259 : decode cX12_text 259 = .ok (.aload_n 0, 1) := by decide +kernel
theorem dX12_text_260 : decode cX12_text 260 = .ok (.getfield 46, 3) := by decide +kernel
theorem dX12_text_263 : decode cX12_text 263 = .ok (.iload_n 3, 1) := by decide +kernel
theorem dX12_text_264 : decode cX12_text 264 = .ok (.iaload, 1) := by decide +kernel
theorem dX12_text_265 : decode cX12_text 265 = .ok (.iastore, 1) := by decide +kernel
theorem dX12_text_266 : decode cX12_text 266 = .ok (.iinc 3 1, 3) := by decide +kernel
theorem dX12_text_269 : decode cX12_text 269 = .ok (.goto (-21), 3) := by decide +kernel
theorem dX12_text_272 : decode cX12_text 272 = .ok (.iconst 0, 1) := by decide +kernel
theorem dX12_text_273 : decode cX12_text 273 = .ok (.istore_n 3, 1) := by decide +kernel
theorem dX12_text_274 : decode cX12_text 274 = .ok (.iload_n 3, 1) := by decide +kernel
theorem dX12_text_275 : decode cX12_text 275 = .ok (.bipush 18, 2) := by decide +kernel
theorem dX12_text_277 : decode cX12_text 277 = .ok (.if_icmp .ge 21, 3) := by decide +kernel
theorem dX12_text_280 : decode cX12_text 280 = .ok (.aload_n 0, 1) := by decide +kernel
theorem dX12_text_281 : decode cX12_text 281 = .ok (.getfield 49, 3) := by decide +kernel
theorem dX12_text_284 : decode cX12_text 284 = .ok (.iload_n 3, 1) := by decide +kernel
theorem dX12_text_285 : decode cX12_text 285 = .ok (.aload_n 0, 1) := by decide +kernel
theorem dX12_text_286 : decode cX12_text 286 = .ok (.getfield 52, 3) := by decide +kernel
theorem dX12_text_289 : decode cX12_text 289 = .ok (.iload_n 3, 1) := by decide +kernel
theorem dX12_text_290 : decode cX12_text 290 = .ok (.iaload, 1) := by decide +kernel
theorem dX12_text_291 : decode cX12_text 291 = .ok (.iastore, 1) := by decide +kernel
theorem dX12_text_292 : decode cX12_text 292 = .ok (.iinc 3 1, 3) := by decide +kernel
theorem dX12_text_295 : decode cX12_text 295 = .ok (.goto (-21), 3) := by decide +kernel
theorem dX12_text_298 : decode cX12_text 298 = .ok (.iconst 0, 1) := by decide +kernel
theorem dX12_text_299 : decode cX12_text 299 = .ok (.istore_n 3, 1) := by decide +kernel
theorem dX12_text_300 : decode cX12_text 300 = .ok (.iload_n 3, 1) := by decide +kernel
theorem dX12_text_301 : decode cX12_text 301 = .ok (.sipush 269, 3) := by decide +kernel
theorem dX12_text_304 : decode cX12_text 304 = .ok (.if_icmp .ge 16, 3) := by decide +kernel
theorem dX12_text_307 : decode cX12_text 307 = .ok (.aload_n 0, 1) := by decide +kernel
theorem dX12_text_308 : decode cX12_text 308 = .ok (.getfield 61, 3) := by decide +kernel
theorem dX12_text_311 : decode cX12_text 311 = .ok (.iload_n 3, 1) := by decide +kernel
theorem dX12_text_312 : decode cX12_text 312 = .ok (.iconst 0, 1) := by decide +kernel
theorem dX12_text_313 : decode cX12_text 313 = .ok (.iastore, 1) := by decide +kernel
theorem dX12_text_314 : decode cX12_text 314 = .ok (.iinc 3 1, 3) := by decide +kernel
theorem dX12_text_317 : decode cX12_text 317 = .ok (.goto (-17), 3) := by decide +kernel
theorem dX12_text_320 : decode cX12_text 320 = .ok (.iconst 0, 1) := by decide +kernel
theorem dX12_text_321 : decode cX12_text 321 = .ok (.istore_n 3, 1) := by decide +kernel
theorem dX12_text_322 : decode cX12_text 322 = .ok (.iload_n 3, 1) := by decide +kernel
theorem dX12_text_323 : decode cX12_text 323 = .ok (.aload_n 0, 1) := by decide +kernel
theorem dX12_text_324 : decode cX12_text 324 = .ok (.getfield 284, 3) := by decide +kernel
theorem dX12_text_327 : decode cX12_text 327 = .ok (.if_icmp .ge 49, 3) := by decide +kernel
theorem dX12_text_330 : decode cX12_text 330 = .ok (.aload_n 0, 1) := by decide +kernel
theorem dX12_text_331 : decode cX12_text 331 = .ok (.getfield 61, 3) := by decide +kernel
theorem dX12_text_334 : decode cX12_text 334 = .ok (.iconst 3, 1) := by decide +kernel
theorem dX12_text_335 : decode cX12_text 335 = .ok (.iload_n 3, 1) := by decide +kernel
theorem dX12_text_336 : decode cX12_text 336 = .ok (.imul, 1) := by decide +kernel
theorem dX12_text_337 : decode cX12_text 337 = .ok (.iconst 0, 1) := by decide +kernel
theorem dX12_text_338 : decode cX12_text 338 = .ok (.iadd, 1) := by decide +kernel
theorem dX12_text_339 : decode cX12_text 339 = .ok (.aload_n 0, 1) := by decide +kernel
theorem dX12_text_340 : decode cX12_text 340 = .ok (.getfield 49, 3) := by decide +kernel
theorem dX12_text_343 : decode cX12_text 343 = .ok (.iconst 3, 1) := by decide +kernel
theorem dX12_text_344 : decode cX12_text 344 = .ok (.iload_n 3, 1) := by decide +kernel
theorem dX12_text_345 : decode cX12_text 345 = .ok (.imul, 1) := by decide +kernel
theorem dX12_text_346 : decode cX12_text 346 = .ok (.iconst 1, 1) := by decide +kernel
theorem dX12_text_347 : decode cX12_text 347 = .ok (.iadd, 1) := by decide +kernel
theorem dX12_text_348 : decode cX12_text 348 = .ok (.iaload, 1) := by decide +kernel
theorem dX12_text_349 : decode cX12_text 349 = .ok (.iastore, 1) := by decide +kernel
theorem dX12_text_350 : decode cX12_text 350 = .ok (.aload_n 0, 1) := by decide +kernel
theorem dX12_text_351 : decode cX12_text 351 = .ok (.getfield 61, 3) := by decide +kernel
theorem dX12_text_354 : decode cX12_text 354 = .ok (.iconst 3, 1) := by decide +kernel
theorem dX12_text_355 : decode cX12_text 355 = .ok (.iload_n 3, 1) := by decide +kernel
theorem dX12_text_356 : decode cX12_text 356 = .ok (.imul, 1) := by decide +kernel
theorem dX12_text_357 : decode cX12_text 357 = .ok (.iconst 1, 1) := by decide +kernel
theorem dX12_text_358 : decode cX12_text 358 = .ok (.iadd, 1) := by decide +kernel
theorem dX12_text_359 : decode cX12_text 359 = .ok (.aload_n 0, 1) := by decide +kernel
theorem dX12_text_360 : decode cX12_text 360 = .ok (.getfield 49, 3) := by decide +kernel
theorem dX12_text_363 : decode cX12_text 363 = .ok (.iconst 3, 1) := by decide +kernel
theorem dX12_text_364 : decode cX12_text 364 = .ok (.iload_n 3, 1) := by decide +kernel
theorem dX12_text_365 : decode cX12_text 365 = .ok (.imul, 1) := by decide +kernel
theorem dX12_text_366 : decode cX12_text 366 = .ok (.iconst 2, 1) := by decide +kernel
theorem dX12_text_367 : decode cX12_text 367 = .ok (.iadd, 1) := by decide +kernel
theorem dX12_text_368 : decode cX12_text 368 = .ok (.iaload, 1) := by decide +kernel
theorem dX12_text_369 : decode cX12_text 369 = .ok (.iastore, 1) := by decide +kernel
theorem dX12_text_370 : decode cX12_text 370 = .ok (.iinc 3 1, 3) := by decide +kernel
theorem dX12_text_373 : decode cX12_text 373 = .ok (.goto (-51), 3) := by decide +kernel
theorem dX12_text_376 : decode cX12_text 376 = .ok (.iconst 0, 1) := by decide +kernel
theorem dX12_text_377 : decode cX12_text 377 = .ok (.istore_n 3, 1) := by decide +kernel
theorem dX12_text_378 : decode cX12_text 378 = .ok (.iload_n 3, 1) := by decide +kernel
theorem dX12_text_379 : decode cX12_text 379 = .ok (.aload_n 0, 1) := by decide +kernel
theorem dX12_text_380 : decode cX12_text 380 = .ok (.getfield 281, 3) := by decide +kernel
theorem dX12_text_383 : decode cX12_text 383 = .ok (.if_icmp .ge 28, 3) := by decide +kernel
theorem dX12_text_386 : decode cX12_text 386 = .ok (.aload_n 0, 1) := by decide +kernel
theorem dX12_text_387 : decode cX12_text 387 = .ok (.getfield 61, 3) := by decide +kernel
theorem dX12_text_390 : decode cX12_text 390 = .ok (.bipush 18, 2) := by decide +kernel
theorem dX12_text_392 : decode cX12_text 392 = .ok (.iload_n 3, 1) := by decide +kernel
theorem dX12_text_393 : decode cX12_text 393 = .ok (.iadd, 1) := by decide +kernel
theorem dX12_text_394 : decode cX12_text 394 = .ok (.aload_n 0, 1) := by decide +kernel
theorem dX12_text_395 : decode cX12_text 395 = .ok (.getfield 43, 3) := by decide +kernel
theorem dX12_text_398 : decode cX12_text 398 = .ok (.iconst 2, 1) := by decide +kernel
theorem dX12_text_399 : decode cX12_text 399 = .ok (.iload_n 3, 1) := by decide +kernel
theorem dX12_text_400 : decode cX12_text 400 = .ok (.imul, 1) := by decide +kernel
theorem dX12_text_401 : decode cX12_text 401 = .ok (.iconst 1, 1) := by decide +kernel
theorem dX12_text_402 : decode cX12_text 402 = .ok (.iadd, 1) := by decide +kernel
theorem dX12_text_403 : decode cX12_text 403 = .ok (.iaload, 1) := by decide +kernel
theorem dX12_text_404 : decode cX12_text 404 = .ok (.iastore, 1) := by decide +kernel
theorem dX12_text_405 : decode cX12_text 405 = .ok (.iinc 3 1, 3) := by decide +kernel
theorem dX12_text_408 : decode cX12_text 408 = .ok (.goto (-30), 3) := by decide +kernel
theorem dX12_text_411 : decode cX12_text 411 = .ok (.aload_n 0, 1) := by decide +kernel
theorem dX12_text_412 : decode cX12_text 412 = .ok (.getfield 61, 3) := by decide +kernel
theorem dX12_text_415 : decode cX12_text 415 = .ok (.bipush 24, 2) := by decide +kernel
theorem dX12_text_417 : decode cX12_text 417 = .ok (.aload_n 0, 1) := by decide +kernel
theorem dX12_text_418 : decode cX12_text 418 = .ok (.getfield 37, 3) := by decide +kernel
theorem dX12_text_421 : decode cX12_text 421 = .ok (.iconst 0, 1) := by decide +kernel
theorem dX12_text_422 : decode cX12_text 422 = .ok (.iaload, 1) := by decide +kernel
theorem dX12_text_423 : decode cX12_text 423 = .ok (.iastore, 1) := by decide +kernel
theorem dX12_text_424 : decode cX12_text 424 = .ok (.aload_n 0, 1) := by decide +kernel
theorem dX12_text_425 : decode cX12_text 425 = .ok (.iconst 0, 1) := by decide +kernel
theorem dX12_text_426 : decode cX12_text 426 = .ok (.putfield 287, 3) := by decide +kernel
theorem dX12_text_429 : decode cX12_text 429 = .ok (.aload_n 0, 1) := by decide +kernel
theorem dX12_text_430 : decode cX12_text 430 = .ok (.iconst 0, 1) := by decide +kernel
theorem dX12_text_431 : decode cX12_text 431 = .ok (.putfield 290, 3) := by decide +kernel
theorem dX12_text_434 : decode cX12_text 434 = .ok (.aload_n 0, 1) := by decide +kernel
theorem dX12_text_435 : decode cX12_text 435 = .ok (.iconst 0, 1) := by decide +kernel
theorem dX12_text_436 : decode cX12_text 436 = .ok (.putfield 293, 3) := by decide +kernel
theorem dX12_text_439 : decode cX12_text 439 = .ok (.aload_n 0, 1) := by decide +kernel
theorem dX12_text_440 : decode cX12_text 440 = .ok (.getfield 284, 3) := by decide +kernel
theorem dX12_text_443 : decode cX12_text 443 = .ok (.ireturn, 1) := by decide +kernel
theorem dX12_copy_0 : decode cX12_copy 0 = .ok (.iconst 0, 1) := by decide +kernel
theorem dX12_copy_1 : decode cX12_copy 1 = .ok (.istore_n 2, 1) := by decide +kernel
theorem dX12_copy_2 : decode cX12_copy 2 = .ok (.iload_n 2, 1) := by decide +kernel
theorem dX12_copy_3 : decode cX12_copy 3 = .ok (.bipush 28, 2) := by decide +kernel
theorem dX12_copy_5 : decode cX12_copy 5 = .ok (.if_icmp .ge 15, 3) := by decide +kernel
theorem dX12_copy_8 : decode cX12_copy 8 = .ok (.aload_n 1, 1) := by decide +kernel
theorem dX12_copy_9 : decode cX12_copy 9 = .ok (.iload_n 2, 1) := by decide +kernel
theorem dX12_copy_10 : decode cX12_copy 10 = .ok (.aload_n 0, 1) := by decide +kernel
theorem dX12_copy_11 : decode cX12_copy 11 = .ok (.iload_n 2, 1) := by decide +kernel
theorem dX12_copy_12 : decode cX12_copy 12 = .ok (.iaload, 1) := by decide +kernel
theorem dX12_copy_13 : decode cX12_copy 13 = .ok (.iastore, 1) := by decide +kernel
theorem dX12_copy_14 : decode cX12_copy 14 = .ok (.iinc 2 1, 3) := by decide +kernel
theorem dX12_copy_17 : decode cX12_copy 17 = .ok (.goto (-15), 3) := by decide +kernel
theorem dX12_copy_20 : decode cX12_copy 20 = .ok (.aload_n 1, 1) := by decide +kernel
theorem dX12_copy_21 : decode cX12_copy 21 = .ok (.bipush 28, 2) := by decide +kernel
theorem dX12_copy_23 : decode cX12_copy 23 = .ok (.iconst 0, 1) := by decide +kernel
theorem dX12_copy_24 : decode cX12_copy 24 = .ok (.iastore, 1) := by decide +kernel
theorem dX12_copy_25 : decode cX12_copy 25 = .ok (.return_, 1) := by decide +kernel
theorem dX12_isGuest_0 : decode cX12_isGuest 0 = .ok (.iload_n 1, 1) := by decide +kernel
theorem dX12_isGuest_1 : decode cX12_isGuest 1 = .ok (.ifCond .lt 15, 3) := by decide +kernel
theorem dX12_isGuest_4 : decode cX12_isGuest 4 = .ok (.iload_n 1, 1) := by decide +kernel
theorem dX12_isGuest_5 : decode cX12_isGuest 5 = .ok (.aload_n 0, 1) := by decide +kernel
theorem dX12_isGuest_6 : decode cX12_isGuest 6 = .ok (.getfield 284, 3) := by decide +kernel
theorem dX12_isGuest_9 : decode cX12_isGuest 9 = .ok (.if_icmp .ge 7, 3) := by decide +kernel
theorem dX12_isGuest_12 : decode cX12_isGuest 12 = .ok (.iconst 1, 1) := by decide +kernel
theorem dX12_isGuest_13 : decode cX12_isGuest 13 = .ok (.goto 4, 3) := by decide +kernel
theorem dX12_isGuest_16 : decode cX12_isGuest 16 = .ok (.iconst 0, 1) := by decide +kernel
theorem dX12_isGuest_17 : decode cX12_isGuest 17 = .ok (.ireturn, 1) := by decide +kernel
theorem dX12_isDrink_0 : decode cX12_isDrink 0 = .ok (.iload_n 1, 1) := by decide +kernel
theorem dX12_isDrink_1 : decode cX12_isDrink 1 = .ok (.ifCond .lt 15, 3) := by decide +kernel
theorem dX12_isDrink_4 : decode cX12_isDrink 4 = .ok (.iload_n 1, 1) := by decide +kernel
theorem dX12_isDrink_5 : decode cX12_isDrink 5 = .ok (.aload_n 0, 1) := by decide +kernel
theorem dX12_isDrink_6 : decode cX12_isDrink 6 = .ok (.getfield 281, 3) := by decide +kernel
theorem dX12_isDrink_9 : decode cX12_isDrink 9 = .ok (.if_icmp .ge 7, 3) := by decide +kernel
theorem dX12_isDrink_12 : decode cX12_isDrink 12 = .ok (.iconst 1, 1) := by decide +kernel
theorem dX12_isDrink_13 : decode cX12_isDrink 13 = .ok (.goto 4, 3) := by decide +kernel
theorem dX12_isDrink_16 : decode cX12_isDrink 16 = .ok (.iconst 0, 1) := by decide +kernel
theorem dX12_isDrink_17 : decode cX12_isDrink 17 = .ok (.ireturn, 1) := by decide +kernel
theorem dX12_quality_0 : decode cX12_quality 0 = .ok (.aload_n 0, 1) := by decide +kernel
theorem dX12_quality_1 : decode cX12_quality 1 = .ok (.getfield 43, 3) := by decide +kernel
theorem dX12_quality_4 : decode cX12_quality 4 = .ok (.iconst 2, 1) := by decide +kernel
theorem dX12_quality_5 : decode cX12_quality 5 = .ok (.iload_n 1, 1) := by decide +kernel
theorem dX12_quality_6 : decode cX12_quality 6 = .ok (.imul, 1) := by decide +kernel
theorem dX12_quality_7 : decode cX12_quality 7 = .ok (.iaload, 1) := by decide +kernel
theorem dX12_quality_8 : decode cX12_quality 8 = .ok (.ireturn, 1) := by decide +kernel
theorem dX12_joyOf_0 : decode cX12_joyOf 0 = .ok (.aload_n 0, 1) := by decide +kernel
theorem dX12_joyOf_1 : decode cX12_joyOf 1 = .ok (.iload_n 2, 1) := by decide +kernel
theorem dX12_joyOf_2 : decode cX12_joyOf 2 = .ok (.invokevirtual 296, 3) := by decide +kernel
theorem dX12_joyOf_5 : decode cX12_joyOf 5 = .ok (.iload_n 1, 1) := by decide +kernel
theorem dX12_joyOf_6 : decode cX12_joyOf 6 = .ok (.iload_n 2, 1) := by decide +kernel
theorem dX12_joyOf_7 : decode cX12_joyOf 7 = .ok (.if_icmp .ne 12, 3) := by decide +kernel
theorem dX12_joyOf_10 : decode cX12_joyOf 10 = .ok (.aload_n 0, 1) := by decide +kernel
theorem dX12_joyOf_11 : decode cX12_joyOf 11 = .ok (.getfield 37, 3) := by decide +kernel
theorem dX12_joyOf_14 : decode cX12_joyOf 14 = .ok (.iconst 2, 1) := by decide +kernel
theorem dX12_joyOf_15 : decode cX12_joyOf 15 = .ok (.iaload, 1) := by decide +kernel
theorem dX12_joyOf_16 : decode cX12_joyOf 16 = .ok (.goto 4, 3) := by decide +kernel
theorem dX12_joyOf_19 : decode cX12_joyOf 19 = .ok (.iconst 0, 1) := by decide +kernel
theorem dX12_joyOf_20 : decode cX12_joyOf 20 = .ok (.iadd, 1) := by decide +kernel
theorem dX12_joyOf_21 : decode cX12_joyOf 21 = .ok (.ireturn, 1) := by decide +kernel
theorem dX12_moodBy_0 : decode cX12_moodBy 0 = .ok (.iload_n 1, 1) := by decide +kernel
theorem dX12_moodBy_1 : decode cX12_moodBy 1 = .ok (.bipush 6, 2) := by decide +kernel
theorem dX12_moodBy_3 : decode cX12_moodBy 3 = .ok (.if_icmp .lt 14, 3) := by decide +kernel
theorem dX12_moodBy_6 : decode cX12_moodBy 6 = .ok (.bipush 9, 2) := by decide +kernel
theorem dX12_moodBy_8 : decode cX12_moodBy 8 = .ok (.iload_n 0, 1) := by decide +kernel
theorem dX12_moodBy_9 : decode cX12_moodBy 9 = .ok (.iconst 1, 1) := by decide +kernel
theorem dX12_moodBy_10 : decode cX12_moodBy 10 = .ok (.iadd, 1) := by decide +kernel
theorem dX12_moodBy_11 : decode cX12_moodBy 11 = .ok (.invokestatic 299, 3) := by decide +kernel
theorem dX12_moodBy_14 : decode cX12_moodBy 14 = .ok (.goto 19, 3) := by decide +kernel
theorem dX12_moodBy_17 : decode cX12_moodBy 17 = .ok (.iload_n 1, 1) := by decide +kernel
theorem dX12_moodBy_18 : decode cX12_moodBy 18 = .ok (.iconst 4, 1) := by decide +kernel
theorem dX12_moodBy_19 : decode cX12_moodBy 19 = .ok (.if_icmp .ge 13, 3) := by decide +kernel
theorem dX12_moodBy_22 : decode cX12_moodBy 22 = .ok (.iconst 0, 1) := by decide +kernel
theorem dX12_moodBy_23 : decode cX12_moodBy 23 = .ok (.iload_n 0, 1) := by decide +kernel
theorem dX12_moodBy_24 : decode cX12_moodBy 24 = .ok (.iconst 1, 1) := by decide +kernel
theorem dX12_moodBy_25 : decode cX12_moodBy 25 = .ok (.isub, 1) := by decide +kernel
theorem dX12_moodBy_26 : decode cX12_moodBy 26 = .ok (.invokestatic 301, 3) := by decide +kernel
theorem dX12_moodBy_29 : decode cX12_moodBy 29 = .ok (.goto 4, 3) := by decide +kernel
theorem dX12_moodBy_32 : decode cX12_moodBy 32 = .ok (.iload_n 0, 1) := by decide +kernel
theorem dX12_moodBy_33 : decode cX12_moodBy 33 = .ok (.ireturn, 1) := by decide +kernel
theorem dX12_brings_0 : decode cX12_brings 0 = .ok (.aload_n 0, 1) := by decide +kernel
theorem dX12_brings_1 : decode cX12_brings 1 = .ok (.iload 5, 2) := by decide +kernel
theorem dX12_brings_3 : decode cX12_brings 3 = .ok (.invokevirtual 296, 3) := by decide +kernel
theorem dX12_brings_6 : decode cX12_brings 6 = .ok (.iload_n 3, 1) := by decide +kernel
theorem dX12_brings_7 : decode cX12_brings 7 = .ok (.iadd, 1) := by decide +kernel
theorem dX12_brings_8 : decode cX12_brings 8 = .ok (.iconst 2, 1) := by decide +kernel
theorem dX12_brings_9 : decode cX12_brings 9 = .ok (.idiv, 1) := by decide +kernel
theorem dX12_brings_10 : decode cX12_brings 10 = .ok (.istore 7, 2) := by decide +kernel
theorem dX12_brings_12 : decode cX12_brings 12 = .ok (.aload_n 0, 1) := by decide +kernel
theorem dX12_brings_13 : decode cX12_brings 13 = .ok (.getfield 67, 3) := by decide +kernel
theorem dX12_brings_16 : decode cX12_brings 16 = .ok (.iconst (-1), 1) := by decide +kernel
theorem dX12_brings_17 : decode cX12_brings 17 = .ok (.if_icmp .eq 105, 3) := by decide +kernel
theorem dX12_brings_20 : decode cX12_brings 20 = .ok (.aload_n 0, 1) := by decide +kernel
theorem dX12_brings_21 : decode cX12_brings 21 = .ok (.getfield 20, 3) := by decide +kernel
theorem dX12_brings_24 : decode cX12_brings 24 = .ok (.bipush 113, 2) := by decide +kernel
theorem dX12_brings_26 : decode cX12_brings 26 = .ok (.aload_n 0, 1) := by decide +kernel
theorem dX12_brings_27 : decode cX12_brings 27 = .ok (.iload 5, 2) := by decide +kernel
theorem dX12_brings_29 : decode cX12_brings 29 = .ok (.invokevirtual 296, 3) := by decide +kernel
theorem dX12_brings_32 : decode cX12_brings 32 = .ok (.iastore, 1) := by decide +kernel
theorem dX12_brings_33 : decode cX12_brings 33 = .ok (.aload_n 0, 1) := by decide +kernel
theorem dX12_brings_34 : decode cX12_brings 34 = .ok (.getfield 20, 3) := by decide +kernel
theorem dX12_brings_37 : decode cX12_brings 37 = .ok (.bipush 104, 2) := by decide +kernel
theorem dX12_brings_39 : decode cX12_brings 39 = .ok (.iload_n 3, 1) := by decide +kernel
theorem dX12_brings_40 : decode cX12_brings 40 = .ok (.iastore, 1) := by decide +kernel
theorem dX12_brings_41 : decode cX12_brings 41 = .ok (.aload_n 0, 1) := by decide +kernel
theorem dX12_brings_42 : decode cX12_brings 42 = .ok (.getfield 20, 3) := by decide +kernel
theorem dX12_brings_45 : decode cX12_brings 45 = .ok (.bipush 108, 2) := by decide +kernel
theorem dX12_brings_47 : decode cX12_brings 47 = .ok (.iload_n 2, 1) := by decide +kernel
theorem dX12_brings_48 : decode cX12_brings 48 = .ok (.iload 5, 2) := by decide +kernel
theorem dX12_brings_50 : decode cX12_brings 50 = .ok (.if_icmp .ne 7, 3) := by decide +kernel
theorem dX12_brings_53 : decode cX12_brings 53 = .ok (.iconst 1, 1) := by decide +kernel
theorem dX12_brings_54 : decode cX12_brings 54 = .ok (.goto 4, 3) := by decide +kernel
theorem dX12_brings_57 : decode cX12_brings 57 = .ok (.iconst 0, 1) := by decide +kernel
theorem dX12_brings_58 : decode cX12_brings 58 = .ok (.iastore, 1) := by decide +kernel
theorem dX12_brings_59 : decode cX12_brings 59 = .ok (.aload_n 0, 1) := by decide +kernel
theorem dX12_brings_60 : decode cX12_brings 60 = .ok (.getfield 20, 3) := by decide +kernel
theorem dX12_brings_63 : decode cX12_brings 63 = .ok (.bipush 109, 2) := by decide +kernel
theorem dX12_brings_65 : decode cX12_brings 65 = .ok (.iload 4, 2) := by decide +kernel
theorem dX12_brings_67 : decode cX12_brings 67 = .ok (.iastore, 1) := by decide +kernel
theorem dX12_brings_68 : decode cX12_brings 68 = .ok (.aload_n 0, 1) := by decide +kernel
theorem dX12_brings_69 : decode cX12_brings 69 = .ok (.getfield 20, 3) := by decide +kernel
theorem dX12_brings_72 : decode cX12_brings 72 = .ok (.bipush 110, 2) := by decide +kernel
theorem dX12_brings_74 : decode cX12_brings 74 = .ok (.iload 6, 2) := by decide +kernel
theorem dX12_brings_76 : decode cX12_brings 76 = .ok (.iastore, 1) := by decide +kernel
theorem dX12_brings_77 : decode cX12_brings 77 = .ok (.aload_n 0, 1) := by decide +kernel
theorem dX12_brings_78 : decode cX12_brings 78 = .ok (.getfield 20, 3) := by decide +kernel
theorem dX12_brings_81 : decode cX12_brings 81 = .ok (.bipush 112, 2) := by decide +kernel
theorem dX12_brings_83 : decode cX12_brings 83 = .ok (.aload_n 1, 1) := by decide +kernel
theorem dX12_brings_84 : decode cX12_brings 84 = .ok (.bipush 18, 2) := by decide +kernel
theorem dX12_brings_86 : decode cX12_brings 86 = .ok (.iload 5, 2) := by decide +kernel
theorem dX12_brings_88 : decode cX12_brings 88 = .ok (.iadd, 1) := by decide +kernel
theorem dX12_brings_89 : decode cX12_brings 89 = .ok (.iaload, 1) := by decide +kernel
theorem dX12_brings_90 : decode cX12_brings 90 = .ok (.iastore, 1) := by decide +kernel
theorem dX12_brings_91 : decode cX12_brings 91 = .ok (.aload_n 0, 1) := by decide +kernel
theorem dX12_brings_92 : decode cX12_brings 92 = .ok (.aload_n 0, 1) := by decide +kernel
theorem dX12_brings_93 : decode cX12_brings 93 = .ok (.getfield 13, 3) := by decide +kernel
theorem dX12_brings_96 : decode cX12_brings 96 = .ok (.sipush 240, 3) := by decide +kernel
theorem dX12_brings_99 : decode cX12_brings 99 = .ok (.aload_n 0, 1) := by decide +kernel
theorem dX12_brings_100 : decode cX12_brings 100 = .ok (.getfield 67, 3) := by decide +kernel
theorem dX12_brings_103 : decode cX12_brings 103 = .ok (.imul, 1) := by decide +kernel
theorem dX12_brings_104 : decode cX12_brings 104 = .ok (.aload_n 0, 1) := by decide +kernel
theorem dX12_brings_105 : decode cX12_brings 105 = .ok (.getfield 16, 3) := by decide +kernel
theorem dX12_brings_108 : decode cX12_brings 108 = .ok (.aload_n 0, 1) := by decide +kernel
theorem dX12_brings_109 : decode cX12_brings 109 = .ok (.getfield 67, 3) := by decide +kernel
theorem dX12_brings_112 : decode cX12_brings 112 = .ok (.iaload, 1) := by decide +kernel
theorem dX12_brings_113 : decode cX12_brings 113 = .ok (.invokevirtual 267, 3) := by decide +kernel
theorem dX12_brings_116 : decode cX12_brings 116 = .ok (.aload_n 0, 1) := by decide +kernel
theorem dX12_brings_117 : decode cX12_brings 117 = .ok (.getfield 197, 3) := by decide +kernel
theorem dX12_brings_120 : decode cX12_brings 120 = .ok (.istore 7, 2) := by decide +kernel
theorem dX12_brings_122 : decode cX12_brings 122 = .ok (.iconst 0, 1) := by decide +kernel
theorem dX12_brings_123 : decode cX12_brings 123 = .ok (.bipush 9, 2) := by decide +kernel
theorem dX12_brings_125 : decode cX12_brings 125 = .ok (.iload 7, 2) := by decide +kernel
theorem dX12_brings_127 : decode cX12_brings 127 = .ok (.invokestatic 299, 3) := by decide +kernel
theorem dX12_brings_130 : decode cX12_brings 130 = .ok (.invokestatic 301, 3) := by decide +kernel
theorem dX12_brings_133 : decode cX12_brings 133 = .ok (.istore 7, 2) := by decide +kernel
theorem dX12_brings_135 : decode cX12_brings 135 = .ok (.iconst (-1), 1) := by decide +kernel
theorem dX12_brings_136 : decode cX12_brings 136 = .ok (.istore 8, 2) := by decide +kernel
theorem dX12_brings_138 : decode cX12_brings 138 = .ok (.iconst 0, 1) := by decide +kernel
theorem dX12_brings_139 : decode cX12_brings 139 = .ok (.istore 9, 2) := by decide +kernel
theorem dX12_brings_141 : decode cX12_brings 141 = .ok (.iload 9, 2) := by decide +kernel
theorem dX12_brings_143 : decode cX12_brings 143 = .ok (.aload_n 0, 1) := by decide +kernel
theorem dX12_brings_144 : decode cX12_brings 144 = .ok (.getfield 281, 3) := by decide +kernel
theorem dX12_brings_147 : decode cX12_brings 147 = .ok (.if_icmp .ge 92, 3) := by decide +kernel
theorem dX12_brings_150 : decode cX12_brings 150 = .ok (.aload_n 1, 1) := by decide +kernel
theorem dX12_brings_151 : decode cX12_brings 151 = .ok (.bipush 18, 2) := by decide +kernel
theorem dX12_brings_153 : decode cX12_brings 153 = .ok (.iload 9, 2) := by decide +kernel
theorem dX12_brings_155 : decode cX12_brings 155 = .ok (.iadd, 1) := by decide +kernel
theorem dX12_brings_156 : decode cX12_brings 156 = .ok (.iaload, 1) := by decide +kernel
theorem dX12_brings_157 : decode cX12_brings 157 = .ok (.iload 4, 2) := by decide +kernel
theorem dX12_brings_159 : decode cX12_brings 159 = .ok (.if_icmp .le 6, 3) := by decide +kernel
theorem dX12_brings_162 : decode cX12_brings 162 = .ok (.goto 71, 3) := by decide +kernel
theorem dX12_brings_165 : decode cX12_brings 165 = .ok (.iload 8, 2) := by decide +kernel
theorem dX12_brings_167 : decode cX12_brings 167 = .ok (.iconst (-1), 1) := by decide +kernel
theorem dX12_brings_168 : decode cX12_brings 168 = .ok (.if_icmp .ne 7, 3) := by decide +kernel
theorem dX12_brings_171 : decode cX12_brings 171 = .ok (.iconst 1, 1) := by decide +kernel
theorem dX12_brings_172 : decode cX12_brings 172 = .ok (.goto 28, 3) := by decide +kernel
theorem dX12_brings_175 : decode cX12_brings 175 = .ok (.aload_n 0, 1) := by decide +kernel
theorem dX12_brings_176 : decode cX12_brings 176 = .ok (.iload 8, 2) := by decide +kernel
theorem dX12_brings_178 : decode cX12_brings 178 = .ok (.invokevirtual 296, 3) := by decide +kernel
theorem dX12_brings_181 : decode cX12_brings 181 = .ok (.iload 7, 2) := by decide +kernel
theorem dX12_brings_183 : decode cX12_brings 183 = .ok (.isub, 1) := by decide +kernel
theorem dX12_brings_184 : decode cX12_brings 184 = .ok (.invokestatic 303, 3) := by decide +kernel
theorem dX12_brings_187 : decode cX12_brings 187 = .ok (.aload_n 0, 1) := by decide +kernel
theorem dX12_brings_188 : decode cX12_brings 188 = .ok (.iload 9, 2) := by decide +kernel
theorem dX12_brings_190 : decode cX12_brings 190 = .ok (.invokevirtual 296, 3) := by decide +kernel
theorem dX12_brings_193 : decode cX12_brings 193 = .ok (.iload 7, 2) := by decide +kernel
theorem dX12_brings_195 : decode cX12_brings 195 = .ok (.isub, 1) := by decide +kernel
theorem dX12_brings_196 : decode cX12_brings 196 = .ok (.invokestatic 303, 3) := by decide +kernel
theorem dX12_brings_199 : decode cX12_brings 199 = .ok (.isub, 1) := by decide +kernel
theorem dX12_brings_200 : decode cX12_brings 200 = .ok (.istore 10, 2) := by decide +kernel
theorem dX12_brings_202 : decode cX12_brings 202 = .ok (.iload 10, 2) := by decide +kernel
theorem dX12_brings_204 : decode cX12_brings 204 = .ok (.ifCond .gt 25, 3) := by decide +kernel
theorem dX12_brings_207 : decode cX12_brings 207 = .ok (.iload 10, 2) := by decide +kernel
theorem dX12_brings_209 : decode cX12_brings 209 = .ok (.ifCond .ne 24, 3) := by decide +kernel
theorem dX12_brings_212 : decode cX12_brings 212 = .ok (.aload_n 1, 1) := by decide +kernel
theorem dX12_brings_213 : decode cX12_brings 213 = .ok (.bipush 18, 2) := by decide +kernel
theorem dX12_brings_215 : decode cX12_brings 215 = .ok (.iload 9, 2) := by decide +kernel
theorem dX12_brings_217 : decode cX12_brings 217 = .ok (.iadd, 1) := by decide +kernel
theorem dX12_brings_218 : decode cX12_brings 218 = .ok (.iaload, 1) := by decide +kernel
theorem dX12_brings_219 : decode cX12_brings 219 = .ok (.aload_n 1, 1) := by decide +kernel
theorem dX12_brings_220 : decode cX12_brings 220 = .ok (.bipush 18, 2) := by decide +kernel
theorem dX12_brings_222 : decode cX12_brings 222 = .ok (.iload 8, 2) := by decide +kernel
theorem dX12_brings_224 : decode cX12_brings 224 = .ok (.iadd, 1) := by decide +kernel
theorem dX12_brings_225 : decode cX12_brings 225 = .ok (.iaload, 1) := by decide +kernel
theorem dX12_brings_226 : decode cX12_brings 226 = .ok (.if_icmp .ge 7, 3) := by decide +kernel
theorem dX12_brings_229 : decode cX12_brings 229 = .ok (.iload 9, 2) := by decide +kernel
theorem dX12_brings_231 : decode cX12_brings 231 = .ok (.istore 8, 2) := by decide +kernel
theorem dX12_brings_233 : decode cX12_brings 233 = .ok (.iinc 9 1, 3) := by decide +kernel
theorem dX12_brings_236 : decode cX12_brings 236 = .ok (.goto (-95), 3) := by decide +kernel
theorem dX12_brings_239 : decode cX12_brings 239 = .ok (.iload 8, 2) := by decide +kernel
theorem dX12_brings_241 : decode cX12_brings 241 = .ok (.ireturn, 1) := by decide +kernel
theorem dX12_makesOf_0 : decode cX12_makesOf 0 = .ok (.aload_n 0, 1) := by decide +kernel
theorem dX12_makesOf_1 : decode cX12_makesOf 1 = .ok (.aload_n 1, 1) := by decide +kernel
theorem dX12_makesOf_2 : decode cX12_makesOf 2 = .ok (.iload_n 2, 1) := by decide +kernel
theorem dX12_makesOf_3 : decode cX12_makesOf 3 = .ok (.iload_n 3, 1) := by decide +kernel
theorem dX12_makesOf_4 : decode cX12_makesOf 4 = .ok (.aload_n 0, 1) := by decide +kernel
theorem dX12_makesOf_5 : decode cX12_makesOf 5 = .ok (.iload_n 2, 1) := by decide +kernel
theorem dX12_makesOf_6 : decode cX12_makesOf 6 = .ok (.iload 5, 2) := by decide +kernel
theorem dX12_makesOf_8 : decode cX12_makesOf 8 = .ok (.invokevirtual 306, 3) := by decide +kernel
theorem dX12_makesOf_11 : decode cX12_makesOf 11 = .ok (.invokestatic 309, 3) := by decide +kernel
theorem dX12_makesOf_14 : decode cX12_makesOf 14 = .ok (.iload 4, 2) := by decide +kernel
theorem dX12_makesOf_16 : decode cX12_makesOf 16 = .ok (.iload 5, 2) := by decide +kernel
theorem dX12_makesOf_18 : decode cX12_makesOf 18 = .ok (.iload 6, 2) := by decide +kernel
theorem dX12_makesOf_20 : decode cX12_makesOf 20 = .ok (.invokevirtual 312, 3) := by decide +kernel
theorem dX12_makesOf_23 : decode cX12_makesOf 23 = .ok (.ireturn, 1) := by decide +kernel
theorem dX12_visits_0 : decode cX12_visits 0 = .ok (.aload_n 1, 1) := by decide +kernel
theorem dX12_visits_1 : decode cX12_visits 1 = .ok (.bipush 24, 2) := by decide +kernel
theorem dX12_visits_3 : decode cX12_visits 3 = .ok (.iaload, 1) := by decide +kernel
theorem dX12_visits_4 : decode cX12_visits 4 = .ok (.istore_n 3, 1) := by decide +kernel
theorem dX12_visits_5 : decode cX12_visits 5 = .ok (.aload_n 0, 1) := by decide +kernel
theorem dX12_visits_6 : decode cX12_visits 6 = .ok (.getfield 49, 3) := by decide +kernel
theorem dX12_visits_9 : decode cX12_visits 9 = .ok (.iconst 3, 1) := by decide +kernel
theorem dX12_visits_10 : decode cX12_visits 10 = .ok (.iload_n 2, 1) := by decide +kernel
theorem dX12_visits_11 : decode cX12_visits 11 = .ok (.imul, 1) := by decide +kernel
theorem dX12_visits_12 : decode cX12_visits 12 = .ok (.iaload, 1) := by decide +kernel
theorem dX12_visits_13 : decode cX12_visits 13 = .ok (.istore 4, 2) := by decide +kernel
theorem dX12_visits_15 : decode cX12_visits 15 = .ok (.aload_n 0, 1) := by decide +kernel
theorem dX12_visits_16 : decode cX12_visits 16 = .ok (.iload 4, 2) := by decide +kernel
theorem dX12_visits_18 : decode cX12_visits 18 = .ok (.iload_n 3, 1) := by decide +kernel
theorem dX12_visits_19 : decode cX12_visits 19 = .ok (.invokevirtual 306, 3) := by decide +kernel
theorem dX12_visits_22 : decode cX12_visits 22 = .ok (.istore 5, 2) := by decide +kernel
theorem dX12_visits_24 : decode cX12_visits 24 = .ok (.aload_n 0, 1) := by decide +kernel
theorem dX12_visits_25 : decode cX12_visits 25 = .ok (.aload_n 1, 1) := by decide +kernel
theorem dX12_visits_26 : decode cX12_visits 26 = .ok (.iload 4, 2) := by decide +kernel
theorem dX12_visits_28 : decode cX12_visits 28 = .ok (.aload_n 1, 1) := by decide +kernel
theorem dX12_visits_29 : decode cX12_visits 29 = .ok (.iconst 3, 1) := by decide +kernel
theorem dX12_visits_30 : decode cX12_visits 30 = .ok (.iload_n 2, 1) := by decide +kernel
theorem dX12_visits_31 : decode cX12_visits 31 = .ok (.imul, 1) := by decide +kernel
theorem dX12_visits_32 : decode cX12_visits 32 = .ok (.iconst 1, 1) := by decide +kernel
theorem dX12_visits_33 : decode cX12_visits 33 = .ok (.iadd, 1) := by decide +kernel
theorem dX12_visits_34 : decode cX12_visits 34 = .ok (.iaload, 1) := by decide +kernel
theorem dX12_visits_35 : decode cX12_visits 35 = .ok (.aload_n 1, 1) := by decide +kernel
theorem dX12_visits_36 : decode cX12_visits 36 = .ok (.iconst 3, 1) := by decide +kernel
theorem dX12_visits_37 : decode cX12_visits 37 = .ok (.iload_n 2, 1) := by decide +kernel
theorem dX12_visits_38 : decode cX12_visits 38 = .ok (.imul, 1) := by decide +kernel
theorem dX12_visits_39 : decode cX12_visits 39 = .ok (.iconst 0, 1) := by decide +kernel
theorem dX12_visits_40 : decode cX12_visits 40 = .ok (.iadd, 1) := by decide +kernel
theorem dX12_visits_41 : decode cX12_visits 41 = .ok (.iaload, 1) := by decide +kernel
theorem dX12_visits_42 : decode cX12_visits 42 = .ok (.iload_n 3, 1) := by decide +kernel
theorem dX12_visits_43 : decode cX12_visits 43 = .ok (.aload_n 1, 1) := by decide +kernel
theorem dX12_visits_44 : decode cX12_visits 44 = .ok (.bipush 27, 2) := by decide +kernel
theorem dX12_visits_46 : decode cX12_visits 46 = .ok (.iaload, 1) := by decide +kernel
theorem dX12_visits_47 : decode cX12_visits 47 = .ok (.invokevirtual 316, 3) := by decide +kernel
theorem dX12_visits_50 : decode cX12_visits 50 = .ok (.istore 6, 2) := by decide +kernel
theorem dX12_visits_52 : decode cX12_visits 52 = .ok (.aload_n 1, 1) := by decide +kernel
theorem dX12_visits_53 : decode cX12_visits 53 = .ok (.iconst 3, 1) := by decide +kernel
theorem dX12_visits_54 : decode cX12_visits 54 = .ok (.iload_n 2, 1) := by decide +kernel
theorem dX12_visits_55 : decode cX12_visits 55 = .ok (.imul, 1) := by decide +kernel
theorem dX12_visits_56 : decode cX12_visits 56 = .ok (.iconst 1, 1) := by decide +kernel
theorem dX12_visits_57 : decode cX12_visits 57 = .ok (.iadd, 1) := by decide +kernel
theorem dX12_visits_58 : decode cX12_visits 58 = .ok (.aload_n 1, 1) := by decide +kernel
theorem dX12_visits_59 : decode cX12_visits 59 = .ok (.iconst 3, 1) := by decide +kernel
theorem dX12_visits_60 : decode cX12_visits 60 = .ok (.iload_n 2, 1) := by decide +kernel
theorem dX12_visits_61 : decode cX12_visits 61 = .ok (.imul, 1) := by decide +kernel
theorem dX12_visits_62 : decode cX12_visits 62 = .ok (.iconst 1, 1) := by decide +kernel
theorem dX12_visits_63 : decode cX12_visits 63 = .ok (.iadd, 1) := by decide +kernel
theorem dX12_visits_64 : decode cX12_visits 64 = .ok (.iaload, 1) := by decide +kernel
theorem dX12_visits_65 : decode cX12_visits 65 = .ok (.iload 5, 2) := by decide +kernel
theorem dX12_visits_67 : decode cX12_visits 67 = .ok (.invokestatic 309, 3) := by decide +kernel
theorem dX12_visits_70 : decode cX12_visits 70 = .ok (.iastore, 1) := by decide +kernel
theorem dX12_visits_71 : decode cX12_visits 71 = .ok (.aload_n 1, 1) := by decide +kernel
theorem dX12_visits_72 : decode cX12_visits 72 = .ok (.iconst 3, 1) := by decide +kernel
theorem dX12_visits_73 : decode cX12_visits 73 = .ok (.iload_n 2, 1) := by decide +kernel
theorem dX12_visits_74 : decode cX12_visits 74 = .ok (.imul, 1) := by decide +kernel
theorem dX12_visits_75 : decode cX12_visits 75 = .ok (.iconst 2, 1) := by decide +kernel
theorem dX12_visits_76 : decode cX12_visits 76 = .ok (.iadd, 1) := by decide +kernel
theorem dX12_visits_77 : decode cX12_visits 77 = .ok (.dup2, 1) := by decide +kernel
theorem dX12_visits_78 : decode cX12_visits 78 = .ok (.iaload, 1) := by decide +kernel
theorem dX12_visits_79 : decode cX12_visits 79 = .ok (.iload 5, 2) := by decide +kernel
theorem dX12_visits_81 : decode cX12_visits 81 = .ok (.iadd, 1) := by decide +kernel
theorem dX12_visits_82 : decode cX12_visits 82 = .ok (.iastore, 1) := by decide +kernel
theorem dX12_visits_83 : decode cX12_visits 83 = .ok (.iload 6, 2) := by decide +kernel
theorem dX12_visits_85 : decode cX12_visits 85 = .ok (.iconst (-1), 1) := by decide +kernel
theorem dX12_visits_86 : decode cX12_visits 86 = .ok (.if_icmp .eq 26, 3) := by decide +kernel
theorem dX12_visits_89 : decode cX12_visits 89 = .ok (.aload_n 1, 1) := by decide +kernel
theorem dX12_visits_90 : decode cX12_visits 90 = .ok (.iconst 3, 1) := by decide +kernel
theorem dX12_visits_91 : decode cX12_visits 91 = .ok (.iload_n 2, 1) := by decide +kernel
theorem dX12_visits_92 : decode cX12_visits 92 = .ok (.imul, 1) := by decide +kernel
theorem dX12_visits_93 : decode cX12_visits 93 = .ok (.iconst 0, 1) := by decide +kernel
theorem dX12_visits_94 : decode cX12_visits 94 = .ok (.iadd, 1) := by decide +kernel
theorem dX12_visits_95 : decode cX12_visits 95 = .ok (.dup2, 1) := by decide +kernel
theorem dX12_visits_96 : decode cX12_visits 96 = .ok (.iaload, 1) := by decide +kernel
theorem dX12_visits_97 : decode cX12_visits 97 = .ok (.aload_n 1, 1) := by decide +kernel
theorem dX12_visits_98 : decode cX12_visits 98 = .ok (.bipush 18, 2) := by decide +kernel
theorem dX12_visits_100 : decode cX12_visits 100 = .ok (.iload 6, 2) := by decide +kernel
theorem dX12_visits_102 : decode cX12_visits 102 = .ok (.iadd, 1) := by decide +kernel
theorem dX12_visits_103 : decode cX12_visits 103 = .ok (.iaload, 1) := by decide +kernel
theorem dX12_visits_104 : decode cX12_visits 104 = .ok (.isub, 1) := by decide +kernel
theorem dX12_visits_105 : decode cX12_visits 105 = .ok (.iastore, 1) := by decide +kernel
theorem dX12_visits_106 : decode cX12_visits 106 = .ok (.aload_n 1, 1) := by decide +kernel
theorem dX12_visits_107 : decode cX12_visits 107 = .ok (.bipush 24, 2) := by decide +kernel
theorem dX12_visits_109 : decode cX12_visits 109 = .ok (.iload 6, 2) := by decide +kernel
theorem dX12_visits_111 : decode cX12_visits 111 = .ok (.iastore, 1) := by decide +kernel
theorem dX12_visits_112 : decode cX12_visits 112 = .ok (.aload_n 1, 1) := by decide +kernel
theorem dX12_visits_113 : decode cX12_visits 113 = .ok (.bipush 27, 2) := by decide +kernel
theorem dX12_visits_115 : decode cX12_visits 115 = .ok (.dup2, 1) := by decide +kernel
theorem dX12_visits_116 : decode cX12_visits 116 = .ok (.iaload, 1) := by decide +kernel
theorem dX12_visits_117 : decode cX12_visits 117 = .ok (.iconst 1, 1) := by decide +kernel
theorem dX12_visits_118 : decode cX12_visits 118 = .ok (.iadd, 1) := by decide +kernel
theorem dX12_visits_119 : decode cX12_visits 119 = .ok (.iastore, 1) := by decide +kernel
theorem dX12_visits_120 : decode cX12_visits 120 = .ok (.aload_n 1, 1) := by decide +kernel
theorem dX12_visits_121 : decode cX12_visits 121 = .ok (.bipush 28, 2) := by decide +kernel
theorem dX12_visits_123 : decode cX12_visits 123 = .ok (.iaload, 1) := by decide +kernel
theorem dX12_visits_124 : decode cX12_visits 124 = .ok (.bipush 60, 2) := by decide +kernel
theorem dX12_visits_126 : decode cX12_visits 126 = .ok (.if_icmp .ne 44, 3) := by decide +kernel
theorem dX12_visits_129 : decode cX12_visits 129 = .ok (.iconst 1, 1) := by decide +kernel
theorem dX12_visits_130 : decode cX12_visits 130 = .ok (.istore 7, 2) := by decide +kernel
theorem dX12_visits_132 : decode cX12_visits 132 = .ok (.iload 7, 2) := by decide +kernel
theorem dX12_visits_134 : decode cX12_visits 134 = .ok (.sipush 236, 3) := by decide +kernel
theorem dX12_visits_137 : decode cX12_visits 137 = .ok (.if_icmp .gt 25, 3) := by decide +kernel
theorem dX12_visits_140 : decode cX12_visits 140 = .ok (.aload_n 1, 1) := by decide +kernel
theorem dX12_visits_141 : decode cX12_visits 141 = .ok (.bipush 28, 2) := by decide +kernel
theorem dX12_visits_143 : decode cX12_visits 143 = .ok (.iload 7, 2) := by decide +kernel
theorem dX12_visits_145 : decode cX12_visits 145 = .ok (.iadd, 1) := by decide +kernel
theorem dX12_visits_146 : decode cX12_visits 146 = .ok (.aload_n 1, 1) := by decide +kernel
theorem dX12_visits_147 : decode cX12_visits 147 = .ok (.bipush 28, 2) := by decide +kernel
theorem dX12_visits_149 : decode cX12_visits 149 = .ok (.iload 7, 2) := by decide +kernel
theorem dX12_visits_151 : decode cX12_visits 151 = .ok (.iadd, 1) := by decide +kernel
theorem dX12_visits_152 : decode cX12_visits 152 = .ok (.iconst 4, 1) := by decide +kernel
theorem dX12_visits_153 : decode cX12_visits 153 = .ok (.iadd, 1) := by decide +kernel
theorem dX12_visits_154 : decode cX12_visits 154 = .ok (.iaload, 1) := by decide +kernel
theorem dX12_visits_155 : decode cX12_visits 155 = .ok (.iastore, 1) := by decide +kernel
theorem dX12_visits_156 : decode cX12_visits 156 = .ok (.iinc 7 1, 3) := by decide +kernel
theorem dX12_visits_159 : decode cX12_visits 159 = .ok (.goto (-27), 3) := by decide +kernel
theorem dX12_visits_162 : decode cX12_visits 162 = .ok (.aload_n 1, 1) := by decide +kernel
theorem dX12_visits_163 : decode cX12_visits 163 = .ok (.bipush 28, 2) := by decide +kernel
theorem dX12_visits_165 : decode cX12_visits 165 = .ok (.dup2, 1) := by decide +kernel
theorem dX12_visits_166 : decode cX12_visits 166 = .ok (.iaload, 1) := by decide +kernel
theorem dX12_visits_167 : decode cX12_visits 167 = .ok (.iconst 1, 1) := by decide +kernel
theorem dX12_visits_168 : decode cX12_visits 168 = .ok (.isub, 1) := by decide +kernel
theorem dX12_visits_169 : decode cX12_visits 169 = .ok (.iastore, 1) := by decide +kernel
theorem dX12_visits_170 : decode cX12_visits 170 = .ok (.bipush 29, 2) := by decide +kernel
theorem dX12_visits_172 : decode cX12_visits 172 = .ok (.iconst 4, 1) := by decide +kernel
theorem dX12_visits_173 : decode cX12_visits 173 = .ok (.aload_n 1, 1) := by decide +kernel
theorem dX12_visits_174 : decode cX12_visits 174 = .ok (.bipush 28, 2) := by decide +kernel
theorem dX12_visits_176 : decode cX12_visits 176 = .ok (.iaload, 1) := by decide +kernel
theorem dX12_visits_177 : decode cX12_visits 177 = .ok (.imul, 1) := by decide +kernel
theorem dX12_visits_178 : decode cX12_visits 178 = .ok (.iadd, 1) := by decide +kernel
theorem dX12_visits_179 : decode cX12_visits 179 = .ok (.istore 7, 2) := by decide +kernel
theorem dX12_visits_181 : decode cX12_visits 181 = .ok (.aload_n 1, 1) := by decide +kernel
theorem dX12_visits_182 : decode cX12_visits 182 = .ok (.iload 7, 2) := by decide +kernel
theorem dX12_visits_184 : decode cX12_visits 184 = .ok (.iload_n 2, 1) := by decide +kernel
theorem dX12_visits_185 : decode cX12_visits 185 = .ok (.iastore, 1) := by decide +kernel
theorem dX12_visits_186 : decode cX12_visits 186 = .ok (.aload_n 1, 1) := by decide +kernel
theorem dX12_visits_187 : decode cX12_visits 187 = .ok (.iload 7, 2) := by decide +kernel
theorem dX12_visits_189 : decode cX12_visits 189 = .ok (.iconst 1, 1) := by decide +kernel
theorem dX12_visits_190 : decode cX12_visits 190 = .ok (.iadd, 1) := by decide +kernel
theorem dX12_visits_191 : decode cX12_visits 191 = .ok (.iload_n 3, 1) := by decide +kernel
theorem dX12_visits_192 : decode cX12_visits 192 = .ok (.iastore, 1) := by decide +kernel
theorem dX12_visits_193 : decode cX12_visits 193 = .ok (.aload_n 1, 1) := by decide +kernel
theorem dX12_visits_194 : decode cX12_visits 194 = .ok (.iload 7, 2) := by decide +kernel
theorem dX12_visits_196 : decode cX12_visits 196 = .ok (.iconst 2, 1) := by decide +kernel
theorem dX12_visits_197 : decode cX12_visits 197 = .ok (.iadd, 1) := by decide +kernel
theorem dX12_visits_198 : decode cX12_visits 198 = .ok (.iload 6, 2) := by decide +kernel
theorem dX12_visits_200 : decode cX12_visits 200 = .ok (.iastore, 1) := by decide +kernel
theorem dX12_visits_201 : decode cX12_visits 201 = .ok (.aload_n 1, 1) := by decide +kernel
theorem dX12_visits_202 : decode cX12_visits 202 = .ok (.iload 7, 2) := by decide +kernel
theorem dX12_visits_204 : decode cX12_visits 204 = .ok (.iconst 3, 1) := by decide +kernel
theorem dX12_visits_205 : decode cX12_visits 205 = .ok (.iadd, 1) := by decide +kernel
theorem dX12_visits_206 : decode cX12_visits 206 = .ok (.iload 5, 2) := by decide +kernel
theorem dX12_visits_208 : decode cX12_visits 208 = .ok (.iastore, 1) := by decide +kernel
theorem dX12_visits_209 : decode cX12_visits 209 = .ok (.aload_n 1, 1) := by decide +kernel
theorem dX12_visits_210 : decode cX12_visits 210 = .ok (.bipush 28, 2) := by decide +kernel
theorem dX12_visits_212 : decode cX12_visits 212 = .ok (.dup2, 1) := by decide +kernel
theorem dX12_visits_213 : decode cX12_visits 213 = .ok (.iaload, 1) := by decide +kernel
theorem dX12_visits_214 : decode cX12_visits 214 = .ok (.iconst 1, 1) := by decide +kernel
theorem dX12_visits_215 : decode cX12_visits 215 = .ok (.iadd, 1) := by decide +kernel
theorem dX12_visits_216 : decode cX12_visits 216 = .ok (.iastore, 1) := by decide +kernel
theorem dX12_visits_217 : decode cX12_visits 217 = .ok (.iload 5, 2) := by decide +kernel
theorem dX12_visits_219 : decode cX12_visits 219 = .ok (.ireturn, 1) := by decide +kernel
theorem dX12_goMonth_0 : decode cX12_goMonth 0 = .ok (.iconst 0, 1) := by decide +kernel
theorem dX12_goMonth_1 : decode cX12_goMonth 1 = .ok (.istore_n 2, 1) := by decide +kernel
theorem dX12_goMonth_2 : decode cX12_goMonth 2 = .ok (.iload_n 2, 1) := by decide +kernel
theorem dX12_goMonth_3 : decode cX12_goMonth 3 = .ok (.aload_n 0, 1) := by decide +kernel
theorem dX12_goMonth_4 : decode cX12_goMonth 4 = .ok (.getfield 284, 3) := by decide +kernel
theorem dX12_goMonth_7 : decode cX12_goMonth 7 = .ok (.if_icmp .ge 35, 3) := by decide +kernel
theorem dX12_goMonth_10 : decode cX12_goMonth 10 = .ok (.aload_n 1, 1) := by decide +kernel
theorem dX12_goMonth_11 : decode cX12_goMonth 11 = .ok (.iconst 3, 1) := by decide +kernel
theorem dX12_goMonth_12 : decode cX12_goMonth 12 = .ok (.iload_n 2, 1) := by decide +kernel
theorem dX12_goMonth_13 : decode cX12_goMonth 13 = .ok (.imul, 1) := by decide +kernel
theorem dX12_goMonth_14 : decode cX12_goMonth 14 = .ok (.iconst 0, 1) := by decide +kernel
theorem dX12_goMonth_15 : decode cX12_goMonth 15 = .ok (.iadd, 1) := by decide +kernel
theorem dX12_goMonth_16 : decode cX12_goMonth 16 = .ok (.bipush 99, 2) := by decide +kernel
theorem dX12_goMonth_18 : decode cX12_goMonth 18 = .ok (.aload_n 1, 1) := by decide +kernel
theorem dX12_goMonth_19 : decode cX12_goMonth 19 = .ok (.iconst 3, 1) := by decide +kernel
theorem dX12_goMonth_20 : decode cX12_goMonth 20 = .ok (.iload_n 2, 1) := by decide +kernel
theorem dX12_goMonth_21 : decode cX12_goMonth 21 = .ok (.imul, 1) := by decide +kernel
theorem dX12_goMonth_22 : decode cX12_goMonth 22 = .ok (.iconst 0, 1) := by decide +kernel
theorem dX12_goMonth_23 : decode cX12_goMonth 23 = .ok (.iadd, 1) := by decide +kernel
theorem dX12_goMonth_24 : decode cX12_goMonth 24 = .ok (.iaload, 1) := by decide +kernel
theorem dX12_goMonth_25 : decode cX12_goMonth 25 = .ok (.aload_n 0, 1) := by decide +kernel
theorem dX12_goMonth_26 : decode cX12_goMonth 26 = .ok (.getfield 37, 3) := by decide +kernel
theorem dX12_goMonth_29 : decode cX12_goMonth 29 = .ok (.iconst 1, 1) := by decide +kernel
theorem dX12_goMonth_30 : decode cX12_goMonth 30 = .ok (.iaload, 1) := by decide +kernel
theorem dX12_goMonth_31 : decode cX12_goMonth 31 = .ok (.iadd, 1) := by decide +kernel
theorem dX12_goMonth_32 : decode cX12_goMonth 32 = .ok (.invokestatic 299, 3) := by decide +kernel
theorem dX12_goMonth_35 : decode cX12_goMonth 35 = .ok (.iastore, 1) := by decide +kernel
theorem dX12_goMonth_36 : decode cX12_goMonth 36 = .ok (.iinc 2 1, 3) := by decide +kernel
theorem dX12_goMonth_39 : decode cX12_goMonth 39 = .ok (.goto (-37), 3) := by decide +kernel
theorem dX12_goMonth_42 : decode cX12_goMonth 42 = .ok (.aload_n 1, 1) := by decide +kernel
theorem dX12_goMonth_43 : decode cX12_goMonth 43 = .ok (.bipush 26, 2) := by decide +kernel
theorem dX12_goMonth_45 : decode cX12_goMonth 45 = .ok (.iconst 0, 1) := by decide +kernel
theorem dX12_goMonth_46 : decode cX12_goMonth 46 = .ok (.iastore, 1) := by decide +kernel
theorem dX12_goMonth_47 : decode cX12_goMonth 47 = .ok (.aload_n 1, 1) := by decide +kernel
theorem dX12_goMonth_48 : decode cX12_goMonth 48 = .ok (.bipush 25, 2) := by decide +kernel
theorem dX12_goMonth_50 : decode cX12_goMonth 50 = .ok (.dup2, 1) := by decide +kernel
theorem dX12_goMonth_51 : decode cX12_goMonth 51 = .ok (.iaload, 1) := by decide +kernel
theorem dX12_goMonth_52 : decode cX12_goMonth 52 = .ok (.iconst 1, 1) := by decide +kernel
theorem dX12_goMonth_53 : decode cX12_goMonth 53 = .ok (.iadd, 1) := by decide +kernel
theorem dX12_goMonth_54 : decode cX12_goMonth 54 = .ok (.iastore, 1) := by decide +kernel
theorem dX12_goMonth_55 : decode cX12_goMonth 55 = .ok (.return_, 1) := by decide +kernel
theorem dX12_canHost_0 : decode cX12_canHost 0 = .ok (.aload_n 0, 1) := by decide +kernel
theorem dX12_canHost_1 : decode cX12_canHost 1 = .ok (.iload_n 2, 1) := by decide +kernel
theorem dX12_canHost_2 : decode cX12_canHost 2 = .ok (.invokevirtual 319, 3) := by decide +kernel
theorem dX12_canHost_5 : decode cX12_canHost 5 = .ok (.ifCond .eq 22, 3) := by decide +kernel
theorem dX12_canHost_8 : decode cX12_canHost 8 = .ok (.aload_n 1, 1) := by decide +kernel
theorem dX12_canHost_9 : decode cX12_canHost 9 = .ok (.bipush 24, 2) := by decide +kernel
theorem dX12_canHost_11 : decode cX12_canHost 11 = .ok (.iaload, 1) := by decide +kernel
theorem dX12_canHost_12 : decode cX12_canHost 12 = .ok (.iload_n 2, 1) := by decide +kernel
theorem dX12_canHost_13 : decode cX12_canHost 13 = .ok (.if_icmp .eq 14, 3) := by decide +kernel
theorem dX12_canHost_16 : decode cX12_canHost 16 = .ok (.aload_n 1, 1) := by decide +kernel
theorem dX12_canHost_17 : decode cX12_canHost 17 = .ok (.bipush 26, 2) := by decide +kernel
theorem dX12_canHost_19 : decode cX12_canHost 19 = .ok (.iaload, 1) := by decide +kernel
theorem dX12_canHost_20 : decode cX12_canHost 20 = .ok (.ifCond .ne 7, 3) := by decide +kernel
theorem dX12_canHost_23 : decode cX12_canHost 23 = .ok (.iconst 1, 1) := by decide +kernel
theorem dX12_canHost_24 : decode cX12_canHost 24 = .ok (.goto 4, 3) := by decide +kernel
theorem dX12_canHost_27 : decode cX12_canHost 27 = .ok (.iconst 0, 1) := by decide +kernel
theorem dX12_canHost_28 : decode cX12_canHost 28 = .ok (.ireturn, 1) := by decide +kernel
theorem dX12_hosts_0 : decode cX12_hosts 0 = .ok (.aload_n 0, 1) := by decide +kernel
theorem dX12_hosts_1 : decode cX12_hosts 1 = .ok (.bipush 24, 2) := by decide +kernel
theorem dX12_hosts_3 : decode cX12_hosts 3 = .ok (.iload_n 1, 1) := by decide +kernel
theorem dX12_hosts_4 : decode cX12_hosts 4 = .ok (.iastore, 1) := by decide +kernel
theorem dX12_hosts_5 : decode cX12_hosts 5 = .ok (.aload_n 0, 1) := by decide +kernel
theorem dX12_hosts_6 : decode cX12_hosts 6 = .ok (.bipush 26, 2) := by decide +kernel
theorem dX12_hosts_8 : decode cX12_hosts 8 = .ok (.iconst 1, 1) := by decide +kernel
theorem dX12_hosts_9 : decode cX12_hosts 9 = .ok (.iastore, 1) := by decide +kernel
theorem dX12_hosts_10 : decode cX12_hosts 10 = .ok (.return_, 1) := by decide +kernel
theorem dX12_rule_0 : decode cX12_rule 0 = .ok (.aload_n 0, 1) := by decide +kernel
theorem dX12_rule_1 : decode cX12_rule 1 = .ok (.iconst 0, 1) := by decide +kernel
theorem dX12_rule_2 : decode cX12_rule 2 = .ok (.putfield 89, 3) := by decide +kernel
theorem dX12_rule_5 : decode cX12_rule 5 = .ok (.aload_n 0, 1) := by decide +kernel
theorem dX12_rule_6 : decode cX12_rule 6 = .ok (.getfield 284, 3) := by decide +kernel
theorem dX12_rule_9 : decode cX12_rule 9 = .ok (.ifCond .eq 15, 3) := by decide +kernel
theorem dX12_rule_12 : decode cX12_rule 12 = .ok (.iload_n 1, 1) := by decide +kernel
theorem dX12_rule_13 : decode cX12_rule 13 = .ok (.i2l, 1) := by decide +kernel
theorem dX12_rule_14 : decode cX12_rule 14 = .ok (.lconst 0, 1) := by decide +kernel
theorem dX12_rule_15 : decode cX12_rule 15 = .ok (.ldc2_w 258, 3) := by decide +kernel
theorem dX12_rule_18 : decode cX12_rule 18 = .ok (.invokestatic 260, 3) := by decide +kernel
theorem dX12_rule_21 : decode cX12_rule 21 = .ok (.ifCond .ne 5, 3) := by decide +kernel
theorem dX12_rule_24 : decode cX12_rule 24 = .ok (.iconst (-1), 1) := by decide +kernel
theorem dX12_rule_25 : decode cX12_rule 25 = .ok (.ireturn, 1) := by decide +kernel
theorem dX12_rule_26 : decode cX12_rule 26 = .ok (.iload_n 1, 1) := by decide +kernel
theorem dX12_rule_27 : decode cX12_rule 27 = .ok (.ifCond .ne 13, 3) := by decide +kernel
theorem dX12_rule_30 : decode cX12_rule 30 = .ok (.aload_n 0, 1) := by decide +kernel
theorem dX12_rule_31 : decode cX12_rule 31 = .ok (.getfield 61, 3) := by decide +kernel
theorem dX12_rule_34 : decode cX12_rule 34 = .ok (.bipush 24, 2) := by decide +kernel
theorem dX12_rule_36 : decode cX12_rule 36 = .ok (.iaload, 1) := by decide +kernel
theorem dX12_rule_37 : decode cX12_rule 37 = .ok (.goto 9, 3) := by decide +kernel
theorem dX12_rule_40 : decode cX12_rule 40 = .ok (.aload_n 0, 1) := by decide +kernel
theorem dX12_rule_41 : decode cX12_rule 41 = .ok (.getfield 37, 3) := by decide +kernel
theorem dX12_rule_44 : decode cX12_rule 44 = .ok (.iload_n 1, 1) := by decide +kernel
theorem dX12_rule_45 : decode cX12_rule 45 = .ok (.iaload, 1) := by decide +kernel
theorem dX12_rule_46 : decode cX12_rule 46 = .ok (.ireturn, 1) := by decide +kernel
theorem dX12_drink_0 : decode cX12_drink 0 = .ok (.aload_n 0, 1) := by decide +kernel
theorem dX12_drink_1 : decode cX12_drink 1 = .ok (.iconst 0, 1) := by decide +kernel
theorem dX12_drink_2 : decode cX12_drink 2 = .ok (.putfield 89, 3) := by decide +kernel
theorem dX12_drink_5 : decode cX12_drink 5 = .ok (.aload_n 0, 1) := by decide +kernel
theorem dX12_drink_6 : decode cX12_drink 6 = .ok (.iload_n 1, 1) := by decide +kernel
theorem dX12_drink_7 : decode cX12_drink 7 = .ok (.invokevirtual 319, 3) := by decide +kernel
theorem dX12_drink_10 : decode cX12_drink 10 = .ok (.ifCond .eq 13, 3) := by decide +kernel
theorem dX12_drink_13 : decode cX12_drink 13 = .ok (.iload_n 2, 1) := by decide +kernel
theorem dX12_drink_14 : decode cX12_drink 14 = .ok (.i2l, 1) := by decide +kernel
theorem dX12_drink_15 : decode cX12_drink 15 = .ok (.lconst 0, 1) := by decide +kernel
theorem dX12_drink_16 : decode cX12_drink 16 = .ok (.lconst 1, 1) := by decide +kernel
theorem dX12_drink_17 : decode cX12_drink 17 = .ok (.invokestatic 260, 3) := by decide +kernel
theorem dX12_drink_20 : decode cX12_drink 20 = .ok (.ifCond .ne 5, 3) := by decide +kernel
theorem dX12_drink_23 : decode cX12_drink 23 = .ok (.iconst (-1), 1) := by decide +kernel
theorem dX12_drink_24 : decode cX12_drink 24 = .ok (.ireturn, 1) := by decide +kernel
theorem dX12_drink_25 : decode cX12_drink 25 = .ok (.iload_n 2, 1) := by decide +kernel
theorem dX12_drink_26 : decode cX12_drink 26 = .ok (.ifCond .ne 11, 3) := by decide +kernel
theorem dX12_drink_29 : decode cX12_drink 29 = .ok (.aload_n 0, 1) := by decide +kernel
theorem dX12_drink_30 : decode cX12_drink 30 = .ok (.iload_n 1, 1) := by decide +kernel
theorem dX12_drink_31 : decode cX12_drink 31 = .ok (.invokevirtual 296, 3) := by decide +kernel
theorem dX12_drink_34 : decode cX12_drink 34 = .ok (.goto 12, 3) := by decide +kernel
theorem dX12_drink_37 : decode cX12_drink 37 = .ok (.aload_n 0, 1) := by decide +kernel
theorem dX12_drink_38 : decode cX12_drink 38 = .ok (.getfield 61, 3) := by decide +kernel
theorem dX12_drink_41 : decode cX12_drink 41 = .ok (.bipush 18, 2) := by decide +kernel
theorem dX12_drink_43 : decode cX12_drink 43 = .ok (.iload_n 1, 1) := by decide +kernel
theorem dX12_drink_44 : decode cX12_drink 44 = .ok (.iadd, 1) := by decide +kernel
theorem dX12_drink_45 : decode cX12_drink 45 = .ok (.iaload, 1) := by decide +kernel
theorem dX12_drink_46 : decode cX12_drink 46 = .ok (.ireturn, 1) := by decide +kernel
theorem dX12_guest_0 : decode cX12_guest 0 = .ok (.aload_n 0, 1) := by decide +kernel
theorem dX12_guest_1 : decode cX12_guest 1 = .ok (.aload_n 0, 1) := by decide +kernel
theorem dX12_guest_2 : decode cX12_guest 2 = .ok (.iload_n 1, 1) := by decide +kernel
theorem dX12_guest_3 : decode cX12_guest 3 = .ok (.invokevirtual 322, 3) := by decide +kernel
theorem dX12_guest_6 : decode cX12_guest 6 = .ok (.ifCond .eq 19, 3) := by decide +kernel
theorem dX12_guest_9 : decode cX12_guest 9 = .ok (.iload_n 2, 1) := by decide +kernel
theorem dX12_guest_10 : decode cX12_guest 10 = .ok (.i2l, 1) := by decide +kernel
theorem dX12_guest_11 : decode cX12_guest 11 = .ok (.lconst 0, 1) := by decide +kernel
theorem dX12_guest_12 : decode cX12_guest 12 = .ok (.ldc2_w 325, 3) := by decide +kernel
theorem dX12_guest_15 : decode cX12_guest 15 = .ok (.invokestatic 260, 3) := by decide +kernel
theorem dX12_guest_18 : decode cX12_guest 18 = .ok (.ifCond .eq 7, 3) := by decide +kernel
theorem dX12_guest_21 : decode cX12_guest 21 = .ok (.iconst 0, 1) := by decide +kernel
theorem dX12_guest_22 : decode cX12_guest 22 = .ok (.goto 4, 3) := by decide +kernel
theorem dX12_guest_25 : decode cX12_guest 25 = .ok (.iconst 1, 1) := by decide +kernel
theorem dX12_guest_26 : decode cX12_guest 26 = .ok (.putfield 89, 3) := by decide +kernel
theorem dX12_guest_29 : decode cX12_guest 29 = .ok (.aload_n 0, 1) := by decide +kernel
theorem dX12_guest_30 : decode cX12_guest 30 = .ok (.getfield 89, 3) := by decide +kernel
theorem dX12_guest_33 : decode cX12_guest 33 = .ok (.ifCond .le 5, 3) := by decide +kernel
theorem dX12_guest_36 : decode cX12_guest 36 = .ok (.iconst 0, 1) := by decide +kernel
theorem dX12_guest_37 : decode cX12_guest 37 = .ok (.ireturn, 1) := by decide +kernel
theorem dX12_guest_38 : decode cX12_guest 38 = .ok (.iload_n 2, 1) := by decide +kernel
theorem dX12_guest_39 : decode cX12_guest 39 = .ok (.ifCond .ne 14, 3) := by decide +kernel
theorem dX12_guest_42 : decode cX12_guest 42 = .ok (.aload_n 0, 1) := by decide +kernel
theorem dX12_guest_43 : decode cX12_guest 43 = .ok (.getfield 49, 3) := by decide +kernel
theorem dX12_guest_46 : decode cX12_guest 46 = .ok (.iconst 3, 1) := by decide +kernel
theorem dX12_guest_47 : decode cX12_guest 47 = .ok (.iload_n 1, 1) := by decide +kernel
theorem dX12_guest_48 : decode cX12_guest 48 = .ok (.imul, 1) := by decide +kernel
theorem dX12_guest_49 : decode cX12_guest 49 = .ok (.iaload, 1) := by decide +kernel
theorem dX12_guest_50 : decode cX12_guest 50 = .ok (.goto 15, 3) := by decide +kernel
theorem dX12_guest_53 : decode cX12_guest 53 = .ok (.aload_n 0, 1) := by decide +kernel
theorem dX12_guest_54 : decode cX12_guest 54 = .ok (.getfield 61, 3) := by decide +kernel
theorem dX12_guest_57 : decode cX12_guest 57 = .ok (.iconst 3, 1) := by decide +kernel
theorem dX12_guest_58 : decode cX12_guest 58 = .ok (.iload_n 1, 1) := by decide +kernel
theorem dX12_guest_59 : decode cX12_guest 59 = .ok (.imul, 1) := by decide +kernel
theorem dX12_guest_60 : decode cX12_guest 60 = .ok (.iload_n 2, 1) := by decide +kernel
theorem dX12_guest_61 : decode cX12_guest 61 = .ok (.iadd, 1) := by decide +kernel
theorem dX12_guest_62 : decode cX12_guest 62 = .ok (.iconst 1, 1) := by decide +kernel
theorem dX12_guest_63 : decode cX12_guest 63 = .ok (.isub, 1) := by decide +kernel
theorem dX12_guest_64 : decode cX12_guest 64 = .ok (.iaload, 1) := by decide +kernel
theorem dX12_guest_65 : decode cX12_guest 65 = .ok (.ireturn, 1) := by decide +kernel
theorem dX12_law_0 : decode cX12_law 0 = .ok (.aload_n 0, 1) := by decide +kernel
theorem dX12_law_1 : decode cX12_law 1 = .ok (.iconst 0, 1) := by decide +kernel
theorem dX12_law_2 : decode cX12_law 2 = .ok (.putfield 89, 3) := by decide +kernel
theorem dX12_law_5 : decode cX12_law 5 = .ok (.iload_n 1, 1) := by decide +kernel
theorem dX12_law_6 : decode cX12_law 6 = .ok (.iconst (-1), 1) := by decide +kernel
theorem dX12_law_7 : decode cX12_law 7 = .ok (.if_icmp .eq 21, 3) := by decide +kernel
theorem dX12_law_10 : decode cX12_law 10 = .ok (.iload_n 1, 1) := by decide +kernel
theorem dX12_law_11 : decode cX12_law 11 = .ok (.i2l, 1) := by decide +kernel
theorem dX12_law_12 : decode cX12_law 12 = .ok (.lconst 0, 1) := by decide +kernel
theorem dX12_law_13 : decode cX12_law 13 = .ok (.aload_n 0, 1) := by decide +kernel
theorem dX12_law_14 : decode cX12_law 14 = .ok (.getfield 273, 3) := by decide +kernel
theorem dX12_law_17 : decode cX12_law 17 = .ok (.iconst 1, 1) := by decide +kernel
theorem dX12_law_18 : decode cX12_law 18 = .ok (.isub, 1) := by decide +kernel
theorem dX12_law_19 : decode cX12_law 19 = .ok (.i2l, 1) := by decide +kernel
theorem dX12_law_20 : decode cX12_law 20 = .ok (.invokestatic 260, 3) := by decide +kernel
theorem dX12_law_23 : decode cX12_law 23 = .ok (.ifCond .ne 5, 3) := by decide +kernel
theorem dX12_law_26 : decode cX12_law 26 = .ok (.iconst 0, 1) := by decide +kernel
theorem dX12_law_27 : decode cX12_law 27 = .ok (.ireturn, 1) := by decide +kernel
theorem dX12_law_28 : decode cX12_law 28 = .ok (.aload_n 0, 1) := by decide +kernel
theorem dX12_law_29 : decode cX12_law 29 = .ok (.iload_n 1, 1) := by decide +kernel
theorem dX12_law_30 : decode cX12_law 30 = .ok (.putfield 67, 3) := by decide +kernel
theorem dX12_law_33 : decode cX12_law 33 = .ok (.iconst 1, 1) := by decide +kernel
theorem dX12_law_34 : decode cX12_law 34 = .ok (.ireturn, 1) := by decide +kernel
theorem dX12_snow_0 : decode cX12_snow 0 = .ok (.aload_n 0, 1) := by decide +kernel
theorem dX12_snow_1 : decode cX12_snow 1 = .ok (.iconst 0, 1) := by decide +kernel
theorem dX12_snow_2 : decode cX12_snow 2 = .ok (.putfield 89, 3) := by decide +kernel
theorem dX12_snow_5 : decode cX12_snow 5 = .ok (.iload_n 1, 1) := by decide +kernel
theorem dX12_snow_6 : decode cX12_snow 6 = .ok (.i2l, 1) := by decide +kernel
theorem dX12_snow_7 : decode cX12_snow 7 = .ok (.lconst 0, 1) := by decide +kernel
theorem dX12_snow_8 : decode cX12_snow 8 = .ok (.ldc2_w 327, 3) := by decide +kernel
theorem dX12_snow_11 : decode cX12_snow 11 = .ok (.invokestatic 260, 3) := by decide +kernel
theorem dX12_snow_14 : decode cX12_snow 14 = .ok (.ifCond .eq 11, 3) := by decide +kernel
theorem dX12_snow_17 : decode cX12_snow 17 = .ok (.iload_n 1, 1) := by decide +kernel
theorem dX12_snow_18 : decode cX12_snow 18 = .ok (.aload_n 0, 1) := by decide +kernel
theorem dX12_snow_19 : decode cX12_snow 19 = .ok (.getfield 71, 3) := by decide +kernel
theorem dX12_snow_22 : decode cX12_snow 22 = .ok (.if_icmp .ne 5, 3) := by decide +kernel
theorem dX12_snow_25 : decode cX12_snow 25 = .ok (.iconst 0, 1) := by decide +kernel
theorem dX12_snow_26 : decode cX12_snow 26 = .ok (.ireturn, 1) := by decide +kernel
theorem dX12_snow_27 : decode cX12_snow 27 = .ok (.aload_n 0, 1) := by decide +kernel
theorem dX12_snow_28 : decode cX12_snow 28 = .ok (.iload_n 1, 1) := by decide +kernel
theorem dX12_snow_29 : decode cX12_snow 29 = .ok (.putfield 71, 3) := by decide +kernel
theorem dX12_snow_32 : decode cX12_snow 32 = .ok (.iconst 1, 1) := by decide +kernel
theorem dX12_snow_33 : decode cX12_snow 33 = .ok (.ireturn, 1) := by decide +kernel
theorem dX12_remember_0 : decode cX12_remember 0 = .ok (.aload_n 0, 1) := by decide +kernel
theorem dX12_remember_1 : decode cX12_remember 1 = .ok (.getfield 290, 3) := by decide +kernel
theorem dX12_remember_4 : decode cX12_remember 4 = .ok (.bipush 40, 2) := by decide +kernel
theorem dX12_remember_6 : decode cX12_remember 6 = .ok (.if_icmp .ne 44, 3) := by decide +kernel
theorem dX12_remember_9 : decode cX12_remember 9 = .ok (.iconst 0, 1) := by decide +kernel
theorem dX12_remember_10 : decode cX12_remember 10 = .ok (.istore_n 1, 1) := by decide +kernel
theorem dX12_remember_11 : decode cX12_remember 11 = .ok (.iload_n 1, 1) := by decide +kernel
theorem dX12_remember_12 : decode cX12_remember 12 = .ok (.sipush 10491, 3) := by decide +kernel
theorem dX12_remember_15 : decode cX12_remember 15 = .ok (.if_icmp .ge 25, 3) := by decide +kernel
theorem dX12_remember_18 : decode cX12_remember 18 = .ok (.aload_n 0, 1) := by decide +kernel
theorem dX12_remember_19 : decode cX12_remember 19 = .ok (.getfield 74, 3) := by decide +kernel
theorem dX12_remember_22 : decode cX12_remember 22 = .ok (.iload_n 1, 1) := by decide +kernel
theorem dX12_remember_23 : decode cX12_remember 23 = .ok (.aload_n 0, 1) := by decide +kernel
theorem dX12_remember_24 : decode cX12_remember 24 = .ok (.getfield 74, 3) := by decide +kernel
theorem dX12_remember_27 : decode cX12_remember 27 = .ok (.iload_n 1, 1) := by decide +kernel
theorem dX12_remember_28 : decode cX12_remember 28 = .ok (.sipush 269, 3) := by decide +kernel
theorem dX12_remember_31 : decode cX12_remember 31 = .ok (.iadd, 1) := by decide +kernel
theorem dX12_remember_32 : decode cX12_remember 32 = .ok (.iaload, 1) := by decide +kernel
theorem dX12_remember_33 : decode cX12_remember 33 = .ok (.iastore, 1) := by decide +kernel
theorem dX12_remember_34 : decode cX12_remember 34 = .ok (.iinc 1 1, 3) := by decide +kernel
theorem dX12_remember_37 : decode cX12_remember 37 = .ok (.goto (-26), 3) := by decide +kernel
theorem dX12_remember_40 : decode cX12_remember 40 = .ok (.aload_n 0, 1) := by decide +kernel
theorem dX12_remember_41 : decode cX12_remember 41 = .ok (.dup, 1) := by decide +kernel
theorem dX12_remember_42 : decode cX12_remember 42 = .ok (.getfield 290, 3) := by decide +kernel
theorem dX12_remember_45 : decode cX12_remember 45 = .ok (.iconst 1, 1) := by decide +kernel
theorem dX12_remember_46 : decode cX12_remember 46 = .ok (.isub, 1) := by decide +kernel
theorem dX12_remember_47 : decode cX12_remember 47 = .ok (.putfield 290, 3) := by decide +kernel
theorem dX12_remember_50 : decode cX12_remember 50 = .ok (.iconst 0, 1) := by decide +kernel
theorem dX12_remember_51 : decode cX12_remember 51 = .ok (.istore_n 1, 1) := by decide +kernel
theorem dX12_remember_52 : decode cX12_remember 52 = .ok (.iload_n 1, 1) := by decide +kernel
theorem dX12_remember_53 : decode cX12_remember 53 = .ok (.sipush 269, 3) := by decide +kernel
theorem dX12_remember_56 : decode cX12_remember 56 = .ok (.if_icmp .ge 30, 3) := by decide +kernel
theorem dX12_remember_59 : decode cX12_remember 59 = .ok (.aload_n 0, 1) := by decide +kernel
theorem dX12_remember_60 : decode cX12_remember 60 = .ok (.getfield 74, 3) := by decide +kernel
theorem dX12_remember_63 : decode cX12_remember 63 = .ok (.sipush 269, 3) := by decide +kernel
theorem dX12_remember_66 : decode cX12_remember 66 = .ok (.aload_n 0, 1) := by decide +kernel
theorem dX12_remember_67 : decode cX12_remember 67 = .ok (.getfield 290, 3) := by decide +kernel
theorem dX12_remember_70 : decode cX12_remember 70 = .ok (.imul, 1) := by decide +kernel
theorem dX12_remember_71 : decode cX12_remember 71 = .ok (.iload_n 1, 1) := by decide +kernel
theorem dX12_remember_72 : decode cX12_remember 72 = .ok (.iadd, 1) := by decide +kernel
theorem dX12_remember_73 : decode cX12_remember 73 = .ok (.aload_n 0, 1) := by decide +kernel
theorem dX12_remember_74 : decode cX12_remember 74 = .ok (.getfield 61, 3) := by decide +kernel
theorem dX12_remember_77 : decode cX12_remember 77 = .ok (.iload_n 1, 1) := by decide +kernel
theorem dX12_remember_78 : decode cX12_remember 78 = .ok (.iaload, 1) := by decide +kernel
theorem dX12_remember_79 : decode cX12_remember 79 = .ok (.iastore, 1) := by decide +kernel
theorem dX12_remember_80 : decode cX12_remember 80 = .ok (.iinc 1 1, 3) := by decide +kernel
theorem dX12_remember_83 : decode cX12_remember 83 = .ok (.goto (-31), 3) := by decide +kernel
theorem dX12_remember_86 : decode cX12_remember 86 = .ok (.aload_n 0, 1) := by decide +kernel
theorem dX12_remember_87 : decode cX12_remember 87 = .ok (.dup, 1) := by decide +kernel
theorem dX12_remember_88 : decode cX12_remember 88 = .ok (.getfield 290, 3) := by decide +kernel
theorem dX12_remember_91 : decode cX12_remember 91 = .ok (.iconst 1, 1) := by decide +kernel
theorem dX12_remember_92 : decode cX12_remember 92 = .ok (.iadd, 1) := by decide +kernel
theorem dX12_remember_93 : decode cX12_remember 93 = .ok (.putfield 290, 3) := by decide +kernel
theorem dX12_remember_96 : decode cX12_remember 96 = .ok (.return_, 1) := by decide +kernel
theorem dX12_visit_0 : decode cX12_visit 0 = .ok (.aload_n 0, 1) := by decide +kernel
theorem dX12_visit_1 : decode cX12_visit 1 = .ok (.iconst 0, 1) := by decide +kernel
theorem dX12_visit_2 : decode cX12_visit 2 = .ok (.putfield 89, 3) := by decide +kernel
theorem dX12_visit_5 : decode cX12_visit 5 = .ok (.aload_n 0, 1) := by decide +kernel
theorem dX12_visit_6 : decode cX12_visit 6 = .ok (.iload_n 1, 1) := by decide +kernel
theorem dX12_visit_7 : decode cX12_visit 7 = .ok (.invokevirtual 322, 3) := by decide +kernel
theorem dX12_visit_10 : decode cX12_visit 10 = .ok (.ifCond .ne 5, 3) := by decide +kernel
theorem dX12_visit_13 : decode cX12_visit 13 = .ok (.iconst (-1), 1) := by decide +kernel
theorem dX12_visit_14 : decode cX12_visit 14 = .ok (.ireturn, 1) := by decide +kernel
theorem dX12_visit_15 : decode cX12_visit 15 = .ok (.aload_n 0, 1) := by decide +kernel
theorem dX12_visit_16 : decode cX12_visit 16 = .ok (.invokevirtual 329, 3) := by decide +kernel
theorem dX12_visit_19 : decode cX12_visit 19 = .ok (.aload_n 0, 1) := by decide +kernel
theorem dX12_visit_20 : decode cX12_visit 20 = .ok (.aload_n 0, 1) := by decide +kernel
theorem dX12_visit_21 : decode cX12_visit 21 = .ok (.getfield 61, 3) := by decide +kernel
theorem dX12_visit_24 : decode cX12_visit 24 = .ok (.iload_n 1, 1) := by decide +kernel
theorem dX12_visit_25 : decode cX12_visit 25 = .ok (.invokevirtual 332, 3) := by decide +kernel
theorem dX12_visit_28 : decode cX12_visit 28 = .ok (.istore_n 2, 1) := by decide +kernel
theorem dX12_visit_29 : decode cX12_visit 29 = .ok (.aload_n 0, 1) := by decide +kernel
theorem dX12_visit_30 : decode cX12_visit 30 = .ok (.getfield 61, 3) := by decide +kernel
theorem dX12_visit_33 : decode cX12_visit 33 = .ok (.bipush 24, 2) := by decide +kernel
theorem dX12_visit_35 : decode cX12_visit 35 = .ok (.iaload, 1) := by decide +kernel
theorem dX12_visit_36 : decode cX12_visit 36 = .ok (.ireturn, 1) := by decide +kernel
theorem dX12_month_0 : decode cX12_month 0 = .ok (.aload_n 0, 1) := by decide +kernel
theorem dX12_month_1 : decode cX12_month 1 = .ok (.iconst 0, 1) := by decide +kernel
theorem dX12_month_2 : decode cX12_month 2 = .ok (.putfield 89, 3) := by decide +kernel
theorem dX12_month_5 : decode cX12_month 5 = .ok (.aload_n 0, 1) := by decide +kernel
theorem dX12_month_6 : decode cX12_month 6 = .ok (.getfield 284, 3) := by decide +kernel
theorem dX12_month_9 : decode cX12_month 9 = .ok (.ifCond .eq 16, 3) := by decide +kernel
theorem dX12_month_12 : decode cX12_month 12 = .ok (.aload_n 0, 1) := by decide +kernel
theorem dX12_month_13 : decode cX12_month 13 = .ok (.getfield 61, 3) := by decide +kernel
theorem dX12_month_16 : decode cX12_month 16 = .ok (.bipush 25, 2) := by decide +kernel
theorem dX12_month_18 : decode cX12_month 18 = .ok (.iaload, 1) := by decide +kernel
theorem dX12_month_19 : decode cX12_month 19 = .ok (.sipush 999, 3) := by decide +kernel
theorem dX12_month_22 : decode cX12_month 22 = .ok (.if_icmp .ne 5, 3) := by decide +kernel
theorem dX12_month_25 : decode cX12_month 25 = .ok (.iconst (-1), 1) := by decide +kernel
theorem dX12_month_26 : decode cX12_month 26 = .ok (.ireturn, 1) := by decide +kernel
theorem dX12_month_27 : decode cX12_month 27 = .ok (.aload_n 0, 1) := by decide +kernel
theorem dX12_month_28 : decode cX12_month 28 = .ok (.invokevirtual 329, 3) := by decide +kernel
theorem dX12_month_31 : decode cX12_month 31 = .ok (.aload_n 0, 1) := by decide +kernel
theorem dX12_month_32 : decode cX12_month 32 = .ok (.aload_n 0, 1) := by decide +kernel
theorem dX12_month_33 : decode cX12_month 33 = .ok (.getfield 61, 3) := by decide +kernel
theorem dX12_month_36 : decode cX12_month 36 = .ok (.invokevirtual 336, 3) := by decide +kernel
theorem dX12_month_39 : decode cX12_month 39 = .ok (.aload_n 0, 1) := by decide +kernel
theorem dX12_month_40 : decode cX12_month 40 = .ok (.getfield 61, 3) := by decide +kernel
theorem dX12_month_43 : decode cX12_month 43 = .ok (.bipush 25, 2) := by decide +kernel
theorem dX12_month_45 : decode cX12_month 45 = .ok (.iaload, 1) := by decide +kernel
theorem dX12_month_46 : decode cX12_month 46 = .ok (.ireturn, 1) := by decide +kernel
theorem dX12_host_0 : decode cX12_host 0 = .ok (.aload_n 0, 1) := by decide +kernel
theorem dX12_host_1 : decode cX12_host 1 = .ok (.iconst 0, 1) := by decide +kernel
theorem dX12_host_2 : decode cX12_host 2 = .ok (.putfield 89, 3) := by decide +kernel
theorem dX12_host_5 : decode cX12_host 5 = .ok (.aload_n 0, 1) := by decide +kernel
theorem dX12_host_6 : decode cX12_host 6 = .ok (.aload_n 0, 1) := by decide +kernel
theorem dX12_host_7 : decode cX12_host 7 = .ok (.getfield 61, 3) := by decide +kernel
theorem dX12_host_10 : decode cX12_host 10 = .ok (.iload_n 1, 1) := by decide +kernel
theorem dX12_host_11 : decode cX12_host 11 = .ok (.invokevirtual 340, 3) := by decide +kernel
theorem dX12_host_14 : decode cX12_host 14 = .ok (.ifCond .ne 5, 3) := by decide +kernel
theorem dX12_host_17 : decode cX12_host 17 = .ok (.iconst 0, 1) := by decide +kernel
theorem dX12_host_18 : decode cX12_host 18 = .ok (.ireturn, 1) := by decide +kernel
theorem dX12_host_19 : decode cX12_host 19 = .ok (.aload_n 0, 1) := by decide +kernel
theorem dX12_host_20 : decode cX12_host 20 = .ok (.invokevirtual 329, 3) := by decide +kernel
theorem dX12_host_23 : decode cX12_host 23 = .ok (.aload_n 0, 1) := by decide +kernel
theorem dX12_host_24 : decode cX12_host 24 = .ok (.getfield 61, 3) := by decide +kernel
theorem dX12_host_27 : decode cX12_host 27 = .ok (.iload_n 1, 1) := by decide +kernel
theorem dX12_host_28 : decode cX12_host 28 = .ok (.invokestatic 344, 3) := by decide +kernel
theorem dX12_host_31 : decode cX12_host 31 = .ok (.iconst 1, 1) := by decide +kernel
theorem dX12_host_32 : decode cX12_host 32 = .ok (.ireturn, 1) := by decide +kernel
theorem dX12_pay_0 : decode cX12_pay 0 = .ok (.aload_n 0, 1) := by decide +kernel
theorem dX12_pay_1 : decode cX12_pay 1 = .ok (.iconst 0, 1) := by decide +kernel
theorem dX12_pay_2 : decode cX12_pay 2 = .ok (.putfield 89, 3) := by decide +kernel
theorem dX12_pay_5 : decode cX12_pay 5 = .ok (.aload_n 0, 1) := by decide +kernel
theorem dX12_pay_6 : decode cX12_pay 6 = .ok (.iload_n 1, 1) := by decide +kernel
theorem dX12_pay_7 : decode cX12_pay 7 = .ok (.invokevirtual 322, 3) := by decide +kernel
theorem dX12_pay_10 : decode cX12_pay 10 = .ok (.ifCond .eq 32, 3) := by decide +kernel
theorem dX12_pay_13 : decode cX12_pay 13 = .ok (.iload_n 2, 1) := by decide +kernel
theorem dX12_pay_14 : decode cX12_pay 14 = .ok (.i2l, 1) := by decide +kernel
theorem dX12_pay_15 : decode cX12_pay 15 = .ok (.lconst 1, 1) := by decide +kernel
theorem dX12_pay_16 : decode cX12_pay 16 = .ok (.ldc2_w 348, 3) := by decide +kernel
theorem dX12_pay_19 : decode cX12_pay 19 = .ok (.invokestatic 260, 3) := by decide +kernel
theorem dX12_pay_22 : decode cX12_pay 22 = .ok (.ifCond .eq 20, 3) := by decide +kernel
theorem dX12_pay_25 : decode cX12_pay 25 = .ok (.aload_n 0, 1) := by decide +kernel
theorem dX12_pay_26 : decode cX12_pay 26 = .ok (.getfield 61, 3) := by decide +kernel
theorem dX12_pay_29 : decode cX12_pay 29 = .ok (.iconst 3, 1) := by decide +kernel
theorem dX12_pay_30 : decode cX12_pay 30 = .ok (.iload_n 1, 1) := by decide +kernel
theorem dX12_pay_31 : decode cX12_pay 31 = .ok (.imul, 1) := by decide +kernel
theorem dX12_pay_32 : decode cX12_pay 32 = .ok (.iconst 0, 1) := by decide +kernel
theorem dX12_pay_33 : decode cX12_pay 33 = .ok (.iadd, 1) := by decide +kernel
theorem dX12_pay_34 : decode cX12_pay 34 = .ok (.iaload, 1) := by decide +kernel
theorem dX12_pay_35 : decode cX12_pay 35 = .ok (.iload_n 2, 1) := by decide +kernel
theorem dX12_pay_36 : decode cX12_pay 36 = .ok (.iadd, 1) := by decide +kernel
theorem dX12_pay_37 : decode cX12_pay 37 = .ok (.bipush 99, 2) := by decide +kernel
theorem dX12_pay_39 : decode cX12_pay 39 = .ok (.if_icmp .le 5, 3) := by decide +kernel
theorem dX12_pay_42 : decode cX12_pay 42 = .ok (.iconst (-1), 1) := by decide +kernel
theorem dX12_pay_43 : decode cX12_pay 43 = .ok (.ireturn, 1) := by decide +kernel
theorem dX12_pay_44 : decode cX12_pay 44 = .ok (.aload_n 0, 1) := by decide +kernel
theorem dX12_pay_45 : decode cX12_pay 45 = .ok (.invokevirtual 329, 3) := by decide +kernel
theorem dX12_pay_48 : decode cX12_pay 48 = .ok (.aload_n 0, 1) := by decide +kernel
theorem dX12_pay_49 : decode cX12_pay 49 = .ok (.getfield 61, 3) := by decide +kernel
theorem dX12_pay_52 : decode cX12_pay 52 = .ok (.iconst 3, 1) := by decide +kernel
theorem dX12_pay_53 : decode cX12_pay 53 = .ok (.iload_n 1, 1) := by decide +kernel
theorem dX12_pay_54 : decode cX12_pay 54 = .ok (.imul, 1) := by decide +kernel
theorem dX12_pay_55 : decode cX12_pay 55 = .ok (.iconst 0, 1) := by decide +kernel
theorem dX12_pay_56 : decode cX12_pay 56 = .ok (.iadd, 1) := by decide +kernel
theorem dX12_pay_57 : decode cX12_pay 57 = .ok (.dup2, 1) := by decide +kernel
theorem dX12_pay_58 : decode cX12_pay 58 = .ok (.iaload, 1) := by decide +kernel
theorem dX12_pay_59 : decode cX12_pay 59 = .ok (.iload_n 2, 1) := by decide +kernel
theorem dX12_pay_60 : decode cX12_pay 60 = .ok (.iadd, 1) := by decide +kernel
theorem dX12_pay_61 : decode cX12_pay 61 = .ok (.iastore, 1) := by decide +kernel
theorem dX12_pay_62 : decode cX12_pay 62 = .ok (.aload_n 0, 1) := by decide +kernel
theorem dX12_pay_63 : decode cX12_pay 63 = .ok (.getfield 61, 3) := by decide +kernel
theorem dX12_pay_66 : decode cX12_pay 66 = .ok (.iconst 3, 1) := by decide +kernel
theorem dX12_pay_67 : decode cX12_pay 67 = .ok (.iload_n 1, 1) := by decide +kernel
theorem dX12_pay_68 : decode cX12_pay 68 = .ok (.imul, 1) := by decide +kernel
theorem dX12_pay_69 : decode cX12_pay 69 = .ok (.iconst 0, 1) := by decide +kernel
theorem dX12_pay_70 : decode cX12_pay 70 = .ok (.iadd, 1) := by decide +kernel
theorem dX12_pay_71 : decode cX12_pay 71 = .ok (.iaload, 1) := by decide +kernel
theorem dX12_pay_72 : decode cX12_pay 72 = .ok (.ireturn, 1) := by decide +kernel
theorem dX12_price_0 : decode cX12_price 0 = .ok (.aload_n 0, 1) := by decide +kernel
theorem dX12_price_1 : decode cX12_price 1 = .ok (.iconst 0, 1) := by decide +kernel
theorem dX12_price_2 : decode cX12_price 2 = .ok (.putfield 89, 3) := by decide +kernel
theorem dX12_price_5 : decode cX12_price 5 = .ok (.aload_n 0, 1) := by decide +kernel
theorem dX12_price_6 : decode cX12_price 6 = .ok (.iload_n 1, 1) := by decide +kernel
theorem dX12_price_7 : decode cX12_price 7 = .ok (.invokevirtual 319, 3) := by decide +kernel
theorem dX12_price_10 : decode cX12_price 10 = .ok (.ifCond .eq 28, 3) := by decide +kernel
theorem dX12_price_13 : decode cX12_price 13 = .ok (.iload_n 2, 1) := by decide +kernel
theorem dX12_price_14 : decode cX12_price 14 = .ok (.i2l, 1) := by decide +kernel
theorem dX12_price_15 : decode cX12_price 15 = .ok (.lconst 0, 1) := by decide +kernel
theorem dX12_price_16 : decode cX12_price 16 = .ok (.ldc2_w 350, 3) := by decide +kernel
theorem dX12_price_19 : decode cX12_price 19 = .ok (.invokestatic 260, 3) := by decide +kernel
theorem dX12_price_22 : decode cX12_price 22 = .ok (.ifCond .eq 16, 3) := by decide +kernel
theorem dX12_price_25 : decode cX12_price 25 = .ok (.aload_n 0, 1) := by decide +kernel
theorem dX12_price_26 : decode cX12_price 26 = .ok (.getfield 61, 3) := by decide +kernel
theorem dX12_price_29 : decode cX12_price 29 = .ok (.bipush 18, 2) := by decide +kernel
theorem dX12_price_31 : decode cX12_price 31 = .ok (.iload_n 1, 1) := by decide +kernel
theorem dX12_price_32 : decode cX12_price 32 = .ok (.iadd, 1) := by decide +kernel
theorem dX12_price_33 : decode cX12_price 33 = .ok (.iaload, 1) := by decide +kernel
theorem dX12_price_34 : decode cX12_price 34 = .ok (.iload_n 2, 1) := by decide +kernel
theorem dX12_price_35 : decode cX12_price 35 = .ok (.if_icmp .ne 5, 3) := by decide +kernel
theorem dX12_price_38 : decode cX12_price 38 = .ok (.iconst (-1), 1) := by decide +kernel
theorem dX12_price_39 : decode cX12_price 39 = .ok (.ireturn, 1) := by decide +kernel
theorem dX12_price_40 : decode cX12_price 40 = .ok (.aload_n 0, 1) := by decide +kernel
theorem dX12_price_41 : decode cX12_price 41 = .ok (.invokevirtual 329, 3) := by decide +kernel
theorem dX12_price_44 : decode cX12_price 44 = .ok (.aload_n 0, 1) := by decide +kernel
theorem dX12_price_45 : decode cX12_price 45 = .ok (.getfield 61, 3) := by decide +kernel
theorem dX12_price_48 : decode cX12_price 48 = .ok (.bipush 18, 2) := by decide +kernel
theorem dX12_price_50 : decode cX12_price 50 = .ok (.iload_n 1, 1) := by decide +kernel
theorem dX12_price_51 : decode cX12_price 51 = .ok (.iadd, 1) := by decide +kernel
theorem dX12_price_52 : decode cX12_price 52 = .ok (.iaload, 1) := by decide +kernel
theorem dX12_price_53 : decode cX12_price 53 = .ok (.istore_n 3, 1) := by decide +kernel
theorem dX12_price_54 : decode cX12_price 54 = .ok (.aload_n 0, 1) := by decide +kernel
theorem dX12_price_55 : decode cX12_price 55 = .ok (.getfield 61, 3) := by decide +kernel
theorem dX12_price_58 : decode cX12_price 58 = .ok (.bipush 18, 2) := by decide +kernel
theorem dX12_price_60 : decode cX12_price 60 = .ok (.iload_n 1, 1) := by decide +kernel
theorem dX12_price_61 : decode cX12_price 61 = .ok (.iadd, 1) := by decide +kernel
theorem dX12_price_62 : decode cX12_price 62 = .ok (.iload_n 2, 1) := by decide +kernel
theorem dX12_price_63 : decode cX12_price 63 = .ok (.iastore, 1) := by decide +kernel
theorem dX12_price_64 : decode cX12_price 64 = .ok (.iload_n 3, 1) := by decide +kernel
theorem dX12_price_65 : decode cX12_price 65 = .ok (.ireturn, 1) := by decide +kernel
theorem dX12_draw_0 : decode cX12_draw 0 = .ok (.aload_n 0, 1) := by decide +kernel
theorem dX12_draw_1 : decode cX12_draw 1 = .ok (.aload_n 0, 1) := by decide +kernel
theorem dX12_draw_2 : decode cX12_draw 2 = .ok (.getfield 352, 3) := by decide +kernel
theorem dX12_draw_5 : decode cX12_draw 5 = .ok (.ldc2_w 356, 3) := by decide +kernel
theorem dX12_draw_8 : decode cX12_draw 8 = .ok (.lmul, 1) := by decide +kernel
theorem dX12_draw_9 : decode cX12_draw 9 = .ok (.ldc2_w 358, 3) := by decide +kernel
theorem dX12_draw_12 : decode cX12_draw 12 = .ok (.ladd, 1) := by decide +kernel
theorem dX12_draw_13 : decode cX12_draw 13 = .ok (.putfield 352, 3) := by decide +kernel
theorem dX12_draw_16 : decode cX12_draw 16 = .ok (.aload_n 0, 1) := by decide +kernel
theorem dX12_draw_17 : decode cX12_draw 17 = .ok (.getfield 352, 3) := by decide +kernel
theorem dX12_draw_20 : decode cX12_draw 20 = .ok (.bipush 33, 2) := by decide +kernel
theorem dX12_draw_22 : decode cX12_draw 22 = .ok (.lushr, 1) := by decide +kernel
theorem dX12_draw_23 : decode cX12_draw 23 = .ok (.iload_n 1, 1) := by decide +kernel
theorem dX12_draw_24 : decode cX12_draw 24 = .ok (.i2l, 1) := by decide +kernel
theorem dX12_draw_25 : decode cX12_draw 25 = .ok (.lrem, 1) := by decide +kernel
theorem dX12_draw_26 : decode cX12_draw 26 = .ok (.l2i, 1) := by decide +kernel
theorem dX12_draw_27 : decode cX12_draw 27 = .ok (.ireturn, 1) := by decide +kernel
theorem dX12_years_0 : decode cX12_years 0 = .ok (.aload_n 0, 1) := by decide +kernel
theorem dX12_years_1 : decode cX12_years 1 = .ok (.iconst 0, 1) := by decide +kernel
theorem dX12_years_2 : decode cX12_years 2 = .ok (.putfield 89, 3) := by decide +kernel
theorem dX12_years_5 : decode cX12_years 5 = .ok (.aload_n 0, 1) := by decide +kernel
theorem dX12_years_6 : decode cX12_years 6 = .ok (.getfield 284, 3) := by decide +kernel
theorem dX12_years_9 : decode cX12_years 9 = .ok (.ifCond .eq 15, 3) := by decide +kernel
theorem dX12_years_12 : decode cX12_years 12 = .ok (.iload_n 1, 1) := by decide +kernel
theorem dX12_years_13 : decode cX12_years 13 = .ok (.i2l, 1) := by decide +kernel
theorem dX12_years_14 : decode cX12_years 14 = .ok (.lconst 1, 1) := by decide +kernel
theorem dX12_years_15 : decode cX12_years 15 = .ok (.ldc2_w 350, 3) := by decide +kernel
theorem dX12_years_18 : decode cX12_years 18 = .ok (.invokestatic 260, 3) := by decide +kernel
theorem dX12_years_21 : decode cX12_years 21 = .ok (.ifCond .ne 5, 3) := by decide +kernel
theorem dX12_years_24 : decode cX12_years 24 = .ok (.iconst (-1), 1) := by decide +kernel
theorem dX12_years_25 : decode cX12_years 25 = .ok (.ireturn, 1) := by decide +kernel
theorem dX12_years_26 : decode cX12_years 26 = .ok (.aload_n 0, 1) := by decide +kernel
theorem dX12_years_27 : decode cX12_years 27 = .ok (.lload_n 2, 1) := by decide +kernel
