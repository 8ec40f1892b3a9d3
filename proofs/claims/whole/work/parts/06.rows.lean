theorem dX12_years_28 : decode cX12_years 28 = .ok (.putfield 352, 3) := by decide +kernel
theorem dX12_years_31 : decode cX12_years 31 = .ok (.iconst 0, 1) := by decide +kernel
theorem dX12_years_32 : decode cX12_years 32 = .ok (.istore 4, 2) := by decide +kernel
theorem dX12_years_34 : decode cX12_years 34 = .ok (.iconst 0, 1) := by decide +kernel
theorem dX12_years_35 : decode cX12_years 35 = .ok (.istore 5, 2) := by decide +kernel
theorem dX12_years_37 : decode cX12_years 37 = .ok (.iload 5, 2) := by decide +kernel
theorem dX12_years_39 : decode cX12_years 39 = .ok (.iload_n 1, 1) := by decide +kernel
theorem dX12_years_40 : decode cX12_years 40 = .ok (.if_icmp .ge 71, 3) := by decide +kernel
theorem dX12_years_43 : decode cX12_years 43 = .ok (.aload_n 0, 1) := by decide +kernel
theorem dX12_years_44 : decode cX12_years 44 = .ok (.invokevirtual 329, 3) := by decide +kernel
theorem dX12_years_47 : decode cX12_years 47 = .ok (.aload_n 0, 1) := by decide +kernel
theorem dX12_years_48 : decode cX12_years 48 = .ok (.bipush 10, 2) := by decide +kernel
theorem dX12_years_50 : decode cX12_years 50 = .ok (.invokevirtual 360, 3) := by decide +kernel
theorem dX12_years_53 : decode cX12_years 53 = .ok (.aload_n 0, 1) := by decide +kernel
theorem dX12_years_54 : decode cX12_years 54 = .ok (.getfield 71, 3) := by decide +kernel
theorem dX12_years_57 : decode cX12_years 57 = .ok (.if_icmp .ge 27, 3) := by decide +kernel
theorem dX12_years_60 : decode cX12_years 60 = .ok (.aload_n 0, 1) := by decide +kernel
theorem dX12_years_61 : decode cX12_years 61 = .ok (.getfield 61, 3) := by decide +kernel
theorem dX12_years_64 : decode cX12_years 64 = .ok (.bipush 25, 2) := by decide +kernel
theorem dX12_years_66 : decode cX12_years 66 = .ok (.iaload, 1) := by decide +kernel
theorem dX12_years_67 : decode cX12_years 67 = .ok (.sipush 999, 3) := by decide +kernel
theorem dX12_years_70 : decode cX12_years 70 = .ok (.if_icmp .ge 35, 3) := by decide +kernel
theorem dX12_years_73 : decode cX12_years 73 = .ok (.aload_n 0, 1) := by decide +kernel
theorem dX12_years_74 : decode cX12_years 74 = .ok (.aload_n 0, 1) := by decide +kernel
theorem dX12_years_75 : decode cX12_years 75 = .ok (.getfield 61, 3) := by decide +kernel
theorem dX12_years_78 : decode cX12_years 78 = .ok (.invokevirtual 336, 3) := by decide +kernel
theorem dX12_years_81 : decode cX12_years 81 = .ok (.goto 24, 3) := by decide +kernel
theorem dX12_years_84 : decode cX12_years 84 = .ok (.aload_n 0, 1) := by decide +kernel
theorem dX12_years_85 : decode cX12_years 85 = .ok (.aload_n 0, 1) := by decide +kernel
theorem dX12_years_86 : decode cX12_years 86 = .ok (.getfield 61, 3) := by decide +kernel
theorem dX12_years_89 : decode cX12_years 89 = .ok (.aload_n 0, 1) := by decide +kernel
theorem dX12_years_90 : decode cX12_years 90 = .ok (.aload_n 0, 1) := by decide +kernel
theorem dX12_years_91 : decode cX12_years 91 = .ok (.getfield 284, 3) := by decide +kernel
theorem dX12_years_94 : decode cX12_years 94 = .ok (.invokevirtual 360, 3) := by decide +kernel
theorem dX12_years_97 : decode cX12_years 97 = .ok (.invokevirtual 332, 3) := by decide +kernel
theorem dX12_years_100 : decode cX12_years 100 = .ok (.istore 6, 2) := by decide +kernel
theorem dX12_years_102 : decode cX12_years 102 = .ok (.iinc 4 1, 3) := by decide +kernel
theorem dX12_years_105 : decode cX12_years 105 = .ok (.iinc 5 1, 3) := by decide +kernel
theorem dX12_years_108 : decode cX12_years 108 = .ok (.goto (-71), 3) := by decide +kernel
theorem dX12_years_111 : decode cX12_years 111 = .ok (.iload 4, 2) := by decide +kernel
theorem dX12_years_113 : decode cX12_years 113 = .ok (.ireturn, 1) := by decide +kernel
theorem dX12_undo_0 : decode cX12_undo 0 = .ok (.aload_n 0, 1) := by decide +kernel
theorem dX12_undo_1 : decode cX12_undo 1 = .ok (.iconst 0, 1) := by decide +kernel
theorem dX12_undo_2 : decode cX12_undo 2 = .ok (.putfield 89, 3) := by decide +kernel
theorem dX12_undo_5 : decode cX12_undo 5 = .ok (.aload_n 0, 1) := by decide +kernel
theorem dX12_undo_6 : decode cX12_undo 6 = .ok (.getfield 290, 3) := by decide +kernel
theorem dX12_undo_9 : decode cX12_undo 9 = .ok (.ifCond .ne 5, 3) := by decide +kernel
theorem dX12_undo_12 : decode cX12_undo 12 = .ok (.iconst (-1), 1) := by decide +kernel
theorem dX12_undo_13 : decode cX12_undo 13 = .ok (.ireturn, 1) := by decide +kernel
theorem dX12_undo_14 : decode cX12_undo 14 = .ok (.aload_n 0, 1) := by decide +kernel
theorem dX12_undo_15 : decode cX12_undo 15 = .ok (.dup, 1) := by decide +kernel
theorem dX12_undo_16 : decode cX12_undo 16 = .ok (.getfield 290, 3) := by decide +kernel
theorem dX12_undo_19 : decode cX12_undo 19 = .ok (.iconst 1, 1) := by decide +kernel
theorem dX12_undo_20 : decode cX12_undo 20 = .ok (.isub, 1) := by decide +kernel
theorem dX12_undo_21 : decode cX12_undo 21 = .ok (.putfield 290, 3) := by decide +kernel
theorem dX12_undo_24 : decode cX12_undo 24 = .ok (.iconst 0, 1) := by decide +kernel
theorem dX12_undo_25 : decode cX12_undo 25 = .ok (.istore_n 1, 1) := by decide +kernel
theorem dX12_undo_26 : decode cX12_undo 26 = .ok (.iload_n 1, 1) := by decide +kernel
theorem dX12_undo_27 : decode cX12_undo 27 = .ok (.sipush 269, 3) := by decide +kernel
theorem dX12_undo_30 : decode cX12_undo 30 = .ok (.if_icmp .ge 30, 3) := by decide +kernel
theorem dX12_undo_33 : decode cX12_undo 33 = .ok (.aload_n 0, 1) := by decide +kernel
theorem dX12_undo_34 : decode cX12_undo 34 = .ok (.getfield 61, 3) := by decide +kernel
theorem dX12_undo_37 : decode cX12_undo 37 = .ok (.iload_n 1, 1) := by decide +kernel
theorem dX12_undo_38 : decode cX12_undo 38 = .ok (.aload_n 0, 1) := by decide +kernel
theorem dX12_undo_39 : decode cX12_undo 39 = .ok (.getfield 74, 3) := by decide +kernel
theorem dX12_undo_42 : decode cX12_undo 42 = .ok (.sipush 269, 3) := by decide +kernel
theorem dX12_undo_45 : decode cX12_undo 45 = .ok (.aload_n 0, 1) := by decide +kernel
theorem dX12_undo_46 : decode cX12_undo 46 = .ok (.getfield 290, 3) := by decide +kernel
theorem dX12_undo_49 : decode cX12_undo 49 = .ok (.imul, 1) := by decide +kernel
theorem dX12_undo_50 : decode cX12_undo 50 = .ok (.iload_n 1, 1) := by decide +kernel
theorem dX12_undo_51 : decode cX12_undo 51 = .ok (.iadd, 1) := by decide +kernel
theorem dX12_undo_52 : decode cX12_undo 52 = .ok (.iaload, 1) := by decide +kernel
theorem dX12_undo_53 : decode cX12_undo 53 = .ok (.iastore, 1) := by decide +kernel
theorem dX12_undo_54 : decode cX12_undo 54 = .ok (.iinc 1 1, 3) := by decide +kernel
theorem dX12_undo_57 : decode cX12_undo 57 = .ok (.goto (-31), 3) := by decide +kernel
theorem dX12_undo_60 : decode cX12_undo 60 = .ok (.aload_n 0, 1) := by decide +kernel
theorem dX12_undo_61 : decode cX12_undo 61 = .ok (.getfield 290, 3) := by decide +kernel
theorem dX12_undo_64 : decode cX12_undo 64 = .ok (.ireturn, 1) := by decide +kernel
theorem dX12_page_0 : decode cX12_page 0 = .ok (.aload_n 0, 1) := by decide +kernel
theorem dX12_page_1 : decode cX12_page 1 = .ok (.getfield 61, 3) := by decide +kernel
theorem dX12_page_4 : decode cX12_page 4 = .ok (.bipush 29, 2) := by decide +kernel
theorem dX12_page_6 : decode cX12_page 6 = .ok (.iconst 4, 1) := by decide +kernel
theorem dX12_page_7 : decode cX12_page 7 = .ok (.iload_n 1, 1) := by decide +kernel
theorem dX12_page_8 : decode cX12_page 8 = .ok (.imul, 1) := by decide +kernel
theorem dX12_page_9 : decode cX12_page 9 = .ok (.iadd, 1) := by decide +kernel
theorem dX12_page_10 : decode cX12_page 10 = .ok (.iload_n 2, 1) := by decide +kernel
theorem dX12_page_11 : decode cX12_page 11 = .ok (.iadd, 1) := by decide +kernel
theorem dX12_page_12 : decode cX12_page 12 = .ok (.iaload, 1) := by decide +kernel
theorem dX12_page_13 : decode cX12_page 13 = .ok (.ireturn, 1) := by decide +kernel
theorem dX12_book_0 : decode cX12_book 0 = .ok (.aload_n 0, 1) := by decide +kernel
theorem dX12_book_1 : decode cX12_book 1 = .ok (.iconst 0, 1) := by decide +kernel
theorem dX12_book_2 : decode cX12_book 2 = .ok (.putfield 89, 3) := by decide +kernel
theorem dX12_book_5 : decode cX12_book 5 = .ok (.iload_n 1, 1) := by decide +kernel
theorem dX12_book_6 : decode cX12_book 6 = .ok (.i2l, 1) := by decide +kernel
theorem dX12_book_7 : decode cX12_book 7 = .ok (.lconst 0, 1) := by decide +kernel
theorem dX12_book_8 : decode cX12_book 8 = .ok (.aload_n 0, 1) := by decide +kernel
theorem dX12_book_9 : decode cX12_book 9 = .ok (.getfield 61, 3) := by decide +kernel
theorem dX12_book_12 : decode cX12_book 12 = .ok (.bipush 28, 2) := by decide +kernel
theorem dX12_book_14 : decode cX12_book 14 = .ok (.iaload, 1) := by decide +kernel
theorem dX12_book_15 : decode cX12_book 15 = .ok (.iconst 1, 1) := by decide +kernel
theorem dX12_book_16 : decode cX12_book 16 = .ok (.isub, 1) := by decide +kernel
theorem dX12_book_17 : decode cX12_book 17 = .ok (.i2l, 1) := by decide +kernel
theorem dX12_book_18 : decode cX12_book 18 = .ok (.invokestatic 260, 3) := by decide +kernel
theorem dX12_book_21 : decode cX12_book 21 = .ok (.ifCond .eq 34, 3) := by decide +kernel
theorem dX12_book_24 : decode cX12_book 24 = .ok (.iload_n 2, 1) := by decide +kernel
theorem dX12_book_25 : decode cX12_book 25 = .ok (.i2l, 1) := by decide +kernel
theorem dX12_book_26 : decode cX12_book 26 = .ok (.lconst 0, 1) := by decide +kernel
theorem dX12_book_27 : decode cX12_book 27 = .ok (.ldc2_w 325, 3) := by decide +kernel
theorem dX12_book_30 : decode cX12_book 30 = .ok (.invokestatic 260, 3) := by decide +kernel
theorem dX12_book_33 : decode cX12_book 33 = .ok (.ifCond .eq 22, 3) := by decide +kernel
theorem dX12_book_36 : decode cX12_book 36 = .ok (.aload_n 0, 1) := by decide +kernel
theorem dX12_book_37 : decode cX12_book 37 = .ok (.aload_n 0, 1) := by decide +kernel
theorem dX12_book_38 : decode cX12_book 38 = .ok (.getfield 61, 3) := by decide +kernel
theorem dX12_book_41 : decode cX12_book 41 = .ok (.bipush 28, 2) := by decide +kernel
theorem dX12_book_43 : decode cX12_book 43 = .ok (.iaload, 1) := by decide +kernel
theorem dX12_book_44 : decode cX12_book 44 = .ok (.iconst 1, 1) := by decide +kernel
theorem dX12_book_45 : decode cX12_book 45 = .ok (.isub, 1) := by decide +kernel
theorem dX12_book_46 : decode cX12_book 46 = .ok (.iload_n 1, 1) := by decide +kernel
theorem dX12_book_47 : decode cX12_book 47 = .ok (.isub, 1) := by decide +kernel
theorem dX12_book_48 : decode cX12_book 48 = .ok (.iload_n 2, 1) := by decide +kernel
theorem dX12_book_49 : decode cX12_book 49 = .ok (.invokevirtual 363, 3) := by decide +kernel
theorem dX12_book_52 : decode cX12_book 52 = .ok (.goto 6, 3) := by decide +kernel
theorem dX12_book_55 : decode cX12_book 55 = .ok (.ldc_w 366, 3) := by decide +kernel
theorem dX12_book_58 : decode cX12_book 58 = .ok (.ireturn, 1) := by decide +kernel
theorem dX12_isWinter_0 : decode cX12_isWinter 0 = .ok (.iload_n 1, 1) := by decide +kernel
theorem dX12_isWinter_1 : decode cX12_isWinter 1 = .ok (.ifCond .lt 15, 3) := by decide +kernel
theorem dX12_isWinter_4 : decode cX12_isWinter 4 = .ok (.iload_n 1, 1) := by decide +kernel
theorem dX12_isWinter_5 : decode cX12_isWinter 5 = .ok (.aload_n 0, 1) := by decide +kernel
theorem dX12_isWinter_6 : decode cX12_isWinter 6 = .ok (.getfield 276, 3) := by decide +kernel
theorem dX12_isWinter_9 : decode cX12_isWinter 9 = .ok (.if_icmp .ge 7, 3) := by decide +kernel
theorem dX12_isWinter_12 : decode cX12_isWinter 12 = .ok (.iconst 1, 1) := by decide +kernel
theorem dX12_isWinter_13 : decode cX12_isWinter 13 = .ok (.goto 4, 3) := by decide +kernel
theorem dX12_isWinter_16 : decode cX12_isWinter 16 = .ok (.iconst 0, 1) := by decide +kernel
theorem dX12_isWinter_17 : decode cX12_isWinter 17 = .ok (.ireturn, 1) := by decide +kernel
theorem dX12_step_0 : decode cX12_step 0 = .ok (.aload_n 0, 1) := by decide +kernel
theorem dX12_step_1 : decode cX12_step 1 = .ok (.iconst 0, 1) := by decide +kernel
theorem dX12_step_2 : decode cX12_step 2 = .ok (.putfield 89, 3) := by decide +kernel
theorem dX12_step_5 : decode cX12_step 5 = .ok (.aload_n 0, 1) := by decide +kernel
theorem dX12_step_6 : decode cX12_step 6 = .ok (.iload_n 1, 1) := by decide +kernel
theorem dX12_step_7 : decode cX12_step 7 = .ok (.invokevirtual 367, 3) := by decide +kernel
theorem dX12_step_10 : decode cX12_step 10 = .ok (.ifCond .eq 49, 3) := by decide +kernel
theorem dX12_step_13 : decode cX12_step 13 = .ok (.iload_n 2, 1) := by decide +kernel
theorem dX12_step_14 : decode cX12_step 14 = .ok (.i2l, 1) := by decide +kernel
theorem dX12_step_15 : decode cX12_step 15 = .ok (.lconst 0, 1) := by decide +kernel
theorem dX12_step_16 : decode cX12_step 16 = .ok (.aload_n 0, 1) := by decide +kernel
theorem dX12_step_17 : decode cX12_step 17 = .ok (.getfield 58, 3) := by decide +kernel
theorem dX12_step_20 : decode cX12_step 20 = .ok (.iload_n 1, 1) := by decide +kernel
theorem dX12_step_21 : decode cX12_step 21 = .ok (.iaload, 1) := by decide +kernel
theorem dX12_step_22 : decode cX12_step 22 = .ok (.iconst 1, 1) := by decide +kernel
theorem dX12_step_23 : decode cX12_step 23 = .ok (.isub, 1) := by decide +kernel
theorem dX12_step_24 : decode cX12_step 24 = .ok (.i2l, 1) := by decide +kernel
theorem dX12_step_25 : decode cX12_step 25 = .ok (.invokestatic 260, 3) := by decide +kernel
theorem dX12_step_28 : decode cX12_step 28 = .ok (.ifCond .eq 31, 3) := by decide +kernel
theorem dX12_step_31 : decode cX12_step 31 = .ok (.iload_n 3, 1) := by decide +kernel
theorem dX12_step_32 : decode cX12_step 32 = .ok (.i2l, 1) := by decide +kernel
theorem dX12_step_33 : decode cX12_step 33 = .ok (.lconst 0, 1) := by decide +kernel
theorem dX12_step_34 : decode cX12_step 34 = .ok (.lconst 1, 1) := by decide +kernel
theorem dX12_step_35 : decode cX12_step 35 = .ok (.invokestatic 260, 3) := by decide +kernel
theorem dX12_step_38 : decode cX12_step 38 = .ok (.ifCond .eq 21, 3) := by decide +kernel
theorem dX12_step_41 : decode cX12_step 41 = .ok (.aload_n 0, 1) := by decide +kernel
theorem dX12_step_42 : decode cX12_step 42 = .ok (.getfield 55, 3) := by decide +kernel
theorem dX12_step_45 : decode cX12_step 45 = .ok (.iconst 2, 1) := by decide +kernel
theorem dX12_step_46 : decode cX12_step 46 = .ok (.bipush 16, 2) := by decide +kernel
theorem dX12_step_48 : decode cX12_step 48 = .ok (.iload_n 1, 1) := by decide +kernel
theorem dX12_step_49 : decode cX12_step 49 = .ok (.imul, 1) := by decide +kernel
theorem dX12_step_50 : decode cX12_step 50 = .ok (.iload_n 2, 1) := by decide +kernel
theorem dX12_step_51 : decode cX12_step 51 = .ok (.iadd, 1) := by decide +kernel
theorem dX12_step_52 : decode cX12_step 52 = .ok (.imul, 1) := by decide +kernel
theorem dX12_step_53 : decode cX12_step 53 = .ok (.iload_n 3, 1) := by decide +kernel
theorem dX12_step_54 : decode cX12_step 54 = .ok (.iadd, 1) := by decide +kernel
theorem dX12_step_55 : decode cX12_step 55 = .ok (.iaload, 1) := by decide +kernel
theorem dX12_step_56 : decode cX12_step 56 = .ok (.goto 6, 3) := by decide +kernel
theorem dX12_step_59 : decode cX12_step 59 = .ok (.ldc_w 366, 3) := by decide +kernel
theorem dX12_step_62 : decode cX12_step 62 = .ok (.ireturn, 1) := by decide +kernel
theorem dX12_canStep_0 : decode cX12_canStep 0 = .ok (.aload_n 0, 1) := by decide +kernel
theorem dX12_canStep_1 : decode cX12_canStep 1 = .ok (.getfield 55, 3) := by decide +kernel
theorem dX12_canStep_4 : decode cX12_canStep 4 = .ok (.iload_n 2, 1) := by decide +kernel
theorem dX12_canStep_5 : decode cX12_canStep 5 = .ok (.iaload, 1) := by decide +kernel
theorem dX12_canStep_6 : decode cX12_canStep 6 = .ok (.lookupswitch 55 #[(0, 26), (1, 39)], 26) := by decide +kernel
theorem dX12_canStep_32 : decode cX12_canStep 32 = .ok (.aload_n 0, 1) := by decide +kernel
theorem dX12_canStep_33 : decode cX12_canStep 33 = .ok (.aload_n 0, 1) := by decide +kernel
theorem dX12_canStep_34 : decode cX12_canStep 34 = .ok (.getfield 55, 3) := by decide +kernel
theorem dX12_canStep_37 : decode cX12_canStep 37 = .ok (.iload_n 2, 1) := by decide +kernel
theorem dX12_canStep_38 : decode cX12_canStep 38 = .ok (.iconst 1, 1) := by decide +kernel
theorem dX12_canStep_39 : decode cX12_canStep 39 = .ok (.iadd, 1) := by decide +kernel
theorem dX12_canStep_40 : decode cX12_canStep 40 = .ok (.iaload, 1) := by decide +kernel
theorem dX12_canStep_41 : decode cX12_canStep 41 = .ok (.invokevirtual 322, 3) := by decide +kernel
theorem dX12_canStep_44 : decode cX12_canStep 44 = .ok (.ireturn, 1) := by decide +kernel
theorem dX12_canStep_45 : decode cX12_canStep 45 = .ok (.aload_n 1, 1) := by decide +kernel
theorem dX12_canStep_46 : decode cX12_canStep 46 = .ok (.bipush 25, 2) := by decide +kernel
theorem dX12_canStep_48 : decode cX12_canStep 48 = .ok (.iaload, 1) := by decide +kernel
theorem dX12_canStep_49 : decode cX12_canStep 49 = .ok (.sipush 999, 3) := by decide +kernel
theorem dX12_canStep_52 : decode cX12_canStep 52 = .ok (.if_icmp .ge 7, 3) := by decide +kernel
theorem dX12_canStep_55 : decode cX12_canStep 55 = .ok (.iconst 1, 1) := by decide +kernel
theorem dX12_canStep_56 : decode cX12_canStep 56 = .ok (.goto 4, 3) := by decide +kernel
theorem dX12_canStep_59 : decode cX12_canStep 59 = .ok (.iconst 0, 1) := by decide +kernel
theorem dX12_canStep_60 : decode cX12_canStep 60 = .ok (.ireturn, 1) := by decide +kernel
theorem dX12_canStep_61 : decode cX12_canStep 61 = .ok (.aload_n 0, 1) := by decide +kernel
theorem dX12_canStep_62 : decode cX12_canStep 62 = .ok (.aload_n 1, 1) := by decide +kernel
theorem dX12_canStep_63 : decode cX12_canStep 63 = .ok (.aload_n 0, 1) := by decide +kernel
theorem dX12_canStep_64 : decode cX12_canStep 64 = .ok (.getfield 55, 3) := by decide +kernel
theorem dX12_canStep_67 : decode cX12_canStep 67 = .ok (.iload_n 2, 1) := by decide +kernel
theorem dX12_canStep_68 : decode cX12_canStep 68 = .ok (.iconst 1, 1) := by decide +kernel
theorem dX12_canStep_69 : decode cX12_canStep 69 = .ok (.iadd, 1) := by decide +kernel
theorem dX12_canStep_70 : decode cX12_canStep 70 = .ok (.iaload, 1) := by decide +kernel
theorem dX12_canStep_71 : decode cX12_canStep 71 = .ok (.invokevirtual 340, 3) := by decide +kernel
theorem dX12_canStep_74 : decode cX12_canStep 74 = .ok (.ireturn, 1) := by decide +kernel
theorem dX12_steps_0 : decode cX12_steps 0 = .ok (.aload_n 0, 1) := by decide +kernel
theorem dX12_steps_1 : decode cX12_steps 1 = .ok (.getfield 55, 3) := by decide +kernel
theorem dX12_steps_4 : decode cX12_steps 4 = .ok (.iload_n 2, 1) := by decide +kernel
theorem dX12_steps_5 : decode cX12_steps 5 = .ok (.iaload, 1) := by decide +kernel
theorem dX12_steps_6 : decode cX12_steps 6 = .ok (.ifCond .ne 17, 3) := by decide +kernel
theorem dX12_steps_9 : decode cX12_steps 9 = .ok (.aload_n 0, 1) := by decide +kernel
theorem dX12_steps_10 : decode cX12_steps 10 = .ok (.aload_n 1, 1) := by decide +kernel
theorem dX12_steps_11 : decode cX12_steps 11 = .ok (.aload_n 0, 1) := by decide +kernel
theorem dX12_steps_12 : decode cX12_steps 12 = .ok (.getfield 55, 3) := by decide +kernel
theorem dX12_steps_15 : decode cX12_steps 15 = .ok (.iload_n 2, 1) := by decide +kernel
theorem dX12_steps_16 : decode cX12_steps 16 = .ok (.iconst 1, 1) := by decide +kernel
theorem dX12_steps_17 : decode cX12_steps 17 = .ok (.iadd, 1) := by decide +kernel
theorem dX12_steps_18 : decode cX12_steps 18 = .ok (.iaload, 1) := by decide +kernel
theorem dX12_steps_19 : decode cX12_steps 19 = .ok (.invokevirtual 332, 3) := by decide +kernel
theorem dX12_steps_22 : decode cX12_steps 22 = .ok (.ireturn, 1) := by decide +kernel
theorem dX12_steps_23 : decode cX12_steps 23 = .ok (.aload_n 0, 1) := by decide +kernel
theorem dX12_steps_24 : decode cX12_steps 24 = .ok (.getfield 55, 3) := by decide +kernel
theorem dX12_steps_27 : decode cX12_steps 27 = .ok (.iload_n 2, 1) := by decide +kernel
theorem dX12_steps_28 : decode cX12_steps 28 = .ok (.iaload, 1) := by decide +kernel
theorem dX12_steps_29 : decode cX12_steps 29 = .ok (.iconst 1, 1) := by decide +kernel
theorem dX12_steps_30 : decode cX12_steps 30 = .ok (.if_icmp .ne 11, 3) := by decide +kernel
theorem dX12_steps_33 : decode cX12_steps 33 = .ok (.aload_n 0, 1) := by decide +kernel
theorem dX12_steps_34 : decode cX12_steps 34 = .ok (.aload_n 1, 1) := by decide +kernel
theorem dX12_steps_35 : decode cX12_steps 35 = .ok (.invokevirtual 336, 3) := by decide +kernel
theorem dX12_steps_38 : decode cX12_steps 38 = .ok (.goto 15, 3) := by decide +kernel
theorem dX12_steps_41 : decode cX12_steps 41 = .ok (.aload_n 1, 1) := by decide +kernel
theorem dX12_steps_42 : decode cX12_steps 42 = .ok (.aload_n 0, 1) := by decide +kernel
theorem dX12_steps_43 : decode cX12_steps 43 = .ok (.getfield 55, 3) := by decide +kernel
theorem dX12_steps_46 : decode cX12_steps 46 = .ok (.iload_n 2, 1) := by decide +kernel
theorem dX12_steps_47 : decode cX12_steps 47 = .ok (.iconst 1, 1) := by decide +kernel
theorem dX12_steps_48 : decode cX12_steps 48 = .ok (.iadd, 1) := by decide +kernel
theorem dX12_steps_49 : decode cX12_steps 49 = .ok (.iaload, 1) := by decide +kernel
theorem dX12_steps_50 : decode cX12_steps 50 = .ok (.invokestatic 344, 3) := by decide +kernel
theorem dX12_steps_53 : decode cX12_steps 53 = .ok (.iconst 0, 1) := by decide +kernel
theorem dX12_steps_54 : decode cX12_steps 54 = .ok (.ireturn, 1) := by decide +kernel
theorem dX12_runs_0 : decode cX12_runs 0 = .ok (.iconst 0, 1) := by decide +kernel
theorem dX12_runs_1 : decode cX12_runs 1 = .ok (.istore_n 2, 1) := by decide +kernel
theorem dX12_runs_2 : decode cX12_runs 2 = .ok (.aload_n 0, 1) := by decide +kernel
theorem dX12_runs_3 : decode cX12_runs 3 = .ok (.iconst 0, 1) := by decide +kernel
theorem dX12_runs_4 : decode cX12_runs 4 = .ok (.putfield 370, 3) := by decide +kernel
theorem dX12_runs_7 : decode cX12_runs 7 = .ok (.iload_n 2, 1) := by decide +kernel
theorem dX12_runs_8 : decode cX12_runs 8 = .ok (.aload_n 0, 1) := by decide +kernel
theorem dX12_runs_9 : decode cX12_runs 9 = .ok (.getfield 58, 3) := by decide +kernel
theorem dX12_runs_12 : decode cX12_runs 12 = .ok (.iload_n 1, 1) := by decide +kernel
theorem dX12_runs_13 : decode cX12_runs 13 = .ok (.iaload, 1) := by decide +kernel
theorem dX12_runs_14 : decode cX12_runs 14 = .ok (.if_icmp .ge 53, 3) := by decide +kernel
theorem dX12_runs_17 : decode cX12_runs 17 = .ok (.aload_n 0, 1) := by decide +kernel
theorem dX12_runs_18 : decode cX12_runs 18 = .ok (.aload_n 0, 1) := by decide +kernel
theorem dX12_runs_19 : decode cX12_runs 19 = .ok (.getfield 64, 3) := by decide +kernel
theorem dX12_runs_22 : decode cX12_runs 22 = .ok (.iconst 2, 1) := by decide +kernel
theorem dX12_runs_23 : decode cX12_runs 23 = .ok (.bipush 16, 2) := by decide +kernel
theorem dX12_runs_25 : decode cX12_runs 25 = .ok (.iload_n 1, 1) := by decide +kernel
theorem dX12_runs_26 : decode cX12_runs 26 = .ok (.imul, 1) := by decide +kernel
theorem dX12_runs_27 : decode cX12_runs 27 = .ok (.iload_n 2, 1) := by decide +kernel
theorem dX12_runs_28 : decode cX12_runs 28 = .ok (.iadd, 1) := by decide +kernel
theorem dX12_runs_29 : decode cX12_runs 29 = .ok (.imul, 1) := by decide +kernel
theorem dX12_runs_30 : decode cX12_runs 30 = .ok (.invokevirtual 373, 3) := by decide +kernel
theorem dX12_runs_33 : decode cX12_runs 33 = .ok (.ifCond .eq 34, 3) := by decide +kernel
theorem dX12_runs_36 : decode cX12_runs 36 = .ok (.aload_n 0, 1) := by decide +kernel
theorem dX12_runs_37 : decode cX12_runs 37 = .ok (.dup, 1) := by decide +kernel
theorem dX12_runs_38 : decode cX12_runs 38 = .ok (.getfield 370, 3) := by decide +kernel
theorem dX12_runs_41 : decode cX12_runs 41 = .ok (.aload_n 0, 1) := by decide +kernel
theorem dX12_runs_42 : decode cX12_runs 42 = .ok (.aload_n 0, 1) := by decide +kernel
theorem dX12_runs_43 : decode cX12_runs 43 = .ok (.getfield 64, 3) := by decide +kernel
theorem dX12_runs_46 : decode cX12_runs 46 = .ok (.iconst 2, 1) := by decide +kernel
theorem dX12_runs_47 : decode cX12_runs 47 = .ok (.bipush 16, 2) := by decide +kernel
theorem dX12_runs_49 : decode cX12_runs 49 = .ok (.iload_n 1, 1) := by decide +kernel
theorem dX12_runs_50 : decode cX12_runs 50 = .ok (.imul, 1) := by decide +kernel
theorem dX12_runs_51 : decode cX12_runs 51 = .ok (.iload_n 2, 1) := by decide +kernel
theorem dX12_runs_52 : decode cX12_runs 52 = .ok (.iadd, 1) := by decide +kernel
theorem dX12_runs_53 : decode cX12_runs 53 = .ok (.imul, 1) := by decide +kernel
theorem dX12_runs_54 : decode cX12_runs 54 = .ok (.invokevirtual 376, 3) := by decide +kernel
theorem dX12_runs_57 : decode cX12_runs 57 = .ok (.iadd, 1) := by decide +kernel
theorem dX12_runs_58 : decode cX12_runs 58 = .ok (.putfield 370, 3) := by decide +kernel
theorem dX12_runs_61 : decode cX12_runs 61 = .ok (.iinc 2 1, 3) := by decide +kernel
theorem dX12_runs_64 : decode cX12_runs 64 = .ok (.goto (-57), 3) := by decide +kernel
theorem dX12_runs_67 : decode cX12_runs 67 = .ok (.iload_n 2, 1) := by decide +kernel
theorem dX12_runs_68 : decode cX12_runs 68 = .ok (.ireturn, 1) := by decide +kernel
theorem dX12_run_0 : decode cX12_run 0 = .ok (.aload_n 0, 1) := by decide +kernel
theorem dX12_run_1 : decode cX12_run 1 = .ok (.iconst 0, 1) := by decide +kernel
theorem dX12_run_2 : decode cX12_run 2 = .ok (.putfield 89, 3) := by decide +kernel
theorem dX12_run_5 : decode cX12_run 5 = .ok (.aload_n 0, 1) := by decide +kernel
theorem dX12_run_6 : decode cX12_run 6 = .ok (.iload_n 1, 1) := by decide +kernel
theorem dX12_run_7 : decode cX12_run 7 = .ok (.invokevirtual 367, 3) := by decide +kernel
theorem dX12_run_10 : decode cX12_run 10 = .ok (.ifCond .eq 20, 3) := by decide +kernel
theorem dX12_run_13 : decode cX12_run 13 = .ok (.aload_n 0, 1) := by decide +kernel
theorem dX12_run_14 : decode cX12_run 14 = .ok (.getfield 284, 3) := by decide +kernel
theorem dX12_run_17 : decode cX12_run 17 = .ok (.ifCond .eq 13, 3) := by decide +kernel
theorem dX12_run_20 : decode cX12_run 20 = .ok (.iload_n 2, 1) := by decide +kernel
theorem dX12_run_21 : decode cX12_run 21 = .ok (.i2l, 1) := by decide +kernel
theorem dX12_run_22 : decode cX12_run 22 = .ok (.lconst 0, 1) := by decide +kernel
theorem dX12_run_23 : decode cX12_run 23 = .ok (.lconst 1, 1) := by decide +kernel
theorem dX12_run_24 : decode cX12_run 24 = .ok (.invokestatic 260, 3) := by decide +kernel
theorem dX12_run_27 : decode cX12_run 27 = .ok (.ifCond .ne 7, 3) := by decide +kernel
theorem dX12_run_30 : decode cX12_run 30 = .ok (.ldc_w 366, 3) := by decide +kernel
theorem dX12_run_33 : decode cX12_run 33 = .ok (.ireturn, 1) := by decide +kernel
theorem dX12_run_34 : decode cX12_run 34 = .ok (.aload_n 0, 1) := by decide +kernel
theorem dX12_run_35 : decode cX12_run 35 = .ok (.getfield 61, 3) := by decide +kernel
theorem dX12_run_38 : decode cX12_run 38 = .ok (.aload_n 0, 1) := by decide +kernel
theorem dX12_run_39 : decode cX12_run 39 = .ok (.getfield 64, 3) := by decide +kernel
theorem dX12_run_42 : decode cX12_run 42 = .ok (.invokestatic 379, 3) := by decide +kernel
theorem dX12_run_45 : decode cX12_run 45 = .ok (.aload_n 0, 1) := by decide +kernel
theorem dX12_run_46 : decode cX12_run 46 = .ok (.iload_n 1, 1) := by decide +kernel
theorem dX12_run_47 : decode cX12_run 47 = .ok (.invokevirtual 383, 3) := by decide +kernel
theorem dX12_run_50 : decode cX12_run 50 = .ok (.istore_n 3, 1) := by decide +kernel
theorem dX12_run_51 : decode cX12_run 51 = .ok (.iload_n 2, 1) := by decide +kernel
theorem dX12_run_52 : decode cX12_run 52 = .ok (.iconst 1, 1) := by decide +kernel
theorem dX12_run_53 : decode cX12_run 53 = .ok (.if_icmp .ne 8, 3) := by decide +kernel
theorem dX12_run_56 : decode cX12_run 56 = .ok (.aload_n 0, 1) := by decide +kernel
theorem dX12_run_57 : decode cX12_run 57 = .ok (.getfield 370, 3) := by decide +kernel
theorem dX12_run_60 : decode cX12_run 60 = .ok (.ireturn, 1) := by decide +kernel
theorem dX12_run_61 : decode cX12_run 61 = .ok (.iload_n 3, 1) := by decide +kernel
theorem dX12_run_62 : decode cX12_run 62 = .ok (.aload_n 0, 1) := by decide +kernel
theorem dX12_run_63 : decode cX12_run 63 = .ok (.getfield 58, 3) := by decide +kernel
theorem dX12_run_66 : decode cX12_run 66 = .ok (.iload_n 1, 1) := by decide +kernel
theorem dX12_run_67 : decode cX12_run 67 = .ok (.iaload, 1) := by decide +kernel
theorem dX12_run_68 : decode cX12_run 68 = .ok (.if_icmp .ne 7, 3) := by decide +kernel
theorem dX12_run_71 : decode cX12_run 71 = .ok (.iconst (-1), 1) := by decide +kernel
theorem dX12_run_72 : decode cX12_run 72 = .ok (.goto 4, 3) := by decide +kernel
theorem dX12_run_75 : decode cX12_run 75 = .ok (.iload_n 3, 1) := by decide +kernel
theorem dX12_run_76 : decode cX12_run 76 = .ok (.ireturn, 1) := by decide +kernel
theorem dX12_perform_0 : decode cX12_perform 0 = .ok (.aload_n 0, 1) := by decide +kernel
theorem dX12_perform_1 : decode cX12_perform 1 = .ok (.iconst 0, 1) := by decide +kernel
theorem dX12_perform_2 : decode cX12_perform 2 = .ok (.putfield 89, 3) := by decide +kernel
theorem dX12_perform_5 : decode cX12_perform 5 = .ok (.aload_n 0, 1) := by decide +kernel
theorem dX12_perform_6 : decode cX12_perform 6 = .ok (.iload_n 1, 1) := by decide +kernel
theorem dX12_perform_7 : decode cX12_perform 7 = .ok (.invokevirtual 367, 3) := by decide +kernel
theorem dX12_perform_10 : decode cX12_perform 10 = .ok (.ifCond .eq 10, 3) := by decide +kernel
theorem dX12_perform_13 : decode cX12_perform 13 = .ok (.aload_n 0, 1) := by decide +kernel
theorem dX12_perform_14 : decode cX12_perform 14 = .ok (.getfield 284, 3) := by decide +kernel
theorem dX12_perform_17 : decode cX12_perform 17 = .ok (.ifCond .ne 5, 3) := by decide +kernel
theorem dX12_perform_20 : decode cX12_perform 20 = .ok (.iconst (-1), 1) := by decide +kernel
theorem dX12_perform_21 : decode cX12_perform 21 = .ok (.ireturn, 1) := by decide +kernel
theorem dX12_perform_22 : decode cX12_perform 22 = .ok (.iconst 0, 1) := by decide +kernel
theorem dX12_perform_23 : decode cX12_perform 23 = .ok (.istore_n 2, 1) := by decide +kernel
theorem dX12_perform_24 : decode cX12_perform 24 = .ok (.iload_n 2, 1) := by decide +kernel
theorem dX12_perform_25 : decode cX12_perform 25 = .ok (.aload_n 0, 1) := by decide +kernel
theorem dX12_perform_26 : decode cX12_perform 26 = .ok (.getfield 58, 3) := by decide +kernel
theorem dX12_perform_29 : decode cX12_perform 29 = .ok (.iload_n 1, 1) := by decide +kernel
theorem dX12_perform_30 : decode cX12_perform 30 = .ok (.iaload, 1) := by decide +kernel
theorem dX12_perform_31 : decode cX12_perform 31 = .ok (.if_icmp .ge 49, 3) := by decide +kernel
theorem dX12_perform_34 : decode cX12_perform 34 = .ok (.aload_n 0, 1) := by decide +kernel
theorem dX12_perform_35 : decode cX12_perform 35 = .ok (.aload_n 0, 1) := by decide +kernel
theorem dX12_perform_36 : decode cX12_perform 36 = .ok (.getfield 61, 3) := by decide +kernel
theorem dX12_perform_39 : decode cX12_perform 39 = .ok (.iconst 2, 1) := by decide +kernel
theorem dX12_perform_40 : decode cX12_perform 40 = .ok (.bipush 16, 2) := by decide +kernel
theorem dX12_perform_42 : decode cX12_perform 42 = .ok (.iload_n 1, 1) := by decide +kernel
theorem dX12_perform_43 : decode cX12_perform 43 = .ok (.imul, 1) := by decide +kernel
theorem dX12_perform_44 : decode cX12_perform 44 = .ok (.iload_n 2, 1) := by decide +kernel
theorem dX12_perform_45 : decode cX12_perform 45 = .ok (.iadd, 1) := by decide +kernel
theorem dX12_perform_46 : decode cX12_perform 46 = .ok (.imul, 1) := by decide +kernel
theorem dX12_perform_47 : decode cX12_perform 47 = .ok (.invokevirtual 373, 3) := by decide +kernel
theorem dX12_perform_50 : decode cX12_perform 50 = .ok (.ifCond .eq 30, 3) := by decide +kernel
theorem dX12_perform_53 : decode cX12_perform 53 = .ok (.aload_n 0, 1) := by decide +kernel
theorem dX12_perform_54 : decode cX12_perform 54 = .ok (.invokevirtual 329, 3) := by decide +kernel
theorem dX12_perform_57 : decode cX12_perform 57 = .ok (.aload_n 0, 1) := by decide +kernel
theorem dX12_perform_58 : decode cX12_perform 58 = .ok (.aload_n 0, 1) := by decide +kernel
theorem dX12_perform_59 : decode cX12_perform 59 = .ok (.getfield 61, 3) := by decide +kernel
theorem dX12_perform_62 : decode cX12_perform 62 = .ok (.iconst 2, 1) := by decide +kernel
theorem dX12_perform_63 : decode cX12_perform 63 = .ok (.bipush 16, 2) := by decide +kernel
theorem dX12_perform_65 : decode cX12_perform 65 = .ok (.iload_n 1, 1) := by decide +kernel
theorem dX12_perform_66 : decode cX12_perform 66 = .ok (.imul, 1) := by decide +kernel
theorem dX12_perform_67 : decode cX12_perform 67 = .ok (.iload_n 2, 1) := by decide +kernel
theorem dX12_perform_68 : decode cX12_perform 68 = .ok (.iadd, 1) := by decide +kernel
theorem dX12_perform_69 : decode cX12_perform 69 = .ok (.imul, 1) := by decide +kernel
theorem dX12_perform_70 : decode cX12_perform 70 = .ok (.invokevirtual 376, 3) := by decide +kernel
theorem dX12_perform_73 : decode cX12_perform 73 = .ok (.istore_n 3, 1) := by decide +kernel
theorem dX12_perform_74 : decode cX12_perform 74 = .ok (.iinc 2 1, 3) := by decide +kernel
theorem dX12_perform_77 : decode cX12_perform 77 = .ok (.goto (-53), 3) := by decide +kernel
theorem dX12_perform_80 : decode cX12_perform 80 = .ok (.iload_n 2, 1) := by decide +kernel
theorem dX12_perform_81 : decode cX12_perform 81 = .ok (.ireturn, 1) := by decide +kernel
theorem dX12_round_0 : decode cX12_round 0 = .ok (.aload_n 0, 1) := by decide +kernel
theorem dX12_round_1 : decode cX12_round 1 = .ok (.iconst 0, 1) := by decide +kernel
theorem dX12_round_2 : decode cX12_round 2 = .ok (.putfield 89, 3) := by decide +kernel
theorem dX12_round_5 : decode cX12_round 5 = .ok (.aload_n 0, 1) := by decide +kernel
theorem dX12_round_6 : decode cX12_round 6 = .ok (.iload_n 1, 1) := by decide +kernel
theorem dX12_round_7 : decode cX12_round 7 = .ok (.invokevirtual 367, 3) := by decide +kernel
theorem dX12_round_10 : decode cX12_round 10 = .ok (.ifCond .eq 10, 3) := by decide +kernel
theorem dX12_round_13 : decode cX12_round 13 = .ok (.aload_n 0, 1) := by decide +kernel
theorem dX12_round_14 : decode cX12_round 14 = .ok (.getfield 284, 3) := by decide +kernel
theorem dX12_round_17 : decode cX12_round 17 = .ok (.ifCond .ne 5, 3) := by decide +kernel
theorem dX12_round_20 : decode cX12_round 20 = .ok (.iconst (-1), 1) := by decide +kernel
theorem dX12_round_21 : decode cX12_round 21 = .ok (.ireturn, 1) := by decide +kernel
theorem dX12_round_22 : decode cX12_round 22 = .ok (.aload_n 0, 1) := by decide +kernel
theorem dX12_round_23 : decode cX12_round 23 = .ok (.getfield 61, 3) := by decide +kernel
theorem dX12_round_26 : decode cX12_round 26 = .ok (.aload_n 0, 1) := by decide +kernel
theorem dX12_round_27 : decode cX12_round 27 = .ok (.getfield 64, 3) := by decide +kernel
theorem dX12_round_30 : decode cX12_round 30 = .ok (.invokestatic 379, 3) := by decide +kernel
theorem dX12_round_33 : decode cX12_round 33 = .ok (.iconst 1, 1) := by decide +kernel
theorem dX12_round_34 : decode cX12_round 34 = .ok (.istore_n 2, 1) := by decide +kernel
theorem dX12_round_35 : decode cX12_round 35 = .ok (.iload_n 2, 1) := by decide +kernel
theorem dX12_round_36 : decode cX12_round 36 = .ok (.bipush 30, 2) := by decide +kernel
theorem dX12_round_38 : decode cX12_round 38 = .ok (.if_icmp .gt 52, 3) := by decide +kernel
theorem dX12_round_41 : decode cX12_round 41 = .ok (.aload_n 0, 1) := by decide +kernel
theorem dX12_round_42 : decode cX12_round 42 = .ok (.getfield 64, 3) := by decide +kernel
theorem dX12_round_45 : decode cX12_round 45 = .ok (.bipush 28, 2) := by decide +kernel
theorem dX12_round_47 : decode cX12_round 47 = .ok (.iconst 0, 1) := by decide +kernel
theorem dX12_round_48 : decode cX12_round 48 = .ok (.iastore, 1) := by decide +kernel
theorem dX12_round_49 : decode cX12_round 49 = .ok (.aload_n 0, 1) := by decide +kernel
theorem dX12_round_50 : decode cX12_round 50 = .ok (.iload_n 1, 1) := by decide +kernel
theorem dX12_round_51 : decode cX12_round 51 = .ok (.invokevirtual 383, 3) := by decide +kernel
theorem dX12_round_54 : decode cX12_round 54 = .ok (.aload_n 0, 1) := by decide +kernel
theorem dX12_round_55 : decode cX12_round 55 = .ok (.getfield 58, 3) := by decide +kernel
theorem dX12_round_58 : decode cX12_round 58 = .ok (.iload_n 1, 1) := by decide +kernel
theorem dX12_round_59 : decode cX12_round 59 = .ok (.iaload, 1) := by decide +kernel
theorem dX12_round_60 : decode cX12_round 60 = .ok (.if_icmp .ge 5, 3) := by decide +kernel
theorem dX12_round_63 : decode cX12_round 63 = .ok (.iconst (-1), 1) := by decide +kernel
theorem dX12_round_64 : decode cX12_round 64 = .ok (.ireturn, 1) := by decide +kernel
theorem dX12_round_65 : decode cX12_round 65 = .ok (.aload_n 0, 1) := by decide +kernel
theorem dX12_round_66 : decode cX12_round 66 = .ok (.getfield 64, 3) := by decide +kernel
theorem dX12_round_69 : decode cX12_round 69 = .ok (.bipush 24, 2) := by decide +kernel
theorem dX12_round_71 : decode cX12_round 71 = .ok (.iaload, 1) := by decide +kernel
theorem dX12_round_72 : decode cX12_round 72 = .ok (.aload_n 0, 1) := by decide +kernel
theorem dX12_round_73 : decode cX12_round 73 = .ok (.getfield 61, 3) := by decide +kernel
theorem dX12_round_76 : decode cX12_round 76 = .ok (.bipush 24, 2) := by decide +kernel
theorem dX12_round_78 : decode cX12_round 78 = .ok (.iaload, 1) := by decide +kernel
theorem dX12_round_79 : decode cX12_round 79 = .ok (.if_icmp .ne 5, 3) := by decide +kernel
theorem dX12_round_82 : decode cX12_round 82 = .ok (.iload_n 2, 1) := by decide +kernel
theorem dX12_round_83 : decode cX12_round 83 = .ok (.ireturn, 1) := by decide +kernel
theorem dX12_round_84 : decode cX12_round 84 = .ok (.iinc 2 1, 3) := by decide +kernel
theorem dX12_round_87 : decode cX12_round 87 = .ok (.goto (-52), 3) := by decide +kernel
theorem dX12_round_90 : decode cX12_round 90 = .ok (.iconst (-1), 1) := by decide +kernel
theorem dX12_round_91 : decode cX12_round 91 = .ok (.ireturn, 1) := by decide +kernel
theorem dX12_endsRow_0 : decode cX12_endsRow 0 = .ok (.aload_n 0, 1) := by decide +kernel
theorem dX12_endsRow_1 : decode cX12_endsRow 1 = .ok (.getfield 386, 3) := by decide +kernel
theorem dX12_endsRow_4 : decode cX12_endsRow 4 = .ok (.ifCond .ne 23, 3) := by decide +kernel
theorem dX12_endsRow_7 : decode cX12_endsRow 7 = .ok (.iload_n 1, 1) := by decide +kernel
theorem dX12_endsRow_8 : decode cX12_endsRow 8 = .ok (.aload_n 0, 1) := by decide +kernel
theorem dX12_endsRow_9 : decode cX12_endsRow 9 = .ok (.getfield 389, 3) := by decide +kernel
theorem dX12_endsRow_12 : decode cX12_endsRow 12 = .ok (.if_icmp .gt 4, 3) := by decide +kernel
theorem dX12_endsRow_15 : decode cX12_endsRow 15 = .ok (.return_, 1) := by decide +kernel
theorem dX12_endsRow_16 : decode cX12_endsRow 16 = .ok (.aload_n 0, 1) := by decide +kernel
theorem dX12_endsRow_17 : decode cX12_endsRow 17 = .ok (.iload_n 1, 1) := by decide +kernel
theorem dX12_endsRow_18 : decode cX12_endsRow 18 = .ok (.putfield 389, 3) := by decide +kernel
theorem dX12_endsRow_21 : decode cX12_endsRow 21 = .ok (.aload_n 0, 1) := by decide +kernel
theorem dX12_endsRow_22 : decode cX12_endsRow 22 = .ok (.iload_n 2, 1) := by decide +kernel
theorem dX12_endsRow_23 : decode cX12_endsRow 23 = .ok (.putfield 392, 3) := by decide +kernel
theorem dX12_endsRow_26 : decode cX12_endsRow 26 = .ok (.return_, 1) := by decide +kernel
theorem dX12_endsRow_27 : decode cX12_endsRow 27 = .ok (.aload_n 0, 1) := by decide +kernel
theorem dX12_endsRow_28 : decode cX12_endsRow 28 = .ok (.getfield 64, 3) := by decide +kernel
theorem dX12_endsRow_31 : decode cX12_endsRow 31 = .ok (.bipush 24, 2) := by decide +kernel
theorem dX12_endsRow_33 : decode cX12_endsRow 33 = .ok (.iaload, 1) := by decide +kernel
theorem dX12_endsRow_34 : decode cX12_endsRow 34 = .ok (.aload_n 0, 1) := by decide +kernel
theorem dX12_endsRow_35 : decode cX12_endsRow 35 = .ok (.getfield 395, 3) := by decide +kernel
theorem dX12_endsRow_38 : decode cX12_endsRow 38 = .ok (.if_icmp .ne 7, 3) := by decide +kernel
theorem dX12_endsRow_41 : decode cX12_endsRow 41 = .ok (.iconst 1, 1) := by decide +kernel
theorem dX12_endsRow_42 : decode cX12_endsRow 42 = .ok (.goto 4, 3) := by decide +kernel
theorem dX12_endsRow_45 : decode cX12_endsRow 45 = .ok (.iconst 0, 1) := by decide +kernel
theorem dX12_endsRow_46 : decode cX12_endsRow 46 = .ok (.aload_n 0, 1) := by decide +kernel
theorem dX12_endsRow_47 : decode cX12_endsRow 47 = .ok (.getfield 386, 3) := by decide +kernel
theorem dX12_endsRow_50 : decode cX12_endsRow 50 = .ok (.iconst 1, 1) := by decide +kernel
theorem dX12_endsRow_51 : decode cX12_endsRow 51 = .ok (.if_icmp .ne 7, 3) := by decide +kernel
theorem dX12_endsRow_54 : decode cX12_endsRow 54 = .ok (.iconst 1, 1) := by decide +kernel
theorem dX12_endsRow_55 : decode cX12_endsRow 55 = .ok (.goto 4, 3) := by decide +kernel
theorem dX12_endsRow_58 : decode cX12_endsRow 58 = .ok (.iconst 0, 1) := by decide +kernel
theorem dX12_endsRow_59 : decode cX12_endsRow 59 = .ok (.if_icmp .eq 4, 3) := by decide +kernel
theorem dX12_endsRow_62 : decode cX12_endsRow 62 = .ok (.return_, 1) := by decide +kernel
theorem dX12_endsRow_63 : decode cX12_endsRow 63 = .ok (.aload_n 0, 1) := by decide +kernel
theorem dX12_endsRow_64 : decode cX12_endsRow 64 = .ok (.getfield 398, 3) := by decide +kernel
theorem dX12_endsRow_67 : decode cX12_endsRow 67 = .ok (.aload_n 0, 1) := by decide +kernel
theorem dX12_endsRow_68 : decode cX12_endsRow 68 = .ok (.getfield 401, 3) := by decide +kernel
theorem dX12_endsRow_71 : decode cX12_endsRow 71 = .ok (.if_icmp .ne 8, 3) := by decide +kernel
theorem dX12_endsRow_74 : decode cX12_endsRow 74 = .ok (.aload_n 0, 1) := by decide +kernel
theorem dX12_endsRow_75 : decode cX12_endsRow 75 = .ok (.iload_n 2, 1) := by decide +kernel
theorem dX12_endsRow_76 : decode cX12_endsRow 76 = .ok (.putfield 392, 3) := by decide +kernel
theorem dX12_endsRow_79 : decode cX12_endsRow 79 = .ok (.aload_n 0, 1) := by decide +kernel
theorem dX12_endsRow_80 : decode cX12_endsRow 80 = .ok (.dup, 1) := by decide +kernel
theorem dX12_endsRow_81 : decode cX12_endsRow 81 = .ok (.getfield 398, 3) := by decide +kernel
theorem dX12_endsRow_84 : decode cX12_endsRow 84 = .ok (.iconst 1, 1) := by decide +kernel
theorem dX12_endsRow_85 : decode cX12_endsRow 85 = .ok (.iadd, 1) := by decide +kernel
theorem dX12_endsRow_86 : decode cX12_endsRow 86 = .ok (.putfield 398, 3) := by decide +kernel
theorem dX12_endsRow_89 : decode cX12_endsRow 89 = .ok (.return_, 1) := by decide +kernel
theorem dX12_goRows_0 : decode cX12_goRows 0 = .ok (.iload_n 1, 1) := by decide +kernel
theorem dX12_goRows_1 : decode cX12_goRows 1 = .ok (.ifCond .ne 11, 3) := by decide +kernel
theorem dX12_goRows_4 : decode cX12_goRows 4 = .ok (.aload_n 0, 1) := by decide +kernel
theorem dX12_goRows_5 : decode cX12_goRows 5 = .ok (.iload_n 3, 1) := by decide +kernel
theorem dX12_goRows_6 : decode cX12_goRows 6 = .ok (.iload 4, 2) := by decide +kernel
theorem dX12_goRows_8 : decode cX12_goRows 8 = .ok (.invokevirtual 404, 3) := by decide +kernel
theorem dX12_goRows_11 : decode cX12_goRows 11 = .ok (.return_, 1) := by decide +kernel
theorem dX12_goRows_12 : decode cX12_goRows 12 = .ok (.iconst 0, 1) := by decide +kernel
theorem dX12_goRows_13 : decode cX12_goRows 13 = .ok (.istore 5, 2) := by decide +kernel
theorem dX12_goRows_15 : decode cX12_goRows 15 = .ok (.iload 5, 2) := by decide +kernel
theorem dX12_goRows_17 : decode cX12_goRows 17 = .ok (.bipush 29, 2) := by decide +kernel
theorem dX12_goRows_19 : decode cX12_goRows 19 = .ok (.if_icmp .ge 28, 3) := by decide +kernel
theorem dX12_goRows_22 : decode cX12_goRows 22 = .ok (.aload_n 0, 1) := by decide +kernel
theorem dX12_goRows_23 : decode cX12_goRows 23 = .ok (.getfield 77, 3) := by decide +kernel
theorem dX12_goRows_26 : decode cX12_goRows 26 = .ok (.bipush 29, 2) := by decide +kernel
theorem dX12_goRows_28 : decode cX12_goRows 28 = .ok (.iload_n 1, 1) := by decide +kernel
theorem dX12_goRows_29 : decode cX12_goRows 29 = .ok (.imul, 1) := by decide +kernel
theorem dX12_goRows_30 : decode cX12_goRows 30 = .ok (.iload 5, 2) := by decide +kernel
theorem dX12_goRows_32 : decode cX12_goRows 32 = .ok (.iadd, 1) := by decide +kernel
theorem dX12_goRows_33 : decode cX12_goRows 33 = .ok (.aload_n 0, 1) := by decide +kernel
theorem dX12_goRows_34 : decode cX12_goRows 34 = .ok (.getfield 64, 3) := by decide +kernel
theorem dX12_goRows_37 : decode cX12_goRows 37 = .ok (.iload 5, 2) := by decide +kernel
theorem dX12_goRows_39 : decode cX12_goRows 39 = .ok (.iaload, 1) := by decide +kernel
theorem dX12_goRows_40 : decode cX12_goRows 40 = .ok (.iastore, 1) := by decide +kernel
theorem dX12_goRows_41 : decode cX12_goRows 41 = .ok (.iinc 5 1, 3) := by decide +kernel
theorem dX12_goRows_44 : decode cX12_goRows 44 = .ok (.goto (-29), 3) := by decide +kernel
theorem dX12_goRows_47 : decode cX12_goRows 47 = .ok (.iconst 0, 1) := by decide +kernel
theorem dX12_goRows_48 : decode cX12_goRows 48 = .ok (.istore 5, 2) := by decide +kernel
theorem dX12_goRows_50 : decode cX12_goRows 50 = .ok (.iload 5, 2) := by decide +kernel
theorem dX12_goRows_52 : decode cX12_goRows 52 = .ok (.aload_n 0, 1) := by decide +kernel
theorem dX12_goRows_53 : decode cX12_goRows 53 = .ok (.getfield 284, 3) := by decide +kernel
theorem dX12_goRows_56 : decode cX12_goRows 56 = .ok (.if_icmp .ge 96, 3) := by decide +kernel
theorem dX12_goRows_59 : decode cX12_goRows 59 = .ok (.aload_n 0, 1) := by decide +kernel
theorem dX12_goRows_60 : decode cX12_goRows 60 = .ok (.getfield 408, 3) := by decide +kernel
theorem dX12_goRows_63 : decode cX12_goRows 63 = .ok (.ifCond .ne 15, 3) := by decide +kernel
theorem dX12_goRows_66 : decode cX12_goRows 66 = .ok (.iload_n 2, 1) := by decide +kernel
theorem dX12_goRows_67 : decode cX12_goRows 67 = .ok (.iload 5, 2) := by decide +kernel
theorem dX12_goRows_69 : decode cX12_goRows 69 = .ok (.invokestatic 218, 3) := by decide +kernel
theorem dX12_goRows_72 : decode cX12_goRows 72 = .ok (.ifCond .eq 6, 3) := by decide +kernel
theorem dX12_goRows_75 : decode cX12_goRows 75 = .ok (.goto 71, 3) := by decide +kernel
theorem dX12_goRows_78 : decode cX12_goRows 78 = .ok (.aload_n 0, 1) := by decide +kernel
theorem dX12_goRows_79 : decode cX12_goRows 79 = .ok (.iload_n 1, 1) := by decide +kernel
theorem dX12_goRows_80 : decode cX12_goRows 80 = .ok (.iconst 1, 1) := by decide +kernel
theorem dX12_goRows_81 : decode cX12_goRows 81 = .ok (.isub, 1) := by decide +kernel
theorem dX12_goRows_82 : decode cX12_goRows 82 = .ok (.iload_n 2, 1) := by decide +kernel
theorem dX12_goRows_83 : decode cX12_goRows 83 = .ok (.iconst 1, 1) := by decide +kernel
theorem dX12_goRows_84 : decode cX12_goRows 84 = .ok (.iload 5, 2) := by decide +kernel
theorem dX12_goRows_86 : decode cX12_goRows 86 = .ok (.ishl, 1) := by decide +kernel
theorem dX12_goRows_87 : decode cX12_goRows 87 = .ok (.ior, 1) := by decide +kernel
theorem dX12_goRows_88 : decode cX12_goRows 88 = .ok (.iload_n 3, 1) := by decide +kernel
theorem dX12_goRows_89 : decode cX12_goRows 89 = .ok (.aload_n 0, 1) := by decide +kernel
theorem dX12_goRows_90 : decode cX12_goRows 90 = .ok (.aload_n 0, 1) := by decide +kernel
theorem dX12_goRows_91 : decode cX12_goRows 91 = .ok (.getfield 64, 3) := by decide +kernel
theorem dX12_goRows_94 : decode cX12_goRows 94 = .ok (.iload 5, 2) := by decide +kernel
theorem dX12_goRows_96 : decode cX12_goRows 96 = .ok (.invokevirtual 332, 3) := by decide +kernel
theorem dX12_goRows_99 : decode cX12_goRows 99 = .ok (.iadd, 1) := by decide +kernel
theorem dX12_goRows_100 : decode cX12_goRows 100 = .ok (.bipush 10, 2) := by decide +kernel
theorem dX12_goRows_102 : decode cX12_goRows 102 = .ok (.iload 4, 2) := by decide +kernel
theorem dX12_goRows_104 : decode cX12_goRows 104 = .ok (.imul, 1) := by decide +kernel
theorem dX12_goRows_105 : decode cX12_goRows 105 = .ok (.iload 5, 2) := by decide +kernel
theorem dX12_goRows_107 : decode cX12_goRows 107 = .ok (.iadd, 1) := by decide +kernel
theorem dX12_goRows_108 : decode cX12_goRows 108 = .ok (.invokevirtual 411, 3) := by decide +kernel
theorem dX12_goRows_111 : decode cX12_goRows 111 = .ok (.iconst 0, 1) := by decide +kernel
theorem dX12_goRows_112 : decode cX12_goRows 112 = .ok (.istore 6, 2) := by decide +kernel
theorem dX12_goRows_114 : decode cX12_goRows 114 = .ok (.iload 6, 2) := by decide +kernel
theorem dX12_goRows_116 : decode cX12_goRows 116 = .ok (.bipush 29, 2) := by decide +kernel
theorem dX12_goRows_118 : decode cX12_goRows 118 = .ok (.if_icmp .ge 28, 3) := by decide +kernel
theorem dX12_goRows_121 : decode cX12_goRows 121 = .ok (.aload_n 0, 1) := by decide +kernel
theorem dX12_goRows_122 : decode cX12_goRows 122 = .ok (.getfield 64, 3) := by decide +kernel
theorem dX12_goRows_125 : decode cX12_goRows 125 = .ok (.iload 6, 2) := by decide +kernel
theorem dX12_goRows_127 : decode cX12_goRows 127 = .ok (.aload_n 0, 1) := by decide +kernel
theorem dX12_goRows_128 : decode cX12_goRows 128 = .ok (.getfield 77, 3) := by decide +kernel
theorem dX12_goRows_131 : decode cX12_goRows 131 = .ok (.bipush 29, 2) := by decide +kernel
theorem dX12_goRows_133 : decode cX12_goRows 133 = .ok (.iload_n 1, 1) := by decide +kernel
theorem dX12_goRows_134 : decode cX12_goRows 134 = .ok (.imul, 1) := by decide +kernel
theorem dX12_goRows_135 : decode cX12_goRows 135 = .ok (.iload 6, 2) := by decide +kernel
theorem dX12_goRows_137 : decode cX12_goRows 137 = .ok (.iadd, 1) := by decide +kernel
theorem dX12_goRows_138 : decode cX12_goRows 138 = .ok (.iaload, 1) := by decide +kernel
theorem dX12_goRows_139 : decode cX12_goRows 139 = .ok (.iastore, 1) := by decide +kernel
theorem dX12_goRows_140 : decode cX12_goRows 140 = .ok (.iinc 6 1, 3) := by decide +kernel
theorem dX12_goRows_143 : decode cX12_goRows 143 = .ok (.goto (-29), 3) := by decide +kernel
theorem dX12_goRows_146 : decode cX12_goRows 146 = .ok (.iinc 5 1, 3) := by decide +kernel
theorem dX12_goRows_149 : decode cX12_goRows 149 = .ok (.goto (-99), 3) := by decide +kernel
theorem dX12_goRows_152 : decode cX12_goRows 152 = .ok (.return_, 1) := by decide +kernel
theorem dX12_lays_0 : decode cX12_lays 0 = .ok (.aload_n 0, 1) := by decide +kernel
theorem dX12_lays_1 : decode cX12_lays 1 = .ok (.getfield 61, 3) := by decide +kernel
theorem dX12_lays_4 : decode cX12_lays 4 = .ok (.aload_n 0, 1) := by decide +kernel
theorem dX12_lays_5 : decode cX12_lays 5 = .ok (.getfield 64, 3) := by decide +kernel
theorem dX12_lays_8 : decode cX12_lays 8 = .ok (.invokestatic 379, 3) := by decide +kernel
theorem dX12_lays_11 : decode cX12_lays 11 = .ok (.aload_n 0, 1) := by decide +kernel
theorem dX12_lays_12 : decode cX12_lays 12 = .ok (.iload_n 2, 1) := by decide +kernel
theorem dX12_lays_13 : decode cX12_lays 13 = .ok (.putfield 386, 3) := by decide +kernel
theorem dX12_lays_16 : decode cX12_lays 16 = .ok (.aload_n 0, 1) := by decide +kernel
theorem dX12_lays_17 : decode cX12_lays 17 = .ok (.iload_n 3, 1) := by decide +kernel
theorem dX12_lays_18 : decode cX12_lays 18 = .ok (.putfield 395, 3) := by decide +kernel
theorem dX12_lays_21 : decode cX12_lays 21 = .ok (.aload_n 0, 1) := by decide +kernel
theorem dX12_lays_22 : decode cX12_lays 22 = .ok (.iconst (-1), 1) := by decide +kernel
theorem dX12_lays_23 : decode cX12_lays 23 = .ok (.putfield 389, 3) := by decide +kernel
theorem dX12_lays_26 : decode cX12_lays 26 = .ok (.aload_n 0, 1) := by decide +kernel
theorem dX12_lays_27 : decode cX12_lays 27 = .ok (.iconst (-1), 1) := by decide +kernel
theorem dX12_lays_28 : decode cX12_lays 28 = .ok (.putfield 392, 3) := by decide +kernel
theorem dX12_lays_31 : decode cX12_lays 31 = .ok (.aload_n 0, 1) := by decide +kernel
theorem dX12_lays_32 : decode cX12_lays 32 = .ok (.iconst 0, 1) := by decide +kernel
theorem dX12_lays_33 : decode cX12_lays 33 = .ok (.putfield 398, 3) := by decide +kernel
theorem dX12_lays_36 : decode cX12_lays 36 = .ok (.aload_n 0, 1) := by decide +kernel
theorem dX12_lays_37 : decode cX12_lays 37 = .ok (.iload 4, 2) := by decide +kernel
theorem dX12_lays_39 : decode cX12_lays 39 = .ok (.putfield 401, 3) := by decide +kernel
theorem dX12_lays_42 : decode cX12_lays 42 = .ok (.aload_n 0, 1) := by decide +kernel
theorem dX12_lays_43 : decode cX12_lays 43 = .ok (.iload 5, 2) := by decide +kernel
theorem dX12_lays_45 : decode cX12_lays 45 = .ok (.putfield 408, 3) := by decide +kernel
theorem dX12_lays_48 : decode cX12_lays 48 = .ok (.aload_n 0, 1) := by decide +kernel
theorem dX12_lays_49 : decode cX12_lays 49 = .ok (.iload_n 1, 1) := by decide +kernel
theorem dX12_lays_50 : decode cX12_lays 50 = .ok (.iconst 0, 1) := by decide +kernel
theorem dX12_lays_51 : decode cX12_lays 51 = .ok (.iconst 0, 1) := by decide +kernel
theorem dX12_lays_52 : decode cX12_lays 52 = .ok (.iconst 0, 1) := by decide +kernel
theorem dX12_lays_53 : decode cX12_lays 53 = .ok (.invokevirtual 411, 3) := by decide +kernel
theorem dX12_lays_56 : decode cX12_lays 56 = .ok (.return_, 1) := by decide +kernel
theorem dX12_best_0 : decode cX12_best 0 = .ok (.aload_n 0, 1) := by decide +kernel
theorem dX12_best_1 : decode cX12_best 1 = .ok (.iconst 0, 1) := by decide +kernel
theorem dX12_best_2 : decode cX12_best 2 = .ok (.putfield 89, 3) := by decide +kernel
theorem dX12_best_5 : decode cX12_best 5 = .ok (.aload_n 0, 1) := by decide +kernel
theorem dX12_best_6 : decode cX12_best 6 = .ok (.getfield 284, 3) := by decide +kernel
theorem dX12_best_9 : decode cX12_best 9 = .ok (.ifCond .eq 13, 3) := by decide +kernel
theorem dX12_best_12 : decode cX12_best 12 = .ok (.iload_n 1, 1) := by decide +kernel
theorem dX12_best_13 : decode cX12_best 13 = .ok (.i2l, 1) := by decide +kernel
theorem dX12_best_14 : decode cX12_best 14 = .ok (.lconst 0, 1) := by decide +kernel
theorem dX12_best_15 : decode cX12_best 15 = .ok (.lconst 1, 1) := by decide +kernel
theorem dX12_best_16 : decode cX12_best 16 = .ok (.invokestatic 260, 3) := by decide +kernel
theorem dX12_best_19 : decode cX12_best 19 = .ok (.ifCond .ne 5, 3) := by decide +kernel
theorem dX12_best_22 : decode cX12_best 22 = .ok (.iconst (-1), 1) := by decide +kernel
theorem dX12_best_23 : decode cX12_best 23 = .ok (.ireturn, 1) := by decide +kernel
theorem dX12_best_24 : decode cX12_best 24 = .ok (.aload_n 0, 1) := by decide +kernel
theorem dX12_best_25 : decode cX12_best 25 = .ok (.aload_n 0, 1) := by decide +kernel
theorem dX12_best_26 : decode cX12_best 26 = .ok (.getfield 284, 3) := by decide +kernel
theorem dX12_best_29 : decode cX12_best 29 = .ok (.iconst 0, 1) := by decide +kernel
theorem dX12_best_30 : decode cX12_best 30 = .ok (.iconst 0, 1) := by decide +kernel
theorem dX12_best_31 : decode cX12_best 31 = .ok (.iconst 0, 1) := by decide +kernel
theorem dX12_best_32 : decode cX12_best 32 = .ok (.iconst 0, 1) := by decide +kernel
theorem dX12_best_33 : decode cX12_best 33 = .ok (.invokevirtual 415, 3) := by decide +kernel
theorem dX12_best_36 : decode cX12_best 36 = .ok (.iload_n 1, 1) := by decide +kernel
theorem dX12_best_37 : decode cX12_best 37 = .ok (.ifCond .ne 10, 3) := by decide +kernel
theorem dX12_best_40 : decode cX12_best 40 = .ok (.aload_n 0, 1) := by decide +kernel
theorem dX12_best_41 : decode cX12_best 41 = .ok (.getfield 392, 3) := by decide +kernel
theorem dX12_best_44 : decode cX12_best 44 = .ok (.goto 7, 3) := by decide +kernel
theorem dX12_best_47 : decode cX12_best 47 = .ok (.aload_n 0, 1) := by decide +kernel
theorem dX12_best_48 : decode cX12_best 48 = .ok (.getfield 389, 3) := by decide +kernel
theorem dX12_best_51 : decode cX12_best 51 = .ok (.ireturn, 1) := by decide +kernel
theorem dX12_comes_0 : decode cX12_comes 0 = .ok (.aload_n 0, 1) := by decide +kernel
theorem dX12_comes_1 : decode cX12_comes 1 = .ok (.iconst 0, 1) := by decide +kernel
theorem dX12_comes_2 : decode cX12_comes 2 = .ok (.putfield 89, 3) := by decide +kernel
theorem dX12_comes_5 : decode cX12_comes 5 = .ok (.aload_n 0, 1) := by decide +kernel
theorem dX12_comes_6 : decode cX12_comes 6 = .ok (.getfield 284, 3) := by decide +kernel
theorem dX12_comes_9 : decode cX12_comes 9 = .ok (.ifCond .eq 25, 3) := by decide +kernel
theorem dX12_comes_12 : decode cX12_comes 12 = .ok (.iload_n 1, 1) := by decide +kernel
theorem dX12_comes_13 : decode cX12_comes 13 = .ok (.i2l, 1) := by decide +kernel
theorem dX12_comes_14 : decode cX12_comes 14 = .ok (.lconst 1, 1) := by decide +kernel
theorem dX12_comes_15 : decode cX12_comes 15 = .ok (.ldc2_w 419, 3) := by decide +kernel
theorem dX12_comes_18 : decode cX12_comes 18 = .ok (.invokestatic 260, 3) := by decide +kernel
theorem dX12_comes_21 : decode cX12_comes 21 = .ok (.ifCond .eq 13, 3) := by decide +kernel
theorem dX12_comes_24 : decode cX12_comes 24 = .ok (.iload_n 2, 1) := by decide +kernel
theorem dX12_comes_25 : decode cX12_comes 25 = .ok (.i2l, 1) := by decide +kernel
theorem dX12_comes_26 : decode cX12_comes 26 = .ok (.lconst 0, 1) := by decide +kernel
theorem dX12_comes_27 : decode cX12_comes 27 = .ok (.lconst 1, 1) := by decide +kernel
theorem dX12_comes_28 : decode cX12_comes 28 = .ok (.invokestatic 260, 3) := by decide +kernel
theorem dX12_comes_31 : decode cX12_comes 31 = .ok (.ifCond .ne 5, 3) := by decide +kernel
theorem dX12_comes_34 : decode cX12_comes 34 = .ok (.iconst (-1), 1) := by decide +kernel
theorem dX12_comes_35 : decode cX12_comes 35 = .ok (.ireturn, 1) := by decide +kernel
theorem dX12_comes_36 : decode cX12_comes 36 = .ok (.aload_n 0, 1) := by decide +kernel
theorem dX12_comes_37 : decode cX12_comes 37 = .ok (.iload_n 1, 1) := by decide +kernel
theorem dX12_comes_38 : decode cX12_comes 38 = .ok (.iconst 0, 1) := by decide +kernel
theorem dX12_comes_39 : decode cX12_comes 39 = .ok (.iconst 0, 1) := by decide +kernel
theorem dX12_comes_40 : decode cX12_comes 40 = .ok (.iconst 0, 1) := by decide +kernel
theorem dX12_comes_41 : decode cX12_comes 41 = .ok (.iconst 1, 1) := by decide +kernel
theorem dX12_comes_42 : decode cX12_comes 42 = .ok (.invokevirtual 415, 3) := by decide +kernel
theorem dX12_comes_45 : decode cX12_comes 45 = .ok (.iload_n 2, 1) := by decide +kernel
theorem dX12_comes_46 : decode cX12_comes 46 = .ok (.ifCond .ne 10, 3) := by decide +kernel
theorem dX12_comes_49 : decode cX12_comes 49 = .ok (.aload_n 0, 1) := by decide +kernel
theorem dX12_comes_50 : decode cX12_comes 50 = .ok (.getfield 392, 3) := by decide +kernel
theorem dX12_comes_53 : decode cX12_comes 53 = .ok (.goto 7, 3) := by decide +kernel
theorem dX12_comes_56 : decode cX12_comes 56 = .ok (.aload_n 0, 1) := by decide +kernel
theorem dX12_comes_57 : decode cX12_comes 57 = .ok (.getfield 389, 3) := by decide +kernel
theorem dX12_comes_60 : decode cX12_comes 60 = .ok (.ireturn, 1) := by decide +kernel
theorem dX12_fewest_0 : decode cX12_fewest 0 = .ok (.iload_n 1, 1) := by decide +kernel
theorem dX12_fewest_1 : decode cX12_fewest 1 = .ok (.istore 5, 2) := by decide +kernel
theorem dX12_fewest_3 : decode cX12_fewest 3 = .ok (.iload 5, 2) := by decide +kernel
theorem dX12_fewest_5 : decode cX12_fewest 5 = .ok (.iconst 4, 1) := by decide +kernel
theorem dX12_fewest_6 : decode cX12_fewest 6 = .ok (.if_icmp .gt 41, 3) := by decide +kernel
theorem dX12_fewest_9 : decode cX12_fewest 9 = .ok (.aload_n 0, 1) := by decide +kernel
theorem dX12_fewest_10 : decode cX12_fewest 10 = .ok (.iload 5, 2) := by decide +kernel
theorem dX12_fewest_12 : decode cX12_fewest 12 = .ok (.iload_n 2, 1) := by decide +kernel
theorem dX12_fewest_13 : decode cX12_fewest 13 = .ok (.iload_n 3, 1) := by decide +kernel
theorem dX12_fewest_14 : decode cX12_fewest 14 = .ok (.iconst 0, 1) := by decide +kernel
theorem dX12_fewest_15 : decode cX12_fewest 15 = .ok (.iconst 1, 1) := by decide +kernel
theorem dX12_fewest_16 : decode cX12_fewest 16 = .ok (.invokevirtual 415, 3) := by decide +kernel
theorem dX12_fewest_19 : decode cX12_fewest 19 = .ok (.aload_n 0, 1) := by decide +kernel
theorem dX12_fewest_20 : decode cX12_fewest 20 = .ok (.getfield 398, 3) := by decide +kernel
theorem dX12_fewest_23 : decode cX12_fewest 23 = .ok (.ifCond .le 18, 3) := by decide +kernel
theorem dX12_fewest_26 : decode cX12_fewest 26 = .ok (.iload 4, 2) := by decide +kernel
theorem dX12_fewest_28 : decode cX12_fewest 28 = .ok (.ifCond .ne 8, 3) := by decide +kernel
theorem dX12_fewest_31 : decode cX12_fewest 31 = .ok (.iload 5, 2) := by decide +kernel
theorem dX12_fewest_33 : decode cX12_fewest 33 = .ok (.goto 7, 3) := by decide +kernel
theorem dX12_fewest_36 : decode cX12_fewest 36 = .ok (.aload_n 0, 1) := by decide +kernel
theorem dX12_fewest_37 : decode cX12_fewest 37 = .ok (.getfield 392, 3) := by decide +kernel
theorem dX12_fewest_40 : decode cX12_fewest 40 = .ok (.ireturn, 1) := by decide +kernel
theorem dX12_fewest_41 : decode cX12_fewest 41 = .ok (.iinc 5 1, 3) := by decide +kernel
theorem dX12_fewest_44 : decode cX12_fewest 44 = .ok (.goto (-41), 3) := by decide +kernel
theorem dX12_fewest_47 : decode cX12_fewest 47 = .ok (.iconst (-1), 1) := by decide +kernel
theorem dX12_fewest_48 : decode cX12_fewest 48 = .ok (.ireturn, 1) := by decide +kernel
theorem dX12_soonest_0 : decode cX12_soonest 0 = .ok (.aload_n 0, 1) := by decide +kernel
theorem dX12_soonest_1 : decode cX12_soonest 1 = .ok (.iconst 0, 1) := by decide +kernel
theorem dX12_soonest_2 : decode cX12_soonest 2 = .ok (.putfield 89, 3) := by decide +kernel
theorem dX12_soonest_5 : decode cX12_soonest 5 = .ok (.aload_n 0, 1) := by decide +kernel
theorem dX12_soonest_6 : decode cX12_soonest 6 = .ok (.iload_n 1, 1) := by decide +kernel
theorem dX12_soonest_7 : decode cX12_soonest 7 = .ok (.invokevirtual 319, 3) := by decide +kernel
theorem dX12_soonest_10 : decode cX12_soonest 10 = .ok (.ifCond .eq 24, 3) := by decide +kernel
theorem dX12_soonest_13 : decode cX12_soonest 13 = .ok (.iload_n 2, 1) := by decide +kernel
theorem dX12_soonest_14 : decode cX12_soonest 14 = .ok (.i2l, 1) := by decide +kernel
theorem dX12_soonest_15 : decode cX12_soonest 15 = .ok (.lconst 0, 1) := by decide +kernel
theorem dX12_soonest_16 : decode cX12_soonest 16 = .ok (.lconst 1, 1) := by decide +kernel
theorem dX12_soonest_17 : decode cX12_soonest 17 = .ok (.invokestatic 260, 3) := by decide +kernel
theorem dX12_soonest_20 : decode cX12_soonest 20 = .ok (.ifCond .eq 14, 3) := by decide +kernel
theorem dX12_soonest_23 : decode cX12_soonest 23 = .ok (.aload_n 0, 1) := by decide +kernel
theorem dX12_soonest_24 : decode cX12_soonest 24 = .ok (.iconst 0, 1) := by decide +kernel
theorem dX12_soonest_25 : decode cX12_soonest 25 = .ok (.iconst 1, 1) := by decide +kernel
theorem dX12_soonest_26 : decode cX12_soonest 26 = .ok (.iload_n 1, 1) := by decide +kernel
theorem dX12_soonest_27 : decode cX12_soonest 27 = .ok (.iload_n 2, 1) := by decide +kernel
theorem dX12_soonest_28 : decode cX12_soonest 28 = .ok (.invokevirtual 421, 3) := by decide +kernel
theorem dX12_soonest_31 : decode cX12_soonest 31 = .ok (.goto 4, 3) := by decide +kernel
theorem dX12_soonest_34 : decode cX12_soonest 34 = .ok (.iconst (-1), 1) := by decide +kernel
theorem dX12_soonest_35 : decode cX12_soonest 35 = .ok (.ireturn, 1) := by decide +kernel
theorem dX12_ends_0 : decode cX12_ends 0 = .ok (.aload_n 0, 1) := by decide +kernel
theorem dX12_ends_1 : decode cX12_ends 1 = .ok (.iconst 0, 1) := by decide +kernel
theorem dX12_ends_2 : decode cX12_ends 2 = .ok (.putfield 89, 3) := by decide +kernel
theorem dX12_ends_5 : decode cX12_ends 5 = .ok (.aload_n 0, 1) := by decide +kernel
theorem dX12_ends_6 : decode cX12_ends 6 = .ok (.getfield 284, 3) := by decide +kernel
theorem dX12_ends_9 : decode cX12_ends 9 = .ok (.ifCond .le 30, 3) := by decide +kernel
theorem dX12_ends_12 : decode cX12_ends 12 = .ok (.iload_n 1, 1) := by decide +kernel
theorem dX12_ends_13 : decode cX12_ends 13 = .ok (.i2l, 1) := by decide +kernel
theorem dX12_ends_14 : decode cX12_ends 14 = .ok (.lconst 0, 1) := by decide +kernel
theorem dX12_ends_15 : decode cX12_ends 15 = .ok (.lconst 1, 1) := by decide +kernel
theorem dX12_ends_16 : decode cX12_ends 16 = .ok (.invokestatic 260, 3) := by decide +kernel
theorem dX12_ends_19 : decode cX12_ends 19 = .ok (.ifCond .eq 20, 3) := by decide +kernel
theorem dX12_ends_22 : decode cX12_ends 22 = .ok (.aload_n 0, 1) := by decide +kernel
theorem dX12_ends_23 : decode cX12_ends 23 = .ok (.iconst 1, 1) := by decide +kernel
theorem dX12_ends_24 : decode cX12_ends 24 = .ok (.iconst 2, 1) := by decide +kernel
theorem dX12_ends_25 : decode cX12_ends 25 = .ok (.aload_n 0, 1) := by decide +kernel
theorem dX12_ends_26 : decode cX12_ends 26 = .ok (.getfield 61, 3) := by decide +kernel
theorem dX12_ends_29 : decode cX12_ends 29 = .ok (.bipush 24, 2) := by decide +kernel
theorem dX12_ends_31 : decode cX12_ends 31 = .ok (.iaload, 1) := by decide +kernel
theorem dX12_ends_32 : decode cX12_ends 32 = .ok (.iload_n 1, 1) := by decide +kernel
theorem dX12_ends_33 : decode cX12_ends 33 = .ok (.invokevirtual 421, 3) := by decide +kernel
theorem dX12_ends_36 : decode cX12_ends 36 = .ok (.goto 4, 3) := by decide +kernel
theorem dX12_ends_39 : decode cX12_ends 39 = .ok (.iconst (-1), 1) := by decide +kernel
theorem dX12_ends_40 : decode cX12_ends 40 = .ok (.ireturn, 1) := by decide +kernel
theorem dX12_who_0 : decode cX12_who 0 = .ok (.aload_n 0, 1) := by decide +kernel
theorem dX12_who_1 : decode cX12_who 1 = .ok (.iconst 0, 1) := by decide +kernel
theorem dX12_who_2 : decode cX12_who 2 = .ok (.putfield 89, 3) := by decide +kernel
theorem dX12_who_5 : decode cX12_who 5 = .ok (.aload_n 0, 1) := by decide +kernel
theorem dX12_who_6 : decode cX12_who 6 = .ok (.iload_n 1, 1) := by decide +kernel
theorem dX12_who_7 : decode cX12_who 7 = .ok (.invokevirtual 319, 3) := by decide +kernel
theorem dX12_who_10 : decode cX12_who 10 = .ok (.ifCond .eq 20, 3) := by decide +kernel
theorem dX12_who_13 : decode cX12_who 13 = .ok (.iload_n 2, 1) := by decide +kernel
theorem dX12_who_14 : decode cX12_who 14 = .ok (.i2l, 1) := by decide +kernel
theorem dX12_who_15 : decode cX12_who 15 = .ok (.lconst 1, 1) := by decide +kernel
theorem dX12_who_16 : decode cX12_who 16 = .ok (.ldc2_w 325, 3) := by decide +kernel
theorem dX12_who_19 : decode cX12_who 19 = .ok (.invokestatic 260, 3) := by decide +kernel
theorem dX12_who_22 : decode cX12_who 22 = .ok (.ifCond .eq 8, 3) := by decide +kernel
theorem dX12_who_25 : decode cX12_who 25 = .ok (.iload_n 3, 1) := by decide +kernel
theorem dX12_who_26 : decode cX12_who 26 = .ok (.iconst (-1), 1) := by decide +kernel
theorem dX12_who_27 : decode cX12_who 27 = .ok (.if_icmp .ge 5, 3) := by decide +kernel
theorem dX12_who_30 : decode cX12_who 30 = .ok (.iconst (-1), 1) := by decide +kernel
theorem dX12_who_31 : decode cX12_who 31 = .ok (.ireturn, 1) := by decide +kernel
theorem dX12_who_32 : decode cX12_who 32 = .ok (.iload_n 2, 1) := by decide +kernel
theorem dX12_who_33 : decode cX12_who 33 = .ok (.aload_n 0, 1) := by decide +kernel
theorem dX12_who_34 : decode cX12_who 34 = .ok (.getfield 284, 3) := by decide +kernel
theorem dX12_who_37 : decode cX12_who 37 = .ok (.if_icmp .le 14, 3) := by decide +kernel
theorem dX12_who_40 : decode cX12_who 40 = .ok (.iload_n 3, 1) := by decide +kernel
theorem dX12_who_41 : decode cX12_who 41 = .ok (.iconst (-1), 1) := by decide +kernel
theorem dX12_who_42 : decode cX12_who 42 = .ok (.if_icmp .ne 7, 3) := by decide +kernel
theorem dX12_who_45 : decode cX12_who 45 = .ok (.iconst 0, 1) := by decide +kernel
theorem dX12_who_46 : decode cX12_who 46 = .ok (.goto 4, 3) := by decide +kernel
theorem dX12_who_49 : decode cX12_who 49 = .ok (.iconst (-1), 1) := by decide +kernel
theorem dX12_who_50 : decode cX12_who 50 = .ok (.ireturn, 1) := by decide +kernel
theorem dX12_who_51 : decode cX12_who 51 = .ok (.aload_n 0, 1) := by decide +kernel
theorem dX12_who_52 : decode cX12_who 52 = .ok (.iload_n 2, 1) := by decide +kernel
theorem dX12_who_53 : decode cX12_who 53 = .ok (.iconst 1, 1) := by decide +kernel
theorem dX12_who_54 : decode cX12_who 54 = .ok (.iload_n 1, 1) := by decide +kernel
theorem dX12_who_55 : decode cX12_who 55 = .ok (.iload_n 3, 1) := by decide +kernel
theorem dX12_who_56 : decode cX12_who 56 = .ok (.iconst 0, 1) := by decide +kernel
theorem dX12_who_57 : decode cX12_who 57 = .ok (.invokevirtual 415, 3) := by decide +kernel
theorem dX12_who_60 : decode cX12_who 60 = .ok (.iload_n 3, 1) := by decide +kernel
theorem dX12_who_61 : decode cX12_who 61 = .ok (.iconst (-1), 1) := by decide +kernel
theorem dX12_who_62 : decode cX12_who 62 = .ok (.if_icmp .ne 10, 3) := by decide +kernel
theorem dX12_who_65 : decode cX12_who 65 = .ok (.aload_n 0, 1) := by decide +kernel
theorem dX12_who_66 : decode cX12_who 66 = .ok (.getfield 398, 3) := by decide +kernel
theorem dX12_who_69 : decode cX12_who 69 = .ok (.goto 7, 3) := by decide +kernel
theorem dX12_who_72 : decode cX12_who 72 = .ok (.aload_n 0, 1) := by decide +kernel
theorem dX12_who_73 : decode cX12_who 73 = .ok (.getfield 392, 3) := by decide +kernel
theorem dX12_who_76 : decode cX12_who 76 = .ok (.ireturn, 1) := by decide +kernel
theorem dX12_seen_0 : decode cX12_seen 0 = .ok (.aload_n 0, 1) := by decide +kernel
theorem dX12_seen_1 : decode cX12_seen 1 = .ok (.iconst 0, 1) := by decide +kernel
theorem dX12_seen_2 : decode cX12_seen 2 = .ok (.putfield 89, 3) := by decide +kernel
theorem dX12_seen_5 : decode cX12_seen 5 = .ok (.aload_n 0, 1) := by decide +kernel
theorem dX12_seen_6 : decode cX12_seen 6 = .ok (.iload_n 1, 1) := by decide +kernel
theorem dX12_seen_7 : decode cX12_seen 7 = .ok (.invokevirtual 322, 3) := by decide +kernel
theorem dX12_seen_10 : decode cX12_seen 10 = .ok (.ifCond .eq 47, 3) := by decide +kernel
theorem dX12_seen_13 : decode cX12_seen 13 = .ok (.aload_n 0, 1) := by decide +kernel
theorem dX12_seen_14 : decode cX12_seen 14 = .ok (.iload_n 2, 1) := by decide +kernel
theorem dX12_seen_15 : decode cX12_seen 15 = .ok (.invokevirtual 319, 3) := by decide +kernel
theorem dX12_seen_18 : decode cX12_seen 18 = .ok (.ifCond .eq 39, 3) := by decide +kernel
theorem dX12_seen_21 : decode cX12_seen 21 = .ok (.iload_n 3, 1) := by decide +kernel
theorem dX12_seen_22 : decode cX12_seen 22 = .ok (.i2l, 1) := by decide +kernel
theorem dX12_seen_23 : decode cX12_seen 23 = .ok (.lconst 0, 1) := by decide +kernel
theorem dX12_seen_24 : decode cX12_seen 24 = .ok (.ldc2_w 425, 3) := by decide +kernel
theorem dX12_seen_27 : decode cX12_seen 27 = .ok (.invokestatic 260, 3) := by decide +kernel
theorem dX12_seen_30 : decode cX12_seen 30 = .ok (.ifCond .eq 27, 3) := by decide +kernel
theorem dX12_seen_33 : decode cX12_seen 33 = .ok (.iload 4, 2) := by decide +kernel
theorem dX12_seen_35 : decode cX12_seen 35 = .ok (.iconst (-1), 1) := by decide +kernel
theorem dX12_seen_36 : decode cX12_seen 36 = .ok (.if_icmp .eq 12, 3) := by decide +kernel
theorem dX12_seen_39 : decode cX12_seen 39 = .ok (.aload_n 0, 1) := by decide +kernel
theorem dX12_seen_40 : decode cX12_seen 40 = .ok (.iload 4, 2) := by decide +kernel
theorem dX12_seen_42 : decode cX12_seen 42 = .ok (.invokevirtual 319, 3) := by decide +kernel
theorem dX12_seen_45 : decode cX12_seen 45 = .ok (.ifCond .eq 12, 3) := by decide +kernel
theorem dX12_seen_48 : decode cX12_seen 48 = .ok (.aload_n 0, 1) := by decide +kernel
theorem dX12_seen_49 : decode cX12_seen 49 = .ok (.getfield 287, 3) := by decide +kernel
theorem dX12_seen_52 : decode cX12_seen 52 = .ok (.bipush 10, 2) := by decide +kernel
theorem dX12_seen_54 : decode cX12_seen 54 = .ok (.if_icmp .ne 5, 3) := by decide +kernel
theorem dX12_seen_57 : decode cX12_seen 57 = .ok (.iconst (-1), 1) := by decide +kernel
theorem dX12_seen_58 : decode cX12_seen 58 = .ok (.ireturn, 1) := by decide +kernel
theorem dX12_seen_59 : decode cX12_seen 59 = .ok (.aload_n 0, 1) := by decide +kernel
theorem dX12_seen_60 : decode cX12_seen 60 = .ok (.getfield 80, 3) := by decide +kernel
theorem dX12_seen_63 : decode cX12_seen 63 = .ok (.iconst 4, 1) := by decide +kernel
theorem dX12_seen_64 : decode cX12_seen 64 = .ok (.aload_n 0, 1) := by decide +kernel
theorem dX12_seen_65 : decode cX12_seen 65 = .ok (.getfield 287, 3) := by decide +kernel
theorem dX12_seen_68 : decode cX12_seen 68 = .ok (.imul, 1) := by decide +kernel
theorem dX12_seen_69 : decode cX12_seen 69 = .ok (.iload_n 1, 1) := by decide +kernel
theorem dX12_seen_70 : decode cX12_seen 70 = .ok (.iastore, 1) := by decide +kernel
theorem dX12_seen_71 : decode cX12_seen 71 = .ok (.aload_n 0, 1) := by decide +kernel
theorem dX12_seen_72 : decode cX12_seen 72 = .ok (.getfield 80, 3) := by decide +kernel
theorem dX12_seen_75 : decode cX12_seen 75 = .ok (.iconst 4, 1) := by decide +kernel
theorem dX12_seen_76 : decode cX12_seen 76 = .ok (.aload_n 0, 1) := by decide +kernel
theorem dX12_seen_77 : decode cX12_seen 77 = .ok (.getfield 287, 3) := by decide +kernel
theorem dX12_seen_80 : decode cX12_seen 80 = .ok (.imul, 1) := by decide +kernel
theorem dX12_seen_81 : decode cX12_seen 81 = .ok (.iconst 1, 1) := by decide +kernel
theorem dX12_seen_82 : decode cX12_seen 82 = .ok (.iadd, 1) := by decide +kernel
theorem dX12_seen_83 : decode cX12_seen 83 = .ok (.iload_n 2, 1) := by decide +kernel
theorem dX12_seen_84 : decode cX12_seen 84 = .ok (.iastore, 1) := by decide +kernel
theorem dX12_seen_85 : decode cX12_seen 85 = .ok (.aload_n 0, 1) := by decide +kernel
theorem dX12_seen_86 : decode cX12_seen 86 = .ok (.getfield 80, 3) := by decide +kernel
theorem dX12_seen_89 : decode cX12_seen 89 = .ok (.iconst 4, 1) := by decide +kernel
theorem dX12_seen_90 : decode cX12_seen 90 = .ok (.aload_n 0, 1) := by decide +kernel
theorem dX12_seen_91 : decode cX12_seen 91 = .ok (.getfield 287, 3) := by decide +kernel
theorem dX12_seen_94 : decode cX12_seen 94 = .ok (.imul, 1) := by decide +kernel
theorem dX12_seen_95 : decode cX12_seen 95 = .ok (.iconst 2, 1) := by decide +kernel
theorem dX12_seen_96 : decode cX12_seen 96 = .ok (.iadd, 1) := by decide +kernel
theorem dX12_seen_97 : decode cX12_seen 97 = .ok (.iload_n 3, 1) := by decide +kernel
theorem dX12_seen_98 : decode cX12_seen 98 = .ok (.iastore, 1) := by decide +kernel
theorem dX12_seen_99 : decode cX12_seen 99 = .ok (.aload_n 0, 1) := by decide +kernel
theorem dX12_seen_100 : decode cX12_seen 100 = .ok (.getfield 80, 3) := by decide +kernel
theorem dX12_seen_103 : decode cX12_seen 103 = .ok (.iconst 4, 1) := by decide +kernel
theorem dX12_seen_104 : decode cX12_seen 104 = .ok (.aload_n 0, 1) := by decide +kernel
theorem dX12_seen_105 : decode cX12_seen 105 = .ok (.getfield 287, 3) := by decide +kernel
theorem dX12_seen_108 : decode cX12_seen 108 = .ok (.imul, 1) := by decide +kernel
theorem dX12_seen_109 : decode cX12_seen 109 = .ok (.iconst 3, 1) := by decide +kernel
theorem dX12_seen_110 : decode cX12_seen 110 = .ok (.iadd, 1) := by decide +kernel
theorem dX12_seen_111 : decode cX12_seen 111 = .ok (.iload 4, 2) := by decide +kernel
theorem dX12_seen_113 : decode cX12_seen 113 = .ok (.iastore, 1) := by decide +kernel
theorem dX12_seen_114 : decode cX12_seen 114 = .ok (.aload_n 0, 1) := by decide +kernel
theorem dX12_seen_115 : decode cX12_seen 115 = .ok (.dup, 1) := by decide +kernel
theorem dX12_seen_116 : decode cX12_seen 116 = .ok (.getfield 287, 3) := by decide +kernel
theorem dX12_seen_119 : decode cX12_seen 119 = .ok (.iconst 1, 1) := by decide +kernel
theorem dX12_seen_120 : decode cX12_seen 120 = .ok (.iadd, 1) := by decide +kernel
theorem dX12_seen_121 : decode cX12_seen 121 = .ok (.putfield 287, 3) := by decide +kernel
theorem dX12_seen_124 : decode cX12_seen 124 = .ok (.aload_n 0, 1) := by decide +kernel
theorem dX12_seen_125 : decode cX12_seen 125 = .ok (.getfield 287, 3) := by decide +kernel
theorem dX12_seen_128 : decode cX12_seen 128 = .ok (.ireturn, 1) := by decide +kernel
theorem dX12_fitsOne_0 : decode cX12_fitsOne 0 = .ok (.iconst 0, 1) := by decide +kernel
theorem dX12_fitsOne_1 : decode cX12_fitsOne 1 = .ok (.istore_n 3, 1) := by decide +kernel
theorem dX12_fitsOne_2 : decode cX12_fitsOne 2 = .ok (.iload_n 3, 1) := by decide +kernel
theorem dX12_fitsOne_3 : decode cX12_fitsOne 3 = .ok (.aload_n 0, 1) := by decide +kernel
theorem dX12_fitsOne_4 : decode cX12_fitsOne 4 = .ok (.getfield 287, 3) := by decide +kernel
theorem dX12_fitsOne_7 : decode cX12_fitsOne 7 = .ok (.if_icmp .ge 73, 3) := by decide +kernel
theorem dX12_fitsOne_10 : decode cX12_fitsOne 10 = .ok (.aload_n 0, 1) := by decide +kernel
theorem dX12_fitsOne_11 : decode cX12_fitsOne 11 = .ok (.getfield 80, 3) := by decide +kernel
theorem dX12_fitsOne_14 : decode cX12_fitsOne 14 = .ok (.iconst 4, 1) := by decide +kernel
theorem dX12_fitsOne_15 : decode cX12_fitsOne 15 = .ok (.iload_n 3, 1) := by decide +kernel
theorem dX12_fitsOne_16 : decode cX12_fitsOne 16 = .ok (.imul, 1) := by decide +kernel
theorem dX12_fitsOne_17 : decode cX12_fitsOne 17 = .ok (.iaload, 1) := by decide +kernel
theorem dX12_fitsOne_18 : decode cX12_fitsOne 18 = .ok (.iload_n 1, 1) := by decide +kernel
theorem dX12_fitsOne_19 : decode cX12_fitsOne 19 = .ok (.if_icmp .ne 55, 3) := by decide +kernel
theorem dX12_fitsOne_22 : decode cX12_fitsOne 22 = .ok (.aload_n 0, 1) := by decide +kernel
theorem dX12_fitsOne_23 : decode cX12_fitsOne 23 = .ok (.aload_n 0, 1) := by decide +kernel
theorem dX12_fitsOne_24 : decode cX12_fitsOne 24 = .ok (.getfield 61, 3) := by decide +kernel
theorem dX12_fitsOne_27 : decode cX12_fitsOne 27 = .ok (.iload_n 2, 1) := by decide +kernel
theorem dX12_fitsOne_28 : decode cX12_fitsOne 28 = .ok (.bipush 10, 2) := by decide +kernel
theorem dX12_fitsOne_30 : decode cX12_fitsOne 30 = .ok (.idiv, 1) := by decide +kernel
theorem dX12_fitsOne_31 : decode cX12_fitsOne 31 = .ok (.iload_n 2, 1) := by decide +kernel
theorem dX12_fitsOne_32 : decode cX12_fitsOne 32 = .ok (.bipush 10, 2) := by decide +kernel
theorem dX12_fitsOne_34 : decode cX12_fitsOne 34 = .ok (.irem, 1) := by decide +kernel
theorem dX12_fitsOne_35 : decode cX12_fitsOne 35 = .ok (.aload_n 0, 1) := by decide +kernel
theorem dX12_fitsOne_36 : decode cX12_fitsOne 36 = .ok (.getfield 80, 3) := by decide +kernel
theorem dX12_fitsOne_39 : decode cX12_fitsOne 39 = .ok (.iconst 4, 1) := by decide +kernel
theorem dX12_fitsOne_40 : decode cX12_fitsOne 40 = .ok (.iload_n 3, 1) := by decide +kernel
theorem dX12_fitsOne_41 : decode cX12_fitsOne 41 = .ok (.imul, 1) := by decide +kernel
theorem dX12_fitsOne_42 : decode cX12_fitsOne 42 = .ok (.iconst 2, 1) := by decide +kernel
theorem dX12_fitsOne_43 : decode cX12_fitsOne 43 = .ok (.iadd, 1) := by decide +kernel
theorem dX12_fitsOne_44 : decode cX12_fitsOne 44 = .ok (.iaload, 1) := by decide +kernel
theorem dX12_fitsOne_45 : decode cX12_fitsOne 45 = .ok (.aload_n 0, 1) := by decide +kernel
theorem dX12_fitsOne_46 : decode cX12_fitsOne 46 = .ok (.getfield 80, 3) := by decide +kernel
theorem dX12_fitsOne_49 : decode cX12_fitsOne 49 = .ok (.iconst 4, 1) := by decide +kernel
theorem dX12_fitsOne_50 : decode cX12_fitsOne 50 = .ok (.iload_n 3, 1) := by decide +kernel
theorem dX12_fitsOne_51 : decode cX12_fitsOne 51 = .ok (.imul, 1) := by decide +kernel
theorem dX12_fitsOne_52 : decode cX12_fitsOne 52 = .ok (.iconst 1, 1) := by decide +kernel
theorem dX12_fitsOne_53 : decode cX12_fitsOne 53 = .ok (.iadd, 1) := by decide +kernel
theorem dX12_fitsOne_54 : decode cX12_fitsOne 54 = .ok (.iaload, 1) := by decide +kernel
theorem dX12_fitsOne_55 : decode cX12_fitsOne 55 = .ok (.iconst 0, 1) := by decide +kernel
theorem dX12_fitsOne_56 : decode cX12_fitsOne 56 = .ok (.invokevirtual 316, 3) := by decide +kernel
theorem dX12_fitsOne_59 : decode cX12_fitsOne 59 = .ok (.aload_n 0, 1) := by decide +kernel
theorem dX12_fitsOne_60 : decode cX12_fitsOne 60 = .ok (.getfield 80, 3) := by decide +kernel
theorem dX12_fitsOne_63 : decode cX12_fitsOne 63 = .ok (.iconst 4, 1) := by decide +kernel
theorem dX12_fitsOne_64 : decode cX12_fitsOne 64 = .ok (.iload_n 3, 1) := by decide +kernel
theorem dX12_fitsOne_65 : decode cX12_fitsOne 65 = .ok (.imul, 1) := by decide +kernel
theorem dX12_fitsOne_66 : decode cX12_fitsOne 66 = .ok (.iconst 3, 1) := by decide +kernel
theorem dX12_fitsOne_67 : decode cX12_fitsOne 67 = .ok (.iadd, 1) := by decide +kernel
theorem dX12_fitsOne_68 : decode cX12_fitsOne 68 = .ok (.iaload, 1) := by decide +kernel
theorem dX12_fitsOne_69 : decode cX12_fitsOne 69 = .ok (.if_icmp .eq 5, 3) := by decide +kernel
theorem dX12_fitsOne_72 : decode cX12_fitsOne 72 = .ok (.iconst 0, 1) := by decide +kernel
theorem dX12_fitsOne_73 : decode cX12_fitsOne 73 = .ok (.ireturn, 1) := by decide +kernel
theorem dX12_fitsOne_74 : decode cX12_fitsOne 74 = .ok (.iinc 3 1, 3) := by decide +kernel
theorem dX12_fitsOne_77 : decode cX12_fitsOne 77 = .ok (.goto (-75), 3) := by decide +kernel
theorem dX12_fitsOne_80 : decode cX12_fitsOne 80 = .ok (.iconst 1, 1) := by decide +kernel
theorem dX12_fitsOne_81 : decode cX12_fitsOne 81 = .ok (.ireturn, 1) := by decide +kernel
theorem dX12_fits_0 : decode cX12_fits 0 = .ok (.aload_n 0, 1) := by decide +kernel
theorem dX12_fits_1 : decode cX12_fits 1 = .ok (.iconst 0, 1) := by decide +kernel
theorem dX12_fits_2 : decode cX12_fits 2 = .ok (.putfield 89, 3) := by decide +kernel
theorem dX12_fits_5 : decode cX12_fits 5 = .ok (.aload_n 0, 1) := by decide +kernel
theorem dX12_fits_6 : decode cX12_fits 6 = .ok (.iload_n 1, 1) := by decide +kernel
theorem dX12_fits_7 : decode cX12_fits 7 = .ok (.invokevirtual 322, 3) := by decide +kernel
theorem dX12_fits_10 : decode cX12_fits 10 = .ok (.ifCond .eq 8, 3) := by decide +kernel
theorem dX12_fits_13 : decode cX12_fits 13 = .ok (.iload_n 2, 1) := by decide +kernel
theorem dX12_fits_14 : decode cX12_fits 14 = .ok (.iconst (-1), 1) := by decide +kernel
theorem dX12_fits_15 : decode cX12_fits 15 = .ok (.if_icmp .ge 5, 3) := by decide +kernel
theorem dX12_fits_18 : decode cX12_fits 18 = .ok (.iconst (-1), 1) := by decide +kernel
theorem dX12_fits_19 : decode cX12_fits 19 = .ok (.ireturn, 1) := by decide +kernel
theorem dX12_fits_20 : decode cX12_fits 20 = .ok (.iconst 0, 1) := by decide +kernel
theorem dX12_fits_21 : decode cX12_fits 21 = .ok (.istore_n 3, 1) := by decide +kernel
theorem dX12_fits_22 : decode cX12_fits 22 = .ok (.iconst 0, 1) := by decide +kernel
theorem dX12_fits_23 : decode cX12_fits 23 = .ok (.istore 4, 2) := by decide +kernel
theorem dX12_fits_25 : decode cX12_fits 25 = .ok (.iload 4, 2) := by decide +kernel
theorem dX12_fits_27 : decode cX12_fits 27 = .ok (.bipush 10, 2) := by decide +kernel
theorem dX12_fits_29 : decode cX12_fits 29 = .ok (.aload_n 0, 1) := by decide +kernel
theorem dX12_fits_30 : decode cX12_fits 30 = .ok (.getfield 281, 3) := by decide +kernel
theorem dX12_fits_33 : decode cX12_fits 33 = .ok (.imul, 1) := by decide +kernel
theorem dX12_fits_34 : decode cX12_fits 34 = .ok (.if_icmp .ge 33, 3) := by decide +kernel
theorem dX12_fits_37 : decode cX12_fits 37 = .ok (.aload_n 0, 1) := by decide +kernel
theorem dX12_fits_38 : decode cX12_fits 38 = .ok (.iload_n 1, 1) := by decide +kernel
theorem dX12_fits_39 : decode cX12_fits 39 = .ok (.iload 4, 2) := by decide +kernel
theorem dX12_fits_41 : decode cX12_fits 41 = .ok (.invokevirtual 427, 3) := by decide +kernel
theorem dX12_fits_44 : decode cX12_fits 44 = .ok (.ifCond .ne 6, 3) := by decide +kernel
theorem dX12_fits_47 : decode cX12_fits 47 = .ok (.goto 14, 3) := by decide +kernel
theorem dX12_fits_50 : decode cX12_fits 50 = .ok (.iload_n 3, 1) := by decide +kernel
theorem dX12_fits_51 : decode cX12_fits 51 = .ok (.iload_n 2, 1) := by decide +kernel
theorem dX12_fits_52 : decode cX12_fits 52 = .ok (.if_icmp .ne 6, 3) := by decide +kernel
theorem dX12_fits_55 : decode cX12_fits 55 = .ok (.iload 4, 2) := by decide +kernel
theorem dX12_fits_57 : decode cX12_fits 57 = .ok (.ireturn, 1) := by decide +kernel
theorem dX12_fits_58 : decode cX12_fits 58 = .ok (.iinc 3 1, 3) := by decide +kernel
theorem dX12_fits_61 : decode cX12_fits 61 = .ok (.iinc 4 1, 3) := by decide +kernel
theorem dX12_fits_64 : decode cX12_fits 64 = .ok (.goto (-39), 3) := by decide +kernel
theorem dX12_fits_67 : decode cX12_fits 67 = .ok (.iload_n 2, 1) := by decide +kernel
theorem dX12_fits_68 : decode cX12_fits 68 = .ok (.iconst (-1), 1) := by decide +kernel
theorem dX12_fits_69 : decode cX12_fits 69 = .ok (.if_icmp .ne 7, 3) := by decide +kernel
theorem dX12_fits_72 : decode cX12_fits 72 = .ok (.iload_n 3, 1) := by decide +kernel
theorem dX12_fits_73 : decode cX12_fits 73 = .ok (.goto 4, 3) := by decide +kernel
theorem dX12_fits_76 : decode cX12_fits 76 = .ok (.iconst (-1), 1) := by decide +kernel
theorem dX12_fits_77 : decode cX12_fits 77 = .ok (.ireturn, 1) := by decide +kernel
theorem dX12_serve_0 : decode cX12_serve 0 = .ok (.aload_n 0, 1) := by decide +kernel
theorem dX12_serve_1 : decode cX12_serve 1 = .ok (.iconst 0, 1) := by decide +kernel
theorem dX12_serve_2 : decode cX12_serve 2 = .ok (.putfield 89, 3) := by decide +kernel
theorem dX12_serve_5 : decode cX12_serve 5 = .ok (.iload_n 2, 1) := by decide +kernel
theorem dX12_serve_6 : decode cX12_serve 6 = .ok (.i2l, 1) := by decide +kernel
theorem dX12_serve_7 : decode cX12_serve 7 = .ok (.lconst 0, 1) := by decide +kernel
theorem dX12_serve_8 : decode cX12_serve 8 = .ok (.ldc2_w 425, 3) := by decide +kernel
theorem dX12_serve_11 : decode cX12_serve 11 = .ok (.invokestatic 260, 3) := by decide +kernel
theorem dX12_serve_14 : decode cX12_serve 14 = .ok (.ifCond .eq 12, 3) := by decide +kernel
theorem dX12_serve_17 : decode cX12_serve 17 = .ok (.aload_n 0, 1) := by decide +kernel
theorem dX12_serve_18 : decode cX12_serve 18 = .ok (.iload_n 1, 1) := by decide +kernel
theorem dX12_serve_19 : decode cX12_serve 19 = .ok (.iconst (-1), 1) := by decide +kernel
theorem dX12_serve_20 : decode cX12_serve 20 = .ok (.invokevirtual 430, 3) := by decide +kernel
theorem dX12_serve_23 : decode cX12_serve 23 = .ok (.ifCond .gt 5, 3) := by decide +kernel
theorem dX12_serve_26 : decode cX12_serve 26 = .ok (.iconst (-1), 1) := by decide +kernel
theorem dX12_serve_27 : decode cX12_serve 27 = .ok (.ireturn, 1) := by decide +kernel
theorem dX12_serve_28 : decode cX12_serve 28 = .ok (.iconst (-1), 1) := by decide +kernel
theorem dX12_serve_29 : decode cX12_serve 29 = .ok (.istore_n 3, 1) := by decide +kernel
theorem dX12_serve_30 : decode cX12_serve 30 = .ok (.iconst 0, 1) := by decide +kernel
theorem dX12_serve_31 : decode cX12_serve 31 = .ok (.istore 4, 2) := by decide +kernel
theorem dX12_serve_33 : decode cX12_serve 33 = .ok (.iconst 0, 1) := by decide +kernel
theorem dX12_serve_34 : decode cX12_serve 34 = .ok (.istore 5, 2) := by decide +kernel
theorem dX12_serve_36 : decode cX12_serve 36 = .ok (.iload 5, 2) := by decide +kernel
theorem dX12_serve_38 : decode cX12_serve 38 = .ok (.aload_n 0, 1) := by decide +kernel
theorem dX12_serve_39 : decode cX12_serve 39 = .ok (.getfield 281, 3) := by decide +kernel
theorem dX12_serve_42 : decode cX12_serve 42 = .ok (.if_icmp .ge 143, 3) := by decide +kernel
theorem dX12_serve_45 : decode cX12_serve 45 = .ok (.iconst 0, 1) := by decide +kernel
theorem dX12_serve_46 : decode cX12_serve 46 = .ok (.istore 6, 2) := by decide +kernel
theorem dX12_serve_48 : decode cX12_serve 48 = .ok (.iload 6, 2) := by decide +kernel
theorem dX12_serve_50 : decode cX12_serve 50 = .ok (.bipush 6, 2) := by decide +kernel
theorem dX12_serve_52 : decode cX12_serve 52 = .ok (.if_icmp .gt 17, 3) := by decide +kernel
theorem dX12_serve_55 : decode cX12_serve 55 = .ok (.aload_n 0, 1) := by decide +kernel
theorem dX12_serve_56 : decode cX12_serve 56 = .ok (.getfield 83, 3) := by decide +kernel
theorem dX12_serve_59 : decode cX12_serve 59 = .ok (.iload 6, 2) := by decide +kernel
theorem dX12_serve_61 : decode cX12_serve 61 = .ok (.iconst 0, 1) := by decide +kernel
theorem dX12_serve_62 : decode cX12_serve 62 = .ok (.iastore, 1) := by decide +kernel
theorem dX12_serve_63 : decode cX12_serve 63 = .ok (.iinc 6 1, 3) := by decide +kernel
theorem dX12_serve_66 : decode cX12_serve 66 = .ok (.goto (-18), 3) := by decide +kernel
theorem dX12_serve_69 : decode cX12_serve 69 = .ok (.iconst 0, 1) := by decide +kernel
theorem dX12_serve_70 : decode cX12_serve 70 = .ok (.istore 6, 2) := by decide +kernel
theorem dX12_serve_72 : decode cX12_serve 72 = .ok (.iconst 0, 1) := by decide +kernel
theorem dX12_serve_73 : decode cX12_serve 73 = .ok (.istore 7, 2) := by decide +kernel
theorem dX12_serve_75 : decode cX12_serve 75 = .ok (.iload 7, 2) := by decide +kernel
theorem dX12_serve_77 : decode cX12_serve 77 = .ok (.bipush 10, 2) := by decide +kernel
theorem dX12_serve_79 : decode cX12_serve 79 = .ok (.aload_n 0, 1) := by decide +kernel
theorem dX12_serve_80 : decode cX12_serve 80 = .ok (.getfield 281, 3) := by decide +kernel
theorem dX12_serve_83 : decode cX12_serve 83 = .ok (.imul, 1) := by decide +kernel
theorem dX12_serve_84 : decode cX12_serve 84 = .ok (.if_icmp .ge 73, 3) := by decide +kernel
theorem dX12_serve_87 : decode cX12_serve 87 = .ok (.aload_n 0, 1) := by decide +kernel
theorem dX12_serve_88 : decode cX12_serve 88 = .ok (.iload_n 1, 1) := by decide +kernel
theorem dX12_serve_89 : decode cX12_serve 89 = .ok (.iload 7, 2) := by decide +kernel
theorem dX12_serve_91 : decode cX12_serve 91 = .ok (.invokevirtual 427, 3) := by decide +kernel
theorem dX12_serve_94 : decode cX12_serve 94 = .ok (.ifCond .ne 6, 3) := by decide +kernel
theorem dX12_serve_97 : decode cX12_serve 97 = .ok (.goto 54, 3) := by decide +kernel
theorem dX12_serve_100 : decode cX12_serve 100 = .ok (.aload_n 0, 1) := by decide +kernel
theorem dX12_serve_101 : decode cX12_serve 101 = .ok (.aload_n 0, 1) := by decide +kernel
theorem dX12_serve_102 : decode cX12_serve 102 = .ok (.getfield 61, 3) := by decide +kernel
theorem dX12_serve_105 : decode cX12_serve 105 = .ok (.iload 7, 2) := by decide +kernel
theorem dX12_serve_107 : decode cX12_serve 107 = .ok (.bipush 10, 2) := by decide +kernel
theorem dX12_serve_109 : decode cX12_serve 109 = .ok (.idiv, 1) := by decide +kernel
theorem dX12_serve_110 : decode cX12_serve 110 = .ok (.iload 7, 2) := by decide +kernel
theorem dX12_serve_112 : decode cX12_serve 112 = .ok (.bipush 10, 2) := by decide +kernel
theorem dX12_serve_114 : decode cX12_serve 114 = .ok (.irem, 1) := by decide +kernel
theorem dX12_serve_115 : decode cX12_serve 115 = .ok (.iload_n 2, 1) := by decide +kernel
theorem dX12_serve_116 : decode cX12_serve 116 = .ok (.iload 5, 2) := by decide +kernel
theorem dX12_serve_118 : decode cX12_serve 118 = .ok (.iconst 0, 1) := by decide +kernel
theorem dX12_serve_119 : decode cX12_serve 119 = .ok (.invokevirtual 316, 3) := by decide +kernel
theorem dX12_serve_122 : decode cX12_serve 122 = .ok (.iconst 1, 1) := by decide +kernel
theorem dX12_serve_123 : decode cX12_serve 123 = .ok (.iadd, 1) := by decide +kernel
theorem dX12_serve_124 : decode cX12_serve 124 = .ok (.istore 8, 2) := by decide +kernel
theorem dX12_serve_126 : decode cX12_serve 126 = .ok (.aload_n 0, 1) := by decide +kernel
theorem dX12_serve_127 : decode cX12_serve 127 = .ok (.getfield 83, 3) := by decide +kernel
theorem dX12_serve_130 : decode cX12_serve 130 = .ok (.iload 8, 2) := by decide +kernel
theorem dX12_serve_132 : decode cX12_serve 132 = .ok (.dup2, 1) := by decide +kernel
theorem dX12_serve_133 : decode cX12_serve 133 = .ok (.iaload, 1) := by decide +kernel
theorem dX12_serve_134 : decode cX12_serve 134 = .ok (.iconst 1, 1) := by decide +kernel
theorem dX12_serve_135 : decode cX12_serve 135 = .ok (.iadd, 1) := by decide +kernel
theorem dX12_serve_136 : decode cX12_serve 136 = .ok (.iastore, 1) := by decide +kernel
theorem dX12_serve_137 : decode cX12_serve 137 = .ok (.iload 6, 2) := by decide +kernel
theorem dX12_serve_139 : decode cX12_serve 139 = .ok (.aload_n 0, 1) := by decide +kernel
theorem dX12_serve_140 : decode cX12_serve 140 = .ok (.getfield 83, 3) := by decide +kernel
theorem dX12_serve_143 : decode cX12_serve 143 = .ok (.iload 8, 2) := by decide +kernel
theorem dX12_serve_145 : decode cX12_serve 145 = .ok (.iaload, 1) := by decide +kernel
theorem dX12_serve_146 : decode cX12_serve 146 = .ok (.invokestatic 301, 3) := by decide +kernel
theorem dX12_serve_149 : decode cX12_serve 149 = .ok (.istore 6, 2) := by decide +kernel
theorem dX12_serve_151 : decode cX12_serve 151 = .ok (.iinc 7 1, 3) := by decide +kernel
theorem dX12_serve_154 : decode cX12_serve 154 = .ok (.goto (-79), 3) := by decide +kernel
theorem dX12_serve_157 : decode cX12_serve 157 = .ok (.iload_n 3, 1) := by decide +kernel
theorem dX12_serve_158 : decode cX12_serve 158 = .ok (.iconst (-1), 1) := by decide +kernel
theorem dX12_serve_159 : decode cX12_serve 159 = .ok (.if_icmp .eq 13, 3) := by decide +kernel
theorem dX12_serve_162 : decode cX12_serve 162 = .ok (.iload 6, 2) := by decide +kernel
theorem dX12_serve_164 : decode cX12_serve 164 = .ok (.iload 4, 2) := by decide +kernel
theorem dX12_serve_166 : decode cX12_serve 166 = .ok (.if_icmp .lt 6, 3) := by decide +kernel
theorem dX12_serve_169 : decode cX12_serve 169 = .ok (.goto 10, 3) := by decide +kernel
theorem dX12_serve_172 : decode cX12_serve 172 = .ok (.iload 5, 2) := by decide +kernel
theorem dX12_serve_174 : decode cX12_serve 174 = .ok (.istore_n 3, 1) := by decide +kernel
theorem dX12_serve_175 : decode cX12_serve 175 = .ok (.iload 6, 2) := by decide +kernel
theorem dX12_serve_177 : decode cX12_serve 177 = .ok (.istore 4, 2) := by decide +kernel
theorem dX12_serve_179 : decode cX12_serve 179 = .ok (.iinc 5 1, 3) := by decide +kernel
theorem dX12_serve_182 : decode cX12_serve 182 = .ok (.goto (-146), 3) := by decide +kernel
theorem dX12_serve_185 : decode cX12_serve 185 = .ok (.iload_n 3, 1) := by decide +kernel
theorem dX12_serve_186 : decode cX12_serve 186 = .ok (.ireturn, 1) := by decide +kernel
theorem dX12_isGame_0 : decode cX12_isGame 0 = .ok (.aload_n 0, 1) := by decide +kernel
theorem dX12_isGame_1 : decode cX12_isGame 1 = .ok (.iload_n 1, 1) := by decide +kernel
theorem dX12_isGame_2 : decode cX12_isGame 2 = .ok (.invokevirtual 322, 3) := by decide +kernel
theorem dX12_isGame_5 : decode cX12_isGame 5 = .ok (.ifCond .eq 20, 3) := by decide +kernel
theorem dX12_isGame_8 : decode cX12_isGame 8 = .ok (.aload_n 0, 1) := by decide +kernel
theorem dX12_isGame_9 : decode cX12_isGame 9 = .ok (.iload_n 2, 1) := by decide +kernel
theorem dX12_isGame_10 : decode cX12_isGame 10 = .ok (.invokevirtual 322, 3) := by decide +kernel
theorem dX12_isGame_13 : decode cX12_isGame 13 = .ok (.ifCond .eq 12, 3) := by decide +kernel
theorem dX12_isGame_16 : decode cX12_isGame 16 = .ok (.iload_n 1, 1) := by decide +kernel
theorem dX12_isGame_17 : decode cX12_isGame 17 = .ok (.iload_n 2, 1) := by decide +kernel
theorem dX12_isGame_18 : decode cX12_isGame 18 = .ok (.if_icmp .eq 7, 3) := by decide +kernel
theorem dX12_isGame_21 : decode cX12_isGame 21 = .ok (.iconst 1, 1) := by decide +kernel
theorem dX12_isGame_22 : decode cX12_isGame 22 = .ok (.goto 4, 3) := by decide +kernel
theorem dX12_isGame_25 : decode cX12_isGame 25 = .ok (.iconst 0, 1) := by decide +kernel
theorem dX12_isGame_26 : decode cX12_isGame 26 = .ok (.ireturn, 1) := by decide +kernel
theorem dX12_gameOf_0 : decode cX12_gameOf 0 = .ok (.aload_n 0, 1) := by decide +kernel
theorem dX12_gameOf_1 : decode cX12_gameOf 1 = .ok (.aload_n 0, 1) := by decide +kernel
theorem dX12_gameOf_2 : decode cX12_gameOf 2 = .ok (.getfield 49, 3) := by decide +kernel
theorem dX12_gameOf_5 : decode cX12_gameOf 5 = .ok (.iconst 3, 1) := by decide +kernel
theorem dX12_gameOf_6 : decode cX12_gameOf 6 = .ok (.iload_n 1, 1) := by decide +kernel
theorem dX12_gameOf_7 : decode cX12_gameOf 7 = .ok (.imul, 1) := by decide +kernel
theorem dX12_gameOf_8 : decode cX12_gameOf 8 = .ok (.iaload, 1) := by decide +kernel
theorem dX12_gameOf_9 : decode cX12_gameOf 9 = .ok (.iload_n 3, 1) := by decide +kernel
theorem dX12_gameOf_10 : decode cX12_gameOf 10 = .ok (.invokevirtual 306, 3) := by decide +kernel
theorem dX12_gameOf_13 : decode cX12_gameOf 13 = .ok (.aload_n 0, 1) := by decide +kernel
theorem dX12_gameOf_14 : decode cX12_gameOf 14 = .ok (.getfield 61, 3) := by decide +kernel
theorem dX12_gameOf_17 : decode cX12_gameOf 17 = .ok (.bipush 18, 2) := by decide +kernel
theorem dX12_gameOf_19 : decode cX12_gameOf 19 = .ok (.iload_n 2, 1) := by decide +kernel
theorem dX12_gameOf_20 : decode cX12_gameOf 20 = .ok (.iadd, 1) := by decide +kernel
theorem dX12_gameOf_21 : decode cX12_gameOf 21 = .ok (.iaload, 1) := by decide +kernel
theorem dX12_gameOf_22 : decode cX12_gameOf 22 = .ok (.iconst 3, 1) := by decide +kernel
theorem dX12_gameOf_23 : decode cX12_gameOf 23 = .ok (.idiv, 1) := by decide +kernel
theorem dX12_gameOf_24 : decode cX12_gameOf 24 = .ok (.isub, 1) := by decide +kernel
theorem dX12_gameOf_25 : decode cX12_gameOf 25 = .ok (.ireturn, 1) := by decide +kernel
theorem dX12_game_0 : decode cX12_game 0 = .ok (.aload_n 0, 1) := by decide +kernel
theorem dX12_game_1 : decode cX12_game 1 = .ok (.iconst 0, 1) := by decide +kernel
theorem dX12_game_2 : decode cX12_game 2 = .ok (.putfield 89, 3) := by decide +kernel
theorem dX12_game_5 : decode cX12_game 5 = .ok (.aload_n 0, 1) := by decide +kernel
theorem dX12_game_6 : decode cX12_game 6 = .ok (.iload_n 1, 1) := by decide +kernel
theorem dX12_game_7 : decode cX12_game 7 = .ok (.iload_n 2, 1) := by decide +kernel
theorem dX12_game_8 : decode cX12_game 8 = .ok (.invokevirtual 433, 3) := by decide +kernel
theorem dX12_game_11 : decode cX12_game 11 = .ok (.ifCond .eq 31, 3) := by decide +kernel
theorem dX12_game_14 : decode cX12_game 14 = .ok (.aload_n 0, 1) := by decide +kernel
theorem dX12_game_15 : decode cX12_game 15 = .ok (.iload_n 3, 1) := by decide +kernel
theorem dX12_game_16 : decode cX12_game 16 = .ok (.invokevirtual 319, 3) := by decide +kernel
theorem dX12_game_19 : decode cX12_game 19 = .ok (.ifCond .eq 23, 3) := by decide +kernel
theorem dX12_game_22 : decode cX12_game 22 = .ok (.aload_n 0, 1) := by decide +kernel
theorem dX12_game_23 : decode cX12_game 23 = .ok (.iload 4, 2) := by decide +kernel
theorem dX12_game_25 : decode cX12_game 25 = .ok (.invokevirtual 319, 3) := by decide +kernel
theorem dX12_game_28 : decode cX12_game 28 = .ok (.ifCond .eq 14, 3) := by decide +kernel
theorem dX12_game_31 : decode cX12_game 31 = .ok (.iload 5, 2) := by decide +kernel
theorem dX12_game_33 : decode cX12_game 33 = .ok (.i2l, 1) := by decide +kernel
theorem dX12_game_34 : decode cX12_game 34 = .ok (.lconst 0, 1) := by decide +kernel
theorem dX12_game_35 : decode cX12_game 35 = .ok (.lconst 1, 1) := by decide +kernel
theorem dX12_game_36 : decode cX12_game 36 = .ok (.invokestatic 260, 3) := by decide +kernel
theorem dX12_game_39 : decode cX12_game 39 = .ok (.ifCond .ne 7, 3) := by decide +kernel
theorem dX12_game_42 : decode cX12_game 42 = .ok (.ldc_w 366, 3) := by decide +kernel
theorem dX12_game_45 : decode cX12_game 45 = .ok (.ireturn, 1) := by decide +kernel
theorem dX12_game_46 : decode cX12_game 46 = .ok (.iload 5, 2) := by decide +kernel
theorem dX12_game_48 : decode cX12_game 48 = .ok (.ifCond .ne 14, 3) := by decide +kernel
theorem dX12_game_51 : decode cX12_game 51 = .ok (.aload_n 0, 1) := by decide +kernel
theorem dX12_game_52 : decode cX12_game 52 = .ok (.iload_n 1, 1) := by decide +kernel
theorem dX12_game_53 : decode cX12_game 53 = .ok (.iload_n 3, 1) := by decide +kernel
theorem dX12_game_54 : decode cX12_game 54 = .ok (.iload 4, 2) := by decide +kernel
theorem dX12_game_56 : decode cX12_game 56 = .ok (.invokevirtual 436, 3) := by decide +kernel
theorem dX12_game_59 : decode cX12_game 59 = .ok (.goto 11, 3) := by decide +kernel
theorem dX12_game_62 : decode cX12_game 62 = .ok (.aload_n 0, 1) := by decide +kernel
theorem dX12_game_63 : decode cX12_game 63 = .ok (.iload_n 2, 1) := by decide +kernel
theorem dX12_game_64 : decode cX12_game 64 = .ok (.iload 4, 2) := by decide +kernel
theorem dX12_game_66 : decode cX12_game 66 = .ok (.iload_n 3, 1) := by decide +kernel
theorem dX12_game_67 : decode cX12_game 67 = .ok (.invokevirtual 436, 3) := by decide +kernel
theorem dX12_game_70 : decode cX12_game 70 = .ok (.ireturn, 1) := by decide +kernel
theorem dX12_rests_0 : decode cX12_rests 0 = .ok (.aload_n 0, 1) := by decide +kernel
theorem dX12_rests_1 : decode cX12_rests 1 = .ok (.iconst 0, 1) := by decide +kernel
theorem dX12_rests_2 : decode cX12_rests 2 = .ok (.putfield 89, 3) := by decide +kernel
theorem dX12_rests_5 : decode cX12_rests 5 = .ok (.aload_n 0, 1) := by decide +kernel
theorem dX12_rests_6 : decode cX12_rests 6 = .ok (.iload_n 1, 1) := by decide +kernel
theorem dX12_rests_7 : decode cX12_rests 7 = .ok (.iload_n 2, 1) := by decide +kernel
theorem dX12_rests_8 : decode cX12_rests 8 = .ok (.invokevirtual 433, 3) := by decide +kernel
theorem dX12_rests_11 : decode cX12_rests 11 = .ok (.ifCond .eq 8, 3) := by decide +kernel
theorem dX12_rests_14 : decode cX12_rests 14 = .ok (.iload_n 3, 1) := by decide +kernel
theorem dX12_rests_15 : decode cX12_rests 15 = .ok (.iconst (-1), 1) := by decide +kernel
theorem dX12_rests_16 : decode cX12_rests 16 = .ok (.if_icmp .ge 5, 3) := by decide +kernel
theorem dX12_rests_19 : decode cX12_rests 19 = .ok (.iconst (-1), 1) := by decide +kernel
theorem dX12_rests_20 : decode cX12_rests 20 = .ok (.ireturn, 1) := by decide +kernel
theorem dX12_rests_21 : decode cX12_rests 21 = .ok (.iconst 0, 1) := by decide +kernel
theorem dX12_rests_22 : decode cX12_rests 22 = .ok (.istore 4, 2) := by decide +kernel
theorem dX12_rests_24 : decode cX12_rests 24 = .ok (.iconst 0, 1) := by decide +kernel
theorem dX12_rests_25 : decode cX12_rests 25 = .ok (.istore 5, 2) := by decide +kernel
theorem dX12_rests_27 : decode cX12_rests 27 = .ok (.iload 5, 2) := by decide +kernel
theorem dX12_rests_29 : decode cX12_rests 29 = .ok (.aload_n 0, 1) := by decide +kernel
theorem dX12_rests_30 : decode cX12_rests 30 = .ok (.getfield 281, 3) := by decide +kernel
theorem dX12_rests_33 : decode cX12_rests 33 = .ok (.if_icmp .ge 128, 3) := by decide +kernel
theorem dX12_rests_36 : decode cX12_rests 36 = .ok (.iconst 0, 1) := by decide +kernel
theorem dX12_rests_37 : decode cX12_rests 37 = .ok (.istore 6, 2) := by decide +kernel
theorem dX12_rests_39 : decode cX12_rests 39 = .ok (.iload 6, 2) := by decide +kernel
theorem dX12_rests_41 : decode cX12_rests 41 = .ok (.aload_n 0, 1) := by decide +kernel
theorem dX12_rests_42 : decode cX12_rests 42 = .ok (.getfield 281, 3) := by decide +kernel
theorem dX12_rests_45 : decode cX12_rests 45 = .ok (.if_icmp .ge 110, 3) := by decide +kernel
theorem dX12_rests_48 : decode cX12_rests 48 = .ok (.iconst 1, 1) := by decide +kernel
theorem dX12_rests_49 : decode cX12_rests 49 = .ok (.istore 7, 2) := by decide +kernel
theorem dX12_rests_51 : decode cX12_rests 51 = .ok (.iconst 0, 1) := by decide +kernel
theorem dX12_rests_52 : decode cX12_rests 52 = .ok (.istore 8, 2) := by decide +kernel
theorem dX12_rests_54 : decode cX12_rests 54 = .ok (.iload 8, 2) := by decide +kernel
theorem dX12_rests_56 : decode cX12_rests 56 = .ok (.aload_n 0, 1) := by decide +kernel
theorem dX12_rests_57 : decode cX12_rests 57 = .ok (.getfield 281, 3) := by decide +kernel
theorem dX12_rests_60 : decode cX12_rests 60 = .ok (.if_icmp .ge 63, 3) := by decide +kernel
theorem dX12_rests_63 : decode cX12_rests 63 = .ok (.iload 7, 2) := by decide +kernel
theorem dX12_rests_65 : decode cX12_rests 65 = .ok (.ifCond .eq 49, 3) := by decide +kernel
theorem dX12_rests_68 : decode cX12_rests 68 = .ok (.aload_n 0, 1) := by decide +kernel
theorem dX12_rests_69 : decode cX12_rests 69 = .ok (.iload_n 1, 1) := by decide +kernel
theorem dX12_rests_70 : decode cX12_rests 70 = .ok (.iload 8, 2) := by decide +kernel
theorem dX12_rests_72 : decode cX12_rests 72 = .ok (.iload 6, 2) := by decide +kernel
theorem dX12_rests_74 : decode cX12_rests 74 = .ok (.invokevirtual 436, 3) := by decide +kernel
theorem dX12_rests_77 : decode cX12_rests 77 = .ok (.aload_n 0, 1) := by decide +kernel
theorem dX12_rests_78 : decode cX12_rests 78 = .ok (.iload_n 1, 1) := by decide +kernel
theorem dX12_rests_79 : decode cX12_rests 79 = .ok (.iload 5, 2) := by decide +kernel
theorem dX12_rests_81 : decode cX12_rests 81 = .ok (.iload 6, 2) := by decide +kernel
theorem dX12_rests_83 : decode cX12_rests 83 = .ok (.invokevirtual 436, 3) := by decide +kernel
theorem dX12_rests_86 : decode cX12_rests 86 = .ok (.if_icmp .gt 28, 3) := by decide +kernel
theorem dX12_rests_89 : decode cX12_rests 89 = .ok (.aload_n 0, 1) := by decide +kernel
theorem dX12_rests_90 : decode cX12_rests 90 = .ok (.iload_n 2, 1) := by decide +kernel
theorem dX12_rests_91 : decode cX12_rests 91 = .ok (.iload 8, 2) := by decide +kernel
theorem dX12_rests_93 : decode cX12_rests 93 = .ok (.iload 5, 2) := by decide +kernel
theorem dX12_rests_95 : decode cX12_rests 95 = .ok (.invokevirtual 436, 3) := by decide +kernel
theorem dX12_rests_98 : decode cX12_rests 98 = .ok (.aload_n 0, 1) := by decide +kernel
theorem dX12_rests_99 : decode cX12_rests 99 = .ok (.iload_n 2, 1) := by decide +kernel
theorem dX12_rests_100 : decode cX12_rests 100 = .ok (.iload 6, 2) := by decide +kernel
theorem dX12_rests_102 : decode cX12_rests 102 = .ok (.iload 5, 2) := by decide +kernel
theorem dX12_rests_104 : decode cX12_rests 104 = .ok (.invokevirtual 436, 3) := by decide +kernel
theorem dX12_rests_107 : decode cX12_rests 107 = .ok (.if_icmp .gt 7, 3) := by decide +kernel
theorem dX12_rests_110 : decode cX12_rests 110 = .ok (.iconst 1, 1) := by decide +kernel
theorem dX12_rests_111 : decode cX12_rests 111 = .ok (.goto 4, 3) := by decide +kernel
theorem dX12_rests_114 : decode cX12_rests 114 = .ok (.iconst 0, 1) := by decide +kernel
theorem dX12_rests_115 : decode cX12_rests 115 = .ok (.istore 7, 2) := by decide +kernel
theorem dX12_rests_117 : decode cX12_rests 117 = .ok (.iinc 8 1, 3) := by decide +kernel
theorem dX12_rests_120 : decode cX12_rests 120 = .ok (.goto (-66), 3) := by decide +kernel
theorem dX12_rests_123 : decode cX12_rests 123 = .ok (.iload 7, 2) := by decide +kernel
theorem dX12_rests_125 : decode cX12_rests 125 = .ok (.ifCond .ne 6, 3) := by decide +kernel
theorem dX12_rests_128 : decode cX12_rests 128 = .ok (.goto 21, 3) := by decide +kernel
theorem dX12_rests_131 : decode cX12_rests 131 = .ok (.iload 4, 2) := by decide +kernel
theorem dX12_rests_133 : decode cX12_rests 133 = .ok (.iload_n 3, 1) := by decide +kernel
theorem dX12_rests_134 : decode cX12_rests 134 = .ok (.if_icmp .ne 12, 3) := by decide +kernel
theorem dX12_rests_137 : decode cX12_rests 137 = .ok (.bipush 10, 2) := by decide +kernel
theorem dX12_rests_139 : decode cX12_rests 139 = .ok (.iload 5, 2) := by decide +kernel
theorem dX12_rests_141 : decode cX12_rests 141 = .ok (.imul, 1) := by decide +kernel
theorem dX12_rests_142 : decode cX12_rests 142 = .ok (.iload 6, 2) := by decide +kernel
theorem dX12_rests_144 : decode cX12_rests 144 = .ok (.iadd, 1) := by decide +kernel
theorem dX12_rests_145 : decode cX12_rests 145 = .ok (.ireturn, 1) := by decide +kernel
theorem dX12_rests_146 : decode cX12_rests 146 = .ok (.iinc 4 1, 3) := by decide +kernel
theorem dX12_rests_149 : decode cX12_rests 149 = .ok (.iinc 6 1, 3) := by decide +kernel
theorem dX12_rests_152 : decode cX12_rests 152 = .ok (.goto (-113), 3) := by decide +kernel
theorem dX12_rests_155 : decode cX12_rests 155 = .ok (.iinc 5 1, 3) := by decide +kernel
theorem dX12_rests_158 : decode cX12_rests 158 = .ok (.goto (-131), 3) := by decide +kernel
theorem dX12_rests_161 : decode cX12_rests 161 = .ok (.iload_n 3, 1) := by decide +kernel
theorem dX12_rests_162 : decode cX12_rests 162 = .ok (.iconst (-1), 1) := by decide +kernel
theorem dX12_rests_163 : decode cX12_rests 163 = .ok (.if_icmp .ne 8, 3) := by decide +kernel
theorem dX12_rests_166 : decode cX12_rests 166 = .ok (.iload 4, 2) := by decide +kernel
theorem dX12_rests_168 : decode cX12_rests 168 = .ok (.goto 4, 3) := by decide +kernel
theorem dX12_rests_171 : decode cX12_rests 171 = .ok (.iconst (-1), 1) := by decide +kernel
theorem dX12_rests_172 : decode cX12_rests 172 = .ok (.ireturn, 1) := by decide +kernel
theorem dX12_goDealt_0 : decode cX12_goDealt 0 = .ok (.iload_n 1, 1) := by decide +kernel
theorem dX12_goDealt_1 : decode cX12_goDealt 1 = .ok (.aload_n 0, 1) := by decide +kernel
theorem dX12_goDealt_2 : decode cX12_goDealt 2 = .ok (.getfield 284, 3) := by decide +kernel
theorem dX12_goDealt_5 : decode cX12_goDealt 5 = .ok (.if_icmp .ne 24, 3) := by decide +kernel
theorem dX12_goDealt_8 : decode cX12_goDealt 8 = .ok (.iload_n 3, 1) := by decide +kernel
theorem dX12_goDealt_9 : decode cX12_goDealt 9 = .ok (.aload_n 0, 1) := by decide +kernel
theorem dX12_goDealt_10 : decode cX12_goDealt 10 = .ok (.getfield 389, 3) := by decide +kernel
theorem dX12_goDealt_13 : decode cX12_goDealt 13 = .ok (.if_icmp .gt 4, 3) := by decide +kernel
theorem dX12_goDealt_16 : decode cX12_goDealt 16 = .ok (.return_, 1) := by decide +kernel
theorem dX12_goDealt_17 : decode cX12_goDealt 17 = .ok (.aload_n 0, 1) := by decide +kernel
theorem dX12_goDealt_18 : decode cX12_goDealt 18 = .ok (.iload_n 3, 1) := by decide +kernel
theorem dX12_goDealt_19 : decode cX12_goDealt 19 = .ok (.putfield 389, 3) := by decide +kernel
theorem dX12_goDealt_22 : decode cX12_goDealt 22 = .ok (.aload_n 0, 1) := by decide +kernel
theorem dX12_goDealt_23 : decode cX12_goDealt 23 = .ok (.iload 4, 2) := by decide +kernel
theorem dX12_goDealt_25 : decode cX12_goDealt 25 = .ok (.putfield 392, 3) := by decide +kernel
theorem dX12_goDealt_28 : decode cX12_goDealt 28 = .ok (.return_, 1) := by decide +kernel
theorem dX12_goDealt_29 : decode cX12_goDealt 29 = .ok (.iconst 0, 1) := by decide +kernel
theorem dX12_goDealt_30 : decode cX12_goDealt 30 = .ok (.istore 5, 2) := by decide +kernel
theorem dX12_goDealt_32 : decode cX12_goDealt 32 = .ok (.iload 5, 2) := by decide +kernel
theorem dX12_goDealt_34 : decode cX12_goDealt 34 = .ok (.aload_n 0, 1) := by decide +kernel
theorem dX12_goDealt_35 : decode cX12_goDealt 35 = .ok (.getfield 281, 3) := by decide +kernel
theorem dX12_goDealt_38 : decode cX12_goDealt 38 = .ok (.if_icmp .ge 55, 3) := by decide +kernel
theorem dX12_goDealt_41 : decode cX12_goDealt 41 = .ok (.iload_n 2, 1) := by decide +kernel
theorem dX12_goDealt_42 : decode cX12_goDealt 42 = .ok (.iload 5, 2) := by decide +kernel
theorem dX12_goDealt_44 : decode cX12_goDealt 44 = .ok (.invokestatic 218, 3) := by decide +kernel
theorem dX12_goDealt_47 : decode cX12_goDealt 47 = .ok (.ifCond .ne 40, 3) := by decide +kernel
theorem dX12_goDealt_50 : decode cX12_goDealt 50 = .ok (.aload_n 0, 1) := by decide +kernel
theorem dX12_goDealt_51 : decode cX12_goDealt 51 = .ok (.iload_n 1, 1) := by decide +kernel
theorem dX12_goDealt_52 : decode cX12_goDealt 52 = .ok (.iconst 1, 1) := by decide +kernel
theorem dX12_goDealt_53 : decode cX12_goDealt 53 = .ok (.iadd, 1) := by decide +kernel
theorem dX12_goDealt_54 : decode cX12_goDealt 54 = .ok (.iload_n 2, 1) := by decide +kernel
theorem dX12_goDealt_55 : decode cX12_goDealt 55 = .ok (.iconst 1, 1) := by decide +kernel
theorem dX12_goDealt_56 : decode cX12_goDealt 56 = .ok (.iload 5, 2) := by decide +kernel
theorem dX12_goDealt_58 : decode cX12_goDealt 58 = .ok (.ishl, 1) := by decide +kernel
theorem dX12_goDealt_59 : decode cX12_goDealt 59 = .ok (.ior, 1) := by decide +kernel
theorem dX12_goDealt_60 : decode cX12_goDealt 60 = .ok (.iload_n 3, 1) := by decide +kernel
theorem dX12_goDealt_61 : decode cX12_goDealt 61 = .ok (.aload_n 0, 1) := by decide +kernel
theorem dX12_goDealt_62 : decode cX12_goDealt 62 = .ok (.aload_n 0, 1) := by decide +kernel
theorem dX12_goDealt_63 : decode cX12_goDealt 63 = .ok (.getfield 49, 3) := by decide +kernel
theorem dX12_goDealt_66 : decode cX12_goDealt 66 = .ok (.iconst 3, 1) := by decide +kernel
theorem dX12_goDealt_67 : decode cX12_goDealt 67 = .ok (.iload_n 1, 1) := by decide +kernel
theorem dX12_goDealt_68 : decode cX12_goDealt 68 = .ok (.imul, 1) := by decide +kernel
theorem dX12_goDealt_69 : decode cX12_goDealt 69 = .ok (.iaload, 1) := by decide +kernel
theorem dX12_goDealt_70 : decode cX12_goDealt 70 = .ok (.iload 5, 2) := by decide +kernel
theorem dX12_goDealt_72 : decode cX12_goDealt 72 = .ok (.invokevirtual 306, 3) := by decide +kernel
theorem dX12_goDealt_75 : decode cX12_goDealt 75 = .ok (.iadd, 1) := by decide +kernel
theorem dX12_goDealt_76 : decode cX12_goDealt 76 = .ok (.bipush 10, 2) := by decide +kernel
theorem dX12_goDealt_78 : decode cX12_goDealt 78 = .ok (.iload 4, 2) := by decide +kernel
theorem dX12_goDealt_80 : decode cX12_goDealt 80 = .ok (.imul, 1) := by decide +kernel
theorem dX12_goDealt_81 : decode cX12_goDealt 81 = .ok (.iload 5, 2) := by decide +kernel
theorem dX12_goDealt_83 : decode cX12_goDealt 83 = .ok (.iadd, 1) := by decide +kernel
theorem dX12_goDealt_84 : decode cX12_goDealt 84 = .ok (.invokevirtual 440, 3) := by decide +kernel
theorem dX12_goDealt_87 : decode cX12_goDealt 87 = .ok (.iinc 5 1, 3) := by decide +kernel
theorem dX12_goDealt_90 : decode cX12_goDealt 90 = .ok (.goto (-58), 3) := by decide +kernel
theorem dX12_goDealt_93 : decode cX12_goDealt 93 = .ok (.return_, 1) := by decide +kernel
theorem dX12_dealt_0 : decode cX12_dealt 0 = .ok (.aload_n 0, 1) := by decide +kernel
theorem dX12_dealt_1 : decode cX12_dealt 1 = .ok (.iconst 0, 1) := by decide +kernel
theorem dX12_dealt_2 : decode cX12_dealt 2 = .ok (.putfield 89, 3) := by decide +kernel
theorem dX12_dealt_5 : decode cX12_dealt 5 = .ok (.aload_n 0, 1) := by decide +kernel
theorem dX12_dealt_6 : decode cX12_dealt 6 = .ok (.getfield 284, 3) := by decide +kernel
theorem dX12_dealt_9 : decode cX12_dealt 9 = .ok (.ifCond .eq 13, 3) := by decide +kernel
theorem dX12_dealt_12 : decode cX12_dealt 12 = .ok (.iload_n 1, 1) := by decide +kernel
theorem dX12_dealt_13 : decode cX12_dealt 13 = .ok (.i2l, 1) := by decide +kernel
theorem dX12_dealt_14 : decode cX12_dealt 14 = .ok (.lconst 0, 1) := by decide +kernel
theorem dX12_dealt_15 : decode cX12_dealt 15 = .ok (.lconst 1, 1) := by decide +kernel
theorem dX12_dealt_16 : decode cX12_dealt 16 = .ok (.invokestatic 260, 3) := by decide +kernel
theorem dX12_dealt_19 : decode cX12_dealt 19 = .ok (.ifCond .ne 5, 3) := by decide +kernel
theorem dX12_dealt_22 : decode cX12_dealt 22 = .ok (.iconst (-1), 1) := by decide +kernel
theorem dX12_dealt_23 : decode cX12_dealt 23 = .ok (.ireturn, 1) := by decide +kernel
theorem dX12_dealt_24 : decode cX12_dealt 24 = .ok (.aload_n 0, 1) := by decide +kernel
theorem dX12_dealt_25 : decode cX12_dealt 25 = .ok (.iconst (-1), 1) := by decide +kernel
theorem dX12_dealt_26 : decode cX12_dealt 26 = .ok (.putfield 389, 3) := by decide +kernel
theorem dX12_dealt_29 : decode cX12_dealt 29 = .ok (.aload_n 0, 1) := by decide +kernel
theorem dX12_dealt_30 : decode cX12_dealt 30 = .ok (.iconst (-1), 1) := by decide +kernel
theorem dX12_dealt_31 : decode cX12_dealt 31 = .ok (.putfield 392, 3) := by decide +kernel
theorem dX12_dealt_34 : decode cX12_dealt 34 = .ok (.aload_n 0, 1) := by decide +kernel
theorem dX12_dealt_35 : decode cX12_dealt 35 = .ok (.iconst 0, 1) := by decide +kernel
theorem dX12_dealt_36 : decode cX12_dealt 36 = .ok (.iconst 0, 1) := by decide +kernel
theorem dX12_dealt_37 : decode cX12_dealt 37 = .ok (.iconst 0, 1) := by decide +kernel
theorem dX12_dealt_38 : decode cX12_dealt 38 = .ok (.iconst 0, 1) := by decide +kernel
theorem dX12_dealt_39 : decode cX12_dealt 39 = .ok (.invokevirtual 440, 3) := by decide +kernel
theorem dX12_dealt_42 : decode cX12_dealt 42 = .ok (.iload_n 1, 1) := by decide +kernel
theorem dX12_dealt_43 : decode cX12_dealt 43 = .ok (.ifCond .ne 10, 3) := by decide +kernel
theorem dX12_dealt_46 : decode cX12_dealt 46 = .ok (.aload_n 0, 1) := by decide +kernel
theorem dX12_dealt_47 : decode cX12_dealt 47 = .ok (.getfield 392, 3) := by decide +kernel
theorem dX12_dealt_50 : decode cX12_dealt 50 = .ok (.goto 7, 3) := by decide +kernel
theorem dX12_dealt_53 : decode cX12_dealt 53 = .ok (.aload_n 0, 1) := by decide +kernel
theorem dX12_dealt_54 : decode cX12_dealt 54 = .ok (.getfield 389, 3) := by decide +kernel
theorem dX12_dealt_57 : decode cX12_dealt 57 = .ok (.ireturn, 1) := by decide +kernel
theorem dX12_oddsFrom_0 : decode cX12_oddsFrom 0 = .ok (.iload_n 2, 1) := by decide +kernel
theorem dX12_oddsFrom_1 : decode cX12_oddsFrom 1 = .ok (.ifCond .ne 20, 3) := by decide +kernel
theorem dX12_oddsFrom_4 : decode cX12_oddsFrom 4 = .ok (.aload_n 0, 1) := by decide +kernel
theorem dX12_oddsFrom_5 : decode cX12_oddsFrom 5 = .ok (.getfield 64, 3) := by decide +kernel
theorem dX12_oddsFrom_8 : decode cX12_oddsFrom 8 = .ok (.bipush 24, 2) := by decide +kernel
theorem dX12_oddsFrom_10 : decode cX12_oddsFrom 10 = .ok (.iaload, 1) := by decide +kernel
theorem dX12_oddsFrom_11 : decode cX12_oddsFrom 11 = .ok (.iload_n 1, 1) := by decide +kernel
theorem dX12_oddsFrom_12 : decode cX12_oddsFrom 12 = .ok (.if_icmp .ne 7, 3) := by decide +kernel
theorem dX12_oddsFrom_15 : decode cX12_oddsFrom 15 = .ok (.iload_n 3, 1) := by decide +kernel
theorem dX12_oddsFrom_16 : decode cX12_oddsFrom 16 = .ok (.goto 4, 3) := by decide +kernel
theorem dX12_oddsFrom_19 : decode cX12_oddsFrom 19 = .ok (.iconst 0, 1) := by decide +kernel
theorem dX12_oddsFrom_20 : decode cX12_oddsFrom 20 = .ok (.ireturn, 1) := by decide +kernel
theorem dX12_oddsFrom_21 : decode cX12_oddsFrom 21 = .ok (.iconst 0, 1) := by decide +kernel
theorem dX12_oddsFrom_22 : decode cX12_oddsFrom 22 = .ok (.istore 4, 2) := by decide +kernel
theorem dX12_oddsFrom_24 : decode cX12_oddsFrom 24 = .ok (.iload 4, 2) := by decide +kernel
theorem dX12_oddsFrom_26 : decode cX12_oddsFrom 26 = .ok (.bipush 29, 2) := by decide +kernel
theorem dX12_oddsFrom_28 : decode cX12_oddsFrom 28 = .ok (.if_icmp .ge 28, 3) := by decide +kernel
theorem dX12_oddsFrom_31 : decode cX12_oddsFrom 31 = .ok (.aload_n 0, 1) := by decide +kernel
theorem dX12_oddsFrom_32 : decode cX12_oddsFrom 32 = .ok (.getfield 77, 3) := by decide +kernel
theorem dX12_oddsFrom_35 : decode cX12_oddsFrom 35 = .ok (.bipush 29, 2) := by decide +kernel
theorem dX12_oddsFrom_37 : decode cX12_oddsFrom 37 = .ok (.iload_n 2, 1) := by decide +kernel
theorem dX12_oddsFrom_38 : decode cX12_oddsFrom 38 = .ok (.imul, 1) := by decide +kernel
theorem dX12_oddsFrom_39 : decode cX12_oddsFrom 39 = .ok (.iload 4, 2) := by decide +kernel
theorem dX12_oddsFrom_41 : decode cX12_oddsFrom 41 = .ok (.iadd, 1) := by decide +kernel
theorem dX12_oddsFrom_42 : decode cX12_oddsFrom 42 = .ok (.aload_n 0, 1) := by decide +kernel
theorem dX12_oddsFrom_43 : decode cX12_oddsFrom 43 = .ok (.getfield 64, 3) := by decide +kernel
theorem dX12_oddsFrom_46 : decode cX12_oddsFrom 46 = .ok (.iload 4, 2) := by decide +kernel
theorem dX12_oddsFrom_48 : decode cX12_oddsFrom 48 = .ok (.iaload, 1) := by decide +kernel
theorem dX12_oddsFrom_49 : decode cX12_oddsFrom 49 = .ok (.iastore, 1) := by decide +kernel
theorem dX12_oddsFrom_50 : decode cX12_oddsFrom 50 = .ok (.iinc 4 1, 3) := by decide +kernel
theorem dX12_oddsFrom_53 : decode cX12_oddsFrom 53 = .ok (.goto (-29), 3) := by decide +kernel
theorem dX12_oddsFrom_56 : decode cX12_oddsFrom 56 = .ok (.iconst 0, 1) := by decide +kernel
theorem dX12_oddsFrom_57 : decode cX12_oddsFrom 57 = .ok (.istore 4, 2) := by decide +kernel
theorem dX12_oddsFrom_59 : decode cX12_oddsFrom 59 = .ok (.iconst 0, 1) := by decide +kernel
theorem dX12_oddsFrom_60 : decode cX12_oddsFrom 60 = .ok (.istore 5, 2) := by decide +kernel
theorem dX12_oddsFrom_62 : decode cX12_oddsFrom 62 = .ok (.iload 5, 2) := by decide +kernel
theorem dX12_oddsFrom_64 : decode cX12_oddsFrom 64 = .ok (.aload_n 0, 1) := by decide +kernel
theorem dX12_oddsFrom_65 : decode cX12_oddsFrom 65 = .ok (.getfield 284, 3) := by decide +kernel
theorem dX12_oddsFrom_68 : decode cX12_oddsFrom 68 = .ok (.if_icmp .ge 75, 3) := by decide +kernel
theorem dX12_oddsFrom_71 : decode cX12_oddsFrom 71 = .ok (.aload_n 0, 1) := by decide +kernel
theorem dX12_oddsFrom_72 : decode cX12_oddsFrom 72 = .ok (.aload_n 0, 1) := by decide +kernel
theorem dX12_oddsFrom_73 : decode cX12_oddsFrom 73 = .ok (.getfield 64, 3) := by decide +kernel
theorem dX12_oddsFrom_76 : decode cX12_oddsFrom 76 = .ok (.iload 5, 2) := by decide +kernel
theorem dX12_oddsFrom_78 : decode cX12_oddsFrom 78 = .ok (.invokevirtual 332, 3) := by decide +kernel
theorem dX12_oddsFrom_81 : decode cX12_oddsFrom 81 = .ok (.istore 6, 2) := by decide +kernel
theorem dX12_oddsFrom_83 : decode cX12_oddsFrom 83 = .ok (.iload 4, 2) := by decide +kernel
theorem dX12_oddsFrom_85 : decode cX12_oddsFrom 85 = .ok (.aload_n 0, 1) := by decide +kernel
theorem dX12_oddsFrom_86 : decode cX12_oddsFrom 86 = .ok (.iload_n 1, 1) := by decide +kernel
theorem dX12_oddsFrom_87 : decode cX12_oddsFrom 87 = .ok (.iload_n 2, 1) := by decide +kernel
theorem dX12_oddsFrom_88 : decode cX12_oddsFrom 88 = .ok (.iconst 1, 1) := by decide +kernel
theorem dX12_oddsFrom_89 : decode cX12_oddsFrom 89 = .ok (.isub, 1) := by decide +kernel
theorem dX12_oddsFrom_90 : decode cX12_oddsFrom 90 = .ok (.iload_n 3, 1) := by decide +kernel
theorem dX12_oddsFrom_91 : decode cX12_oddsFrom 91 = .ok (.aload_n 0, 1) := by decide +kernel
theorem dX12_oddsFrom_92 : decode cX12_oddsFrom 92 = .ok (.getfield 284, 3) := by decide +kernel
theorem dX12_oddsFrom_95 : decode cX12_oddsFrom 95 = .ok (.idiv, 1) := by decide +kernel
theorem dX12_oddsFrom_96 : decode cX12_oddsFrom 96 = .ok (.invokevirtual 443, 3) := by decide +kernel
theorem dX12_oddsFrom_99 : decode cX12_oddsFrom 99 = .ok (.iadd, 1) := by decide +kernel
theorem dX12_oddsFrom_100 : decode cX12_oddsFrom 100 = .ok (.istore 4, 2) := by decide +kernel
theorem dX12_oddsFrom_102 : decode cX12_oddsFrom 102 = .ok (.iconst 0, 1) := by decide +kernel
theorem dX12_oddsFrom_103 : decode cX12_oddsFrom 103 = .ok (.istore 7, 2) := by decide +kernel
theorem dX12_oddsFrom_105 : decode cX12_oddsFrom 105 = .ok (.iload 7, 2) := by decide +kernel
theorem dX12_oddsFrom_107 : decode cX12_oddsFrom 107 = .ok (.bipush 29, 2) := by decide +kernel
theorem dX12_oddsFrom_109 : decode cX12_oddsFrom 109 = .ok (.if_icmp .ge 28, 3) := by decide +kernel
theorem dX12_oddsFrom_112 : decode cX12_oddsFrom 112 = .ok (.aload_n 0, 1) := by decide +kernel
theorem dX12_oddsFrom_113 : decode cX12_oddsFrom 113 = .ok (.getfield 64, 3) := by decide +kernel
theorem dX12_oddsFrom_116 : decode cX12_oddsFrom 116 = .ok (.iload 7, 2) := by decide +kernel
theorem dX12_oddsFrom_118 : decode cX12_oddsFrom 118 = .ok (.aload_n 0, 1) := by decide +kernel
theorem dX12_oddsFrom_119 : decode cX12_oddsFrom 119 = .ok (.getfield 77, 3) := by decide +kernel
theorem dX12_oddsFrom_122 : decode cX12_oddsFrom 122 = .ok (.bipush 29, 2) := by decide +kernel
theorem dX12_oddsFrom_124 : decode cX12_oddsFrom 124 = .ok (.iload_n 2, 1) := by decide +kernel
theorem dX12_oddsFrom_125 : decode cX12_oddsFrom 125 = .ok (.imul, 1) := by decide +kernel
theorem dX12_oddsFrom_126 : decode cX12_oddsFrom 126 = .ok (.iload 7, 2) := by decide +kernel
theorem dX12_oddsFrom_128 : decode cX12_oddsFrom 128 = .ok (.iadd, 1) := by decide +kernel
theorem dX12_oddsFrom_129 : decode cX12_oddsFrom 129 = .ok (.iaload, 1) := by decide +kernel
theorem dX12_oddsFrom_130 : decode cX12_oddsFrom 130 = .ok (.iastore, 1) := by decide +kernel
theorem dX12_oddsFrom_131 : decode cX12_oddsFrom 131 = .ok (.iinc 7 1, 3) := by decide +kernel
theorem dX12_oddsFrom_134 : decode cX12_oddsFrom 134 = .ok (.goto (-29), 3) := by decide +kernel
theorem dX12_oddsFrom_137 : decode cX12_oddsFrom 137 = .ok (.iinc 5 1, 3) := by decide +kernel
theorem dX12_oddsFrom_140 : decode cX12_oddsFrom 140 = .ok (.goto (-78), 3) := by decide +kernel
theorem dX12_oddsFrom_143 : decode cX12_oddsFrom 143 = .ok (.iload 4, 2) := by decide +kernel
theorem dX12_oddsFrom_145 : decode cX12_oddsFrom 145 = .ok (.ireturn, 1) := by decide +kernel
theorem dX12_odds_0 : decode cX12_odds 0 = .ok (.aload_n 0, 1) := by decide +kernel
theorem dX12_odds_1 : decode cX12_odds 1 = .ok (.iconst 0, 1) := by decide +kernel
theorem dX12_odds_2 : decode cX12_odds 2 = .ok (.putfield 89, 3) := by decide +kernel
theorem dX12_odds_5 : decode cX12_odds 5 = .ok (.aload_n 0, 1) := by decide +kernel
theorem dX12_odds_6 : decode cX12_odds 6 = .ok (.iload_n 1, 1) := by decide +kernel
theorem dX12_odds_7 : decode cX12_odds 7 = .ok (.invokevirtual 319, 3) := by decide +kernel
theorem dX12_odds_10 : decode cX12_odds 10 = .ok (.ifCond .eq 15, 3) := by decide +kernel
theorem dX12_odds_13 : decode cX12_odds 13 = .ok (.iload_n 2, 1) := by decide +kernel
theorem dX12_odds_14 : decode cX12_odds 14 = .ok (.i2l, 1) := by decide +kernel
theorem dX12_odds_15 : decode cX12_odds 15 = .ok (.lconst 0, 1) := by decide +kernel
theorem dX12_odds_16 : decode cX12_odds 16 = .ok (.ldc2_w 419, 3) := by decide +kernel
theorem dX12_odds_19 : decode cX12_odds 19 = .ok (.invokestatic 260, 3) := by decide +kernel
theorem dX12_odds_22 : decode cX12_odds 22 = .ok (.ifCond .ne 5, 3) := by decide +kernel
theorem dX12_odds_25 : decode cX12_odds 25 = .ok (.iconst (-1), 1) := by decide +kernel
theorem dX12_odds_26 : decode cX12_odds 26 = .ok (.ireturn, 1) := by decide +kernel
theorem dX12_odds_27 : decode cX12_odds 27 = .ok (.aload_n 0, 1) := by decide +kernel
theorem dX12_odds_28 : decode cX12_odds 28 = .ok (.getfield 61, 3) := by decide +kernel
theorem dX12_odds_31 : decode cX12_odds 31 = .ok (.aload_n 0, 1) := by decide +kernel
theorem dX12_odds_32 : decode cX12_odds 32 = .ok (.getfield 64, 3) := by decide +kernel
theorem dX12_odds_35 : decode cX12_odds 35 = .ok (.invokestatic 379, 3) := by decide +kernel
theorem dX12_odds_38 : decode cX12_odds 38 = .ok (.aload_n 0, 1) := by decide +kernel
theorem dX12_odds_39 : decode cX12_odds 39 = .ok (.iload_n 1, 1) := by decide +kernel
theorem dX12_odds_40 : decode cX12_odds 40 = .ok (.iload_n 2, 1) := by decide +kernel
theorem dX12_odds_41 : decode cX12_odds 41 = .ok (.ldc_w 446, 3) := by decide +kernel
theorem dX12_odds_44 : decode cX12_odds 44 = .ok (.invokevirtual 443, 3) := by decide +kernel
theorem dX12_odds_47 : decode cX12_odds 47 = .ok (.ireturn, 1) := by decide +kernel
theorem dX12_makesNow_0 : decode cX12_makesNow 0 = .ok (.aload_n 0, 1) := by decide +kernel
theorem dX12_makesNow_1 : decode cX12_makesNow 1 = .ok (.aload_n 0, 1) := by decide +kernel
theorem dX12_makesNow_2 : decode cX12_makesNow 2 = .ok (.getfield 61, 3) := by decide +kernel
theorem dX12_makesNow_5 : decode cX12_makesNow 5 = .ok (.aload_n 0, 1) := by decide +kernel
theorem dX12_makesNow_6 : decode cX12_makesNow 6 = .ok (.getfield 49, 3) := by decide +kernel
theorem dX12_makesNow_9 : decode cX12_makesNow 9 = .ok (.iconst 3, 1) := by decide +kernel
theorem dX12_makesNow_10 : decode cX12_makesNow 10 = .ok (.iload_n 1, 1) := by decide +kernel
theorem dX12_makesNow_11 : decode cX12_makesNow 11 = .ok (.imul, 1) := by decide +kernel
theorem dX12_makesNow_12 : decode cX12_makesNow 12 = .ok (.iaload, 1) := by decide +kernel
theorem dX12_makesNow_13 : decode cX12_makesNow 13 = .ok (.aload_n 0, 1) := by decide +kernel
theorem dX12_makesNow_14 : decode cX12_makesNow 14 = .ok (.getfield 61, 3) := by decide +kernel
theorem dX12_makesNow_17 : decode cX12_makesNow 17 = .ok (.iconst 3, 1) := by decide +kernel
theorem dX12_makesNow_18 : decode cX12_makesNow 18 = .ok (.iload_n 1, 1) := by decide +kernel
theorem dX12_makesNow_19 : decode cX12_makesNow 19 = .ok (.imul, 1) := by decide +kernel
theorem dX12_makesNow_20 : decode cX12_makesNow 20 = .ok (.iconst 1, 1) := by decide +kernel
theorem dX12_makesNow_21 : decode cX12_makesNow 21 = .ok (.iadd, 1) := by decide +kernel
theorem dX12_makesNow_22 : decode cX12_makesNow 22 = .ok (.iaload, 1) := by decide +kernel
theorem dX12_makesNow_23 : decode cX12_makesNow 23 = .ok (.aload_n 0, 1) := by decide +kernel
theorem dX12_makesNow_24 : decode cX12_makesNow 24 = .ok (.getfield 61, 3) := by decide +kernel
theorem dX12_makesNow_27 : decode cX12_makesNow 27 = .ok (.iconst 3, 1) := by decide +kernel
theorem dX12_makesNow_28 : decode cX12_makesNow 28 = .ok (.iload_n 1, 1) := by decide +kernel
theorem dX12_makesNow_29 : decode cX12_makesNow 29 = .ok (.imul, 1) := by decide +kernel
theorem dX12_makesNow_30 : decode cX12_makesNow 30 = .ok (.iconst 0, 1) := by decide +kernel
theorem dX12_makesNow_31 : decode cX12_makesNow 31 = .ok (.iadd, 1) := by decide +kernel
theorem dX12_makesNow_32 : decode cX12_makesNow 32 = .ok (.iaload, 1) := by decide +kernel
theorem dX12_makesNow_33 : decode cX12_makesNow 33 = .ok (.iload_n 2, 1) := by decide +kernel
theorem dX12_makesNow_34 : decode cX12_makesNow 34 = .ok (.aload_n 0, 1) := by decide +kernel
theorem dX12_makesNow_35 : decode cX12_makesNow 35 = .ok (.getfield 61, 3) := by decide +kernel
theorem dX12_makesNow_38 : decode cX12_makesNow 38 = .ok (.bipush 27, 2) := by decide +kernel
theorem dX12_makesNow_40 : decode cX12_makesNow 40 = .ok (.iaload, 1) := by decide +kernel
theorem dX12_makesNow_41 : decode cX12_makesNow 41 = .ok (.invokevirtual 316, 3) := by decide +kernel
theorem dX12_makesNow_44 : decode cX12_makesNow 44 = .ok (.ireturn, 1) := by decide +kernel
theorem dX12_makes_0 : decode cX12_makes 0 = .ok (.aload_n 0, 1) := by decide +kernel
theorem dX12_makes_1 : decode cX12_makes 1 = .ok (.iconst 0, 1) := by decide +kernel
theorem dX12_makes_2 : decode cX12_makes 2 = .ok (.putfield 89, 3) := by decide +kernel
theorem dX12_makes_5 : decode cX12_makes 5 = .ok (.aload_n 0, 1) := by decide +kernel
theorem dX12_makes_6 : decode cX12_makes 6 = .ok (.iload_n 1, 1) := by decide +kernel
theorem dX12_makes_7 : decode cX12_makes 7 = .ok (.invokevirtual 322, 3) := by decide +kernel
theorem dX12_makes_10 : decode cX12_makes 10 = .ok (.ifCond .eq 20, 3) := by decide +kernel
theorem dX12_makes_13 : decode cX12_makes 13 = .ok (.aload_n 0, 1) := by decide +kernel
theorem dX12_makes_14 : decode cX12_makes 14 = .ok (.iload_n 2, 1) := by decide +kernel
theorem dX12_makes_15 : decode cX12_makes 15 = .ok (.invokevirtual 319, 3) := by decide +kernel
theorem dX12_makes_18 : decode cX12_makes 18 = .ok (.ifCond .eq 12, 3) := by decide +kernel
theorem dX12_makes_21 : decode cX12_makes 21 = .ok (.aload_n 0, 1) := by decide +kernel
theorem dX12_makes_22 : decode cX12_makes 22 = .ok (.iload_n 1, 1) := by decide +kernel
theorem dX12_makes_23 : decode cX12_makes 23 = .ok (.iload_n 2, 1) := by decide +kernel
theorem dX12_makes_24 : decode cX12_makes 24 = .ok (.invokevirtual 447, 3) := by decide +kernel
theorem dX12_makes_27 : decode cX12_makes 27 = .ok (.goto 6, 3) := by decide +kernel
theorem dX12_makes_30 : decode cX12_makes 30 = .ok (.ldc_w 366, 3) := by decide +kernel
theorem dX12_makes_33 : decode cX12_makes 33 = .ok (.ireturn, 1) := by decide +kernel
theorem dX12_glad_0 : decode cX12_glad 0 = .ok (.aload_n 0, 1) := by decide +kernel
theorem dX12_glad_1 : decode cX12_glad 1 = .ok (.iconst 0, 1) := by decide +kernel
theorem dX12_glad_2 : decode cX12_glad 2 = .ok (.putfield 89, 3) := by decide +kernel
theorem dX12_glad_5 : decode cX12_glad 5 = .ok (.aload_n 0, 1) := by decide +kernel
theorem dX12_glad_6 : decode cX12_glad 6 = .ok (.iload_n 1, 1) := by decide +kernel
theorem dX12_glad_7 : decode cX12_glad 7 = .ok (.invokevirtual 322, 3) := by decide +kernel
theorem dX12_glad_10 : decode cX12_glad 10 = .ok (.ifCond .eq 25, 3) := by decide +kernel
theorem dX12_glad_13 : decode cX12_glad 13 = .ok (.aload_n 0, 1) := by decide +kernel
theorem dX12_glad_14 : decode cX12_glad 14 = .ok (.aload_n 0, 1) := by decide +kernel
theorem dX12_glad_15 : decode cX12_glad 15 = .ok (.getfield 49, 3) := by decide +kernel
theorem dX12_glad_18 : decode cX12_glad 18 = .ok (.iconst 3, 1) := by decide +kernel
theorem dX12_glad_19 : decode cX12_glad 19 = .ok (.iload_n 1, 1) := by decide +kernel
theorem dX12_glad_20 : decode cX12_glad 20 = .ok (.imul, 1) := by decide +kernel
theorem dX12_glad_21 : decode cX12_glad 21 = .ok (.iaload, 1) := by decide +kernel
theorem dX12_glad_22 : decode cX12_glad 22 = .ok (.aload_n 0, 1) := by decide +kernel
theorem dX12_glad_23 : decode cX12_glad 23 = .ok (.getfield 61, 3) := by decide +kernel
theorem dX12_glad_26 : decode cX12_glad 26 = .ok (.bipush 24, 2) := by decide +kernel
theorem dX12_glad_28 : decode cX12_glad 28 = .ok (.iaload, 1) := by decide +kernel
theorem dX12_glad_29 : decode cX12_glad 29 = .ok (.invokevirtual 306, 3) := by decide +kernel
theorem dX12_glad_32 : decode cX12_glad 32 = .ok (.goto 4, 3) := by decide +kernel
theorem dX12_glad_35 : decode cX12_glad 35 = .ok (.iconst (-1), 1) := by decide +kernel
theorem dX12_glad_36 : decode cX12_glad 36 = .ok (.ireturn, 1) := by decide +kernel
theorem dX12_greatest_0 : decode cX12_greatest 0 = .ok (.iconst 0, 1) := by decide +kernel
theorem dX12_greatest_1 : decode cX12_greatest 1 = .ok (.istore_n 2, 1) := by decide +kernel
theorem dX12_greatest_2 : decode cX12_greatest 2 = .ok (.iconst 1, 1) := by decide +kernel
theorem dX12_greatest_3 : decode cX12_greatest 3 = .ok (.istore_n 3, 1) := by decide +kernel
theorem dX12_greatest_4 : decode cX12_greatest 4 = .ok (.iload_n 3, 1) := by decide +kernel
theorem dX12_greatest_5 : decode cX12_greatest 5 = .ok (.aload_n 0, 1) := by decide +kernel
theorem dX12_greatest_6 : decode cX12_greatest 6 = .ok (.getfield 284, 3) := by decide +kernel
theorem dX12_greatest_9 : decode cX12_greatest 9 = .ok (.if_icmp .ge 52, 3) := by decide +kernel
theorem dX12_greatest_12 : decode cX12_greatest 12 = .ok (.aload_n 0, 1) := by decide +kernel
theorem dX12_greatest_13 : decode cX12_greatest 13 = .ok (.getfield 61, 3) := by decide +kernel
theorem dX12_greatest_16 : decode cX12_greatest 16 = .ok (.iconst 3, 1) := by decide +kernel
theorem dX12_greatest_17 : decode cX12_greatest 17 = .ok (.iload_n 3, 1) := by decide +kernel
theorem dX12_greatest_18 : decode cX12_greatest 18 = .ok (.imul, 1) := by decide +kernel
theorem dX12_greatest_19 : decode cX12_greatest 19 = .ok (.iload_n 1, 1) := by decide +kernel
theorem dX12_greatest_20 : decode cX12_greatest 20 = .ok (.iadd, 1) := by decide +kernel
theorem dX12_greatest_21 : decode cX12_greatest 21 = .ok (.iaload, 1) := by decide +kernel
theorem dX12_greatest_22 : decode cX12_greatest 22 = .ok (.aload_n 0, 1) := by decide +kernel
theorem dX12_greatest_23 : decode cX12_greatest 23 = .ok (.getfield 61, 3) := by decide +kernel
theorem dX12_greatest_26 : decode cX12_greatest 26 = .ok (.iconst 3, 1) := by decide +kernel
theorem dX12_greatest_27 : decode cX12_greatest 27 = .ok (.iload_n 2, 1) := by decide +kernel
theorem dX12_greatest_28 : decode cX12_greatest 28 = .ok (.imul, 1) := by decide +kernel
theorem dX12_greatest_29 : decode cX12_greatest 29 = .ok (.iload_n 1, 1) := by decide +kernel
theorem dX12_greatest_30 : decode cX12_greatest 30 = .ok (.iadd, 1) := by decide +kernel
theorem dX12_greatest_31 : decode cX12_greatest 31 = .ok (.iaload, 1) := by decide +kernel
theorem dX12_greatest_32 : decode cX12_greatest 32 = .ok (.isub, 1) := by decide +kernel
theorem dX12_greatest_33 : decode cX12_greatest 33 = .ok (.istore 4, 2) := by decide +kernel
theorem dX12_greatest_35 : decode cX12_greatest 35 = .ok (.iload_n 1, 1) := by decide +kernel
theorem dX12_greatest_36 : decode cX12_greatest 36 = .ok (.iconst 1, 1) := by decide +kernel
theorem dX12_greatest_37 : decode cX12_greatest 37 = .ok (.if_icmp .ne 11, 3) := by decide +kernel
theorem dX12_greatest_40 : decode cX12_greatest 40 = .ok (.iload 4, 2) := by decide +kernel
theorem dX12_greatest_42 : decode cX12_greatest 42 = .ok (.ifCond .ge 13, 3) := by decide +kernel
theorem dX12_greatest_45 : decode cX12_greatest 45 = .ok (.goto 8, 3) := by decide +kernel
theorem dX12_greatest_48 : decode cX12_greatest 48 = .ok (.iload 4, 2) := by decide +kernel
theorem dX12_greatest_50 : decode cX12_greatest 50 = .ok (.ifCond .le 5, 3) := by decide +kernel
theorem dX12_greatest_53 : decode cX12_greatest 53 = .ok (.iload_n 3, 1) := by decide +kernel
theorem dX12_greatest_54 : decode cX12_greatest 54 = .ok (.istore_n 2, 1) := by decide +kernel
theorem dX12_greatest_55 : decode cX12_greatest 55 = .ok (.iinc 3 1, 3) := by decide +kernel
theorem dX12_greatest_58 : decode cX12_greatest 58 = .ok (.goto (-54), 3) := by decide +kernel
theorem dX12_greatest_61 : decode cX12_greatest 61 = .ok (.iload_n 2, 1) := by decide +kernel
theorem dX12_greatest_62 : decode cX12_greatest 62 = .ok (.ireturn, 1) := by decide +kernel
theorem dX12_lovers_0 : decode cX12_lovers 0 = .ok (.iconst 0, 1) := by decide +kernel
theorem dX12_lovers_1 : decode cX12_lovers 1 = .ok (.istore_n 2, 1) := by decide +kernel
theorem dX12_lovers_2 : decode cX12_lovers 2 = .ok (.iconst 0, 1) := by decide +kernel
theorem dX12_lovers_3 : decode cX12_lovers 3 = .ok (.istore_n 3, 1) := by decide +kernel
theorem dX12_lovers_4 : decode cX12_lovers 4 = .ok (.iload_n 3, 1) := by decide +kernel
theorem dX12_lovers_5 : decode cX12_lovers 5 = .ok (.aload_n 0, 1) := by decide +kernel
theorem dX12_lovers_6 : decode cX12_lovers 6 = .ok (.getfield 284, 3) := by decide +kernel
theorem dX12_lovers_9 : decode cX12_lovers 9 = .ok (.if_icmp .ge 29, 3) := by decide +kernel
theorem dX12_lovers_12 : decode cX12_lovers 12 = .ok (.iload_n 2, 1) := by decide +kernel
theorem dX12_lovers_13 : decode cX12_lovers 13 = .ok (.aload_n 0, 1) := by decide +kernel
theorem dX12_lovers_14 : decode cX12_lovers 14 = .ok (.getfield 49, 3) := by decide +kernel
theorem dX12_lovers_17 : decode cX12_lovers 17 = .ok (.iconst 3, 1) := by decide +kernel
theorem dX12_lovers_18 : decode cX12_lovers 18 = .ok (.iload_n 3, 1) := by decide +kernel
theorem dX12_lovers_19 : decode cX12_lovers 19 = .ok (.imul, 1) := by decide +kernel
theorem dX12_lovers_20 : decode cX12_lovers 20 = .ok (.iaload, 1) := by decide +kernel
theorem dX12_lovers_21 : decode cX12_lovers 21 = .ok (.iload_n 1, 1) := by decide +kernel
theorem dX12_lovers_22 : decode cX12_lovers 22 = .ok (.if_icmp .ne 7, 3) := by decide +kernel
theorem dX12_lovers_25 : decode cX12_lovers 25 = .ok (.iconst 1, 1) := by decide +kernel
theorem dX12_lovers_26 : decode cX12_lovers 26 = .ok (.goto 4, 3) := by decide +kernel
theorem dX12_lovers_29 : decode cX12_lovers 29 = .ok (.iconst 0, 1) := by decide +kernel
theorem dX12_lovers_30 : decode cX12_lovers 30 = .ok (.iadd, 1) := by decide +kernel
theorem dX12_lovers_31 : decode cX12_lovers 31 = .ok (.istore_n 2, 1) := by decide +kernel
theorem dX12_lovers_32 : decode cX12_lovers 32 = .ok (.iinc 3 1, 3) := by decide +kernel
theorem dX12_lovers_35 : decode cX12_lovers 35 = .ok (.goto (-31), 3) := by decide +kernel
theorem dX12_lovers_38 : decode cX12_lovers 38 = .ok (.iload_n 2, 1) := by decide +kernel
theorem dX12_lovers_39 : decode cX12_lovers 39 = .ok (.ireturn, 1) := by decide +kernel
theorem dX12_loved_0 : decode cX12_loved 0 = .ok (.iconst 0, 1) := by decide +kernel
theorem dX12_loved_1 : decode cX12_loved 1 = .ok (.istore_n 1, 1) := by decide +kernel
theorem dX12_loved_2 : decode cX12_loved 2 = .ok (.iconst 1, 1) := by decide +kernel
theorem dX12_loved_3 : decode cX12_loved 3 = .ok (.istore_n 2, 1) := by decide +kernel
theorem dX12_loved_4 : decode cX12_loved 4 = .ok (.iload_n 2, 1) := by decide +kernel
theorem dX12_loved_5 : decode cX12_loved 5 = .ok (.aload_n 0, 1) := by decide +kernel
theorem dX12_loved_6 : decode cX12_loved 6 = .ok (.getfield 281, 3) := by decide +kernel
theorem dX12_loved_9 : decode cX12_loved 9 = .ok (.if_icmp .ge 28, 3) := by decide +kernel
theorem dX12_loved_12 : decode cX12_loved 12 = .ok (.aload_n 0, 1) := by decide +kernel
theorem dX12_loved_13 : decode cX12_loved 13 = .ok (.iload_n 2, 1) := by decide +kernel
theorem dX12_loved_14 : decode cX12_loved 14 = .ok (.invokevirtual 450, 3) := by decide +kernel
theorem dX12_loved_17 : decode cX12_loved 17 = .ok (.aload_n 0, 1) := by decide +kernel
theorem dX12_loved_18 : decode cX12_loved 18 = .ok (.iload_n 1, 1) := by decide +kernel
theorem dX12_loved_19 : decode cX12_loved 19 = .ok (.invokevirtual 450, 3) := by decide +kernel
theorem dX12_loved_22 : decode cX12_loved 22 = .ok (.if_icmp .le 7, 3) := by decide +kernel
theorem dX12_loved_25 : decode cX12_loved 25 = .ok (.iload_n 2, 1) := by decide +kernel
theorem dX12_loved_26 : decode cX12_loved 26 = .ok (.goto 4, 3) := by decide +kernel
theorem dX12_loved_29 : decode cX12_loved 29 = .ok (.iload_n 1, 1) := by decide +kernel
theorem dX12_loved_30 : decode cX12_loved 30 = .ok (.istore_n 1, 1) := by decide +kernel
theorem dX12_loved_31 : decode cX12_loved 31 = .ok (.iinc 2 1, 3) := by decide +kernel
theorem dX12_loved_34 : decode cX12_loved 34 = .ok (.goto (-30), 3) := by decide +kernel
theorem dX12_loved_37 : decode cX12_loved 37 = .ok (.iload_n 1, 1) := by decide +kernel
theorem dX12_loved_38 : decode cX12_loved 38 = .ok (.ireturn, 1) := by decide +kernel
theorem dX12_middle_0 : decode cX12_middle 0 = .ok (.iconst 0, 1) := by decide +kernel
theorem dX12_middle_1 : decode cX12_middle 1 = .ok (.istore_n 1, 1) := by decide +kernel
theorem dX12_middle_2 : decode cX12_middle 2 = .ok (.iconst 0, 1) := by decide +kernel
theorem dX12_middle_3 : decode cX12_middle 3 = .ok (.istore_n 2, 1) := by decide +kernel
theorem dX12_middle_4 : decode cX12_middle 4 = .ok (.iload_n 2, 1) := by decide +kernel
theorem dX12_middle_5 : decode cX12_middle 5 = .ok (.aload_n 0, 1) := by decide +kernel
theorem dX12_middle_6 : decode cX12_middle 6 = .ok (.getfield 61, 3) := by decide +kernel
theorem dX12_middle_9 : decode cX12_middle 9 = .ok (.bipush 28, 2) := by decide +kernel
theorem dX12_middle_11 : decode cX12_middle 11 = .ok (.iaload, 1) := by decide +kernel
theorem dX12_middle_12 : decode cX12_middle 12 = .ok (.if_icmp .ge 22, 3) := by decide +kernel
theorem dX12_middle_15 : decode cX12_middle 15 = .ok (.iload_n 1, 1) := by decide +kernel
theorem dX12_middle_16 : decode cX12_middle 16 = .ok (.aload_n 0, 1) := by decide +kernel
theorem dX12_middle_17 : decode cX12_middle 17 = .ok (.aload_n 0, 1) := by decide +kernel
theorem dX12_middle_18 : decode cX12_middle 18 = .ok (.iload_n 2, 1) := by decide +kernel
theorem dX12_middle_19 : decode cX12_middle 19 = .ok (.iconst 1, 1) := by decide +kernel
theorem dX12_middle_20 : decode cX12_middle 20 = .ok (.invokevirtual 363, 3) := by decide +kernel
theorem dX12_middle_23 : decode cX12_middle 23 = .ok (.invokevirtual 296, 3) := by decide +kernel
theorem dX12_middle_26 : decode cX12_middle 26 = .ok (.iadd, 1) := by decide +kernel
theorem dX12_middle_27 : decode cX12_middle 27 = .ok (.istore_n 1, 1) := by decide +kernel
theorem dX12_middle_28 : decode cX12_middle 28 = .ok (.iinc 2 1, 3) := by decide +kernel
theorem dX12_middle_31 : decode cX12_middle 31 = .ok (.goto (-27), 3) := by decide +kernel
theorem dX12_middle_34 : decode cX12_middle 34 = .ok (.aload_n 0, 1) := by decide +kernel
theorem dX12_middle_35 : decode cX12_middle 35 = .ok (.getfield 61, 3) := by decide +kernel
theorem dX12_middle_38 : decode cX12_middle 38 = .ok (.bipush 28, 2) := by decide +kernel
theorem dX12_middle_40 : decode cX12_middle 40 = .ok (.iaload, 1) := by decide +kernel
theorem dX12_middle_41 : decode cX12_middle 41 = .ok (.ifCond .ne 7, 3) := by decide +kernel
theorem dX12_middle_44 : decode cX12_middle 44 = .ok (.iconst 0, 1) := by decide +kernel
theorem dX12_middle_45 : decode cX12_middle 45 = .ok (.goto 12, 3) := by decide +kernel
theorem dX12_middle_48 : decode cX12_middle 48 = .ok (.iload_n 1, 1) := by decide +kernel
theorem dX12_middle_49 : decode cX12_middle 49 = .ok (.aload_n 0, 1) := by decide +kernel
theorem dX12_middle_50 : decode cX12_middle 50 = .ok (.getfield 61, 3) := by decide +kernel
theorem dX12_middle_53 : decode cX12_middle 53 = .ok (.bipush 28, 2) := by decide +kernel
theorem dX12_middle_55 : decode cX12_middle 55 = .ok (.iaload, 1) := by decide +kernel
theorem dX12_middle_56 : decode cX12_middle 56 = .ok (.idiv, 1) := by decide +kernel
theorem dX12_middle_57 : decode cX12_middle 57 = .ok (.ireturn, 1) := by decide +kernel
theorem dX12_pagesOf_0 : decode cX12_pagesOf 0 = .ok (.iconst 0, 1) := by decide +kernel
theorem dX12_pagesOf_1 : decode cX12_pagesOf 1 = .ok (.istore_n 2, 1) := by decide +kernel
theorem dX12_pagesOf_2 : decode cX12_pagesOf 2 = .ok (.iconst 0, 1) := by decide +kernel
theorem dX12_pagesOf_3 : decode cX12_pagesOf 3 = .ok (.istore_n 3, 1) := by decide +kernel
theorem dX12_pagesOf_4 : decode cX12_pagesOf 4 = .ok (.iload_n 3, 1) := by decide +kernel
theorem dX12_pagesOf_5 : decode cX12_pagesOf 5 = .ok (.aload_n 0, 1) := by decide +kernel
theorem dX12_pagesOf_6 : decode cX12_pagesOf 6 = .ok (.getfield 61, 3) := by decide +kernel
theorem dX12_pagesOf_9 : decode cX12_pagesOf 9 = .ok (.bipush 28, 2) := by decide +kernel
theorem dX12_pagesOf_11 : decode cX12_pagesOf 11 = .ok (.iaload, 1) := by decide +kernel
theorem dX12_pagesOf_12 : decode cX12_pagesOf 12 = .ok (.if_icmp .ge 27, 3) := by decide +kernel
theorem dX12_pagesOf_15 : decode cX12_pagesOf 15 = .ok (.iload_n 2, 1) := by decide +kernel
theorem dX12_pagesOf_16 : decode cX12_pagesOf 16 = .ok (.aload_n 0, 1) := by decide +kernel
theorem dX12_pagesOf_17 : decode cX12_pagesOf 17 = .ok (.iload_n 3, 1) := by decide +kernel
theorem dX12_pagesOf_18 : decode cX12_pagesOf 18 = .ok (.iconst 2, 1) := by decide +kernel
theorem dX12_pagesOf_19 : decode cX12_pagesOf 19 = .ok (.invokevirtual 363, 3) := by decide +kernel
theorem dX12_pagesOf_22 : decode cX12_pagesOf 22 = .ok (.iload_n 1, 1) := by decide +kernel
theorem dX12_pagesOf_23 : decode cX12_pagesOf 23 = .ok (.if_icmp .ne 7, 3) := by decide +kernel
theorem dX12_pagesOf_26 : decode cX12_pagesOf 26 = .ok (.iconst 1, 1) := by decide +kernel
theorem dX12_pagesOf_27 : decode cX12_pagesOf 27 = .ok (.goto 4, 3) := by decide +kernel
theorem dX12_pagesOf_30 : decode cX12_pagesOf 30 = .ok (.iconst 0, 1) := by decide +kernel
theorem dX12_pagesOf_31 : decode cX12_pagesOf 31 = .ok (.iadd, 1) := by decide +kernel
theorem dX12_pagesOf_32 : decode cX12_pagesOf 32 = .ok (.istore_n 2, 1) := by decide +kernel
theorem dX12_pagesOf_33 : decode cX12_pagesOf 33 = .ok (.iinc 3 1, 3) := by decide +kernel
theorem dX12_pagesOf_36 : decode cX12_pagesOf 36 = .ok (.goto (-32), 3) := by decide +kernel
theorem dX12_pagesOf_39 : decode cX12_pagesOf 39 = .ok (.iload_n 2, 1) := by decide +kernel
theorem dX12_pagesOf_40 : decode cX12_pagesOf 40 = .ok (.ireturn, 1) := by decide +kernel
theorem dX12_poorest_0 : decode cX12_poorest 0 = .ok (.aload_n 0, 1) := by decide +kernel
theorem dX12_poorest_1 : decode cX12_poorest 1 = .ok (.getfield 61, 3) := by decide +kernel
theorem dX12_poorest_4 : decode cX12_poorest 4 = .ok (.bipush 18, 2) := by decide +kernel
theorem dX12_poorest_6 : decode cX12_poorest 6 = .ok (.iaload, 1) := by decide +kernel
theorem dX12_poorest_7 : decode cX12_poorest 7 = .ok (.istore_n 1, 1) := by decide +kernel
theorem dX12_poorest_8 : decode cX12_poorest 8 = .ok (.iconst 1, 1) := by decide +kernel
theorem dX12_poorest_9 : decode cX12_poorest 9 = .ok (.istore_n 2, 1) := by decide +kernel
theorem dX12_poorest_10 : decode cX12_poorest 10 = .ok (.iload_n 2, 1) := by decide +kernel
theorem dX12_poorest_11 : decode cX12_poorest 11 = .ok (.aload_n 0, 1) := by decide +kernel
theorem dX12_poorest_12 : decode cX12_poorest 12 = .ok (.getfield 281, 3) := by decide +kernel
theorem dX12_poorest_15 : decode cX12_poorest 15 = .ok (.if_icmp .ge 23, 3) := by decide +kernel
theorem dX12_poorest_18 : decode cX12_poorest 18 = .ok (.iload_n 1, 1) := by decide +kernel
theorem dX12_poorest_19 : decode cX12_poorest 19 = .ok (.aload_n 0, 1) := by decide +kernel
theorem dX12_poorest_20 : decode cX12_poorest 20 = .ok (.getfield 61, 3) := by decide +kernel
theorem dX12_poorest_23 : decode cX12_poorest 23 = .ok (.bipush 18, 2) := by decide +kernel
theorem dX12_poorest_25 : decode cX12_poorest 25 = .ok (.iload_n 2, 1) := by decide +kernel
theorem dX12_poorest_26 : decode cX12_poorest 26 = .ok (.iadd, 1) := by decide +kernel
theorem dX12_poorest_27 : decode cX12_poorest 27 = .ok (.iaload, 1) := by decide +kernel
theorem dX12_poorest_28 : decode cX12_poorest 28 = .ok (.invokestatic 299, 3) := by decide +kernel
theorem dX12_poorest_31 : decode cX12_poorest 31 = .ok (.istore_n 1, 1) := by decide +kernel
theorem dX12_poorest_32 : decode cX12_poorest 32 = .ok (.iinc 2 1, 3) := by decide +kernel
theorem dX12_poorest_35 : decode cX12_poorest 35 = .ok (.goto (-25), 3) := by decide +kernel
theorem dX12_poorest_38 : decode cX12_poorest 38 = .ok (.iload_n 1, 1) := by decide +kernel
theorem dX12_poorest_39 : decode cX12_poorest 39 = .ok (.ireturn, 1) := by decide +kernel
theorem dX12_noble_0 : decode cX12_noble 0 = .ok (.iconst 0, 1) := by decide +kernel
theorem dX12_noble_1 : decode cX12_noble 1 = .ok (.istore_n 1, 1) := by decide +kernel
theorem dX12_noble_2 : decode cX12_noble 2 = .ok (.iconst 0, 1) := by decide +kernel
theorem dX12_noble_3 : decode cX12_noble 3 = .ok (.istore_n 2, 1) := by decide +kernel
theorem dX12_noble_4 : decode cX12_noble 4 = .ok (.iload_n 2, 1) := by decide +kernel
theorem dX12_noble_5 : decode cX12_noble 5 = .ok (.aload_n 0, 1) := by decide +kernel
theorem dX12_noble_6 : decode cX12_noble 6 = .ok (.getfield 284, 3) := by decide +kernel
theorem dX12_noble_9 : decode cX12_noble 9 = .ok (.if_icmp .ge 56, 3) := by decide +kernel
theorem dX12_noble_12 : decode cX12_noble 12 = .ok (.aload_n 0, 1) := by decide +kernel
theorem dX12_noble_13 : decode cX12_noble 13 = .ok (.iload_n 2, 1) := by decide +kernel
theorem dX12_noble_14 : decode cX12_noble 14 = .ok (.aload_n 0, 1) := by decide +kernel
theorem dX12_noble_15 : decode cX12_noble 15 = .ok (.getfield 61, 3) := by decide +kernel
theorem dX12_noble_18 : decode cX12_noble 18 = .ok (.bipush 24, 2) := by decide +kernel
theorem dX12_noble_20 : decode cX12_noble 20 = .ok (.iaload, 1) := by decide +kernel
theorem dX12_noble_21 : decode cX12_noble 21 = .ok (.invokevirtual 447, 3) := by decide +kernel
theorem dX12_noble_24 : decode cX12_noble 24 = .ok (.istore_n 3, 1) := by decide +kernel
theorem dX12_noble_25 : decode cX12_noble 25 = .ok (.iload_n 1, 1) := by decide +kernel
theorem dX12_noble_26 : decode cX12_noble 26 = .ok (.iload_n 3, 1) := by decide +kernel
theorem dX12_noble_27 : decode cX12_noble 27 = .ok (.iconst (-1), 1) := by decide +kernel
theorem dX12_noble_28 : decode cX12_noble 28 = .ok (.if_icmp .eq 28, 3) := by decide +kernel
theorem dX12_noble_31 : decode cX12_noble 31 = .ok (.aload_n 0, 1) := by decide +kernel
theorem dX12_noble_32 : decode cX12_noble 32 = .ok (.iload_n 3, 1) := by decide +kernel
theorem dX12_noble_33 : decode cX12_noble 33 = .ok (.invokevirtual 296, 3) := by decide +kernel
theorem dX12_noble_36 : decode cX12_noble 36 = .ok (.aload_n 0, 1) := by decide +kernel
theorem dX12_noble_37 : decode cX12_noble 37 = .ok (.aload_n 0, 1) := by decide +kernel
theorem dX12_noble_38 : decode cX12_noble 38 = .ok (.getfield 61, 3) := by decide +kernel
theorem dX12_noble_41 : decode cX12_noble 41 = .ok (.bipush 24, 2) := by decide +kernel
theorem dX12_noble_43 : decode cX12_noble 43 = .ok (.iaload, 1) := by decide +kernel
theorem dX12_noble_44 : decode cX12_noble 44 = .ok (.invokevirtual 296, 3) := by decide +kernel
theorem dX12_noble_47 : decode cX12_noble 47 = .ok (.if_icmp .le 9, 3) := by decide +kernel
theorem dX12_noble_50 : decode cX12_noble 50 = .ok (.iconst 1, 1) := by decide +kernel
theorem dX12_noble_51 : decode cX12_noble 51 = .ok (.iload_n 2, 1) := by decide +kernel
theorem dX12_noble_52 : decode cX12_noble 52 = .ok (.ishl, 1) := by decide +kernel
theorem dX12_noble_53 : decode cX12_noble 53 = .ok (.goto 4, 3) := by decide +kernel
theorem dX12_noble_56 : decode cX12_noble 56 = .ok (.iconst 0, 1) := by decide +kernel
theorem dX12_noble_57 : decode cX12_noble 57 = .ok (.ior, 1) := by decide +kernel
theorem dX12_noble_58 : decode cX12_noble 58 = .ok (.istore_n 1, 1) := by decide +kernel
theorem dX12_noble_59 : decode cX12_noble 59 = .ok (.iinc 2 1, 3) := by decide +kernel
theorem dX12_noble_62 : decode cX12_noble 62 = .ok (.goto (-58), 3) := by decide +kernel
theorem dX12_noble_65 : decode cX12_noble 65 = .ok (.iload_n 1, 1) := by decide +kernel
theorem dX12_noble_66 : decode cX12_noble 66 = .ok (.ireturn, 1) := by decide +kernel
theorem dX12_all_0 : decode cX12_all 0 = .ok (.aload_n 0, 1) := by decide +kernel
theorem dX12_all_1 : decode cX12_all 1 = .ok (.iconst 0, 1) := by decide +kernel
theorem dX12_all_2 : decode cX12_all 2 = .ok (.putfield 89, 3) := by decide +kernel
theorem dX12_all_5 : decode cX12_all 5 = .ok (.aload_n 0, 1) := by decide +kernel
theorem dX12_all_6 : decode cX12_all 6 = .ok (.getfield 284, 3) := by decide +kernel
theorem dX12_all_9 : decode cX12_all 9 = .ok (.ifCond .ne 5, 3) := by decide +kernel
theorem dX12_all_12 : decode cX12_all 12 = .ok (.iconst (-1), 1) := by decide +kernel
theorem dX12_all_13 : decode cX12_all 13 = .ok (.ireturn, 1) := by decide +kernel
theorem dX12_all_14 : decode cX12_all 14 = .ok (.iload_n 1, 1) := by decide +kernel
theorem dX12_all_15 : decode cX12_all 15 = .ok (.tableswitch 89 0 7 #[45, 51, 57, 63, 68, 73, 79, 84], 45) := by decide +kernel
theorem dX12_all_60 : decode cX12_all 60 = .ok (.aload_n 0, 1) := by decide +kernel
theorem dX12_all_61 : decode cX12_all 61 = .ok (.iconst 1, 1) := by decide +kernel
theorem dX12_all_62 : decode cX12_all 62 = .ok (.invokevirtual 453, 3) := by decide +kernel
theorem dX12_all_65 : decode cX12_all 65 = .ok (.ireturn, 1) := by decide +kernel
theorem dX12_all_66 : decode cX12_all 66 = .ok (.aload_n 0, 1) := by decide +kernel
theorem dX12_all_67 : decode cX12_all 67 = .ok (.iconst 0, 1) := by decide +kernel
theorem dX12_all_68 : decode cX12_all 68 = .ok (.invokevirtual 453, 3) := by decide +kernel
theorem dX12_all_71 : decode cX12_all 71 = .ok (.ireturn, 1) := by decide +kernel
theorem dX12_all_72 : decode cX12_all 72 = .ok (.aload_n 0, 1) := by decide +kernel
theorem dX12_all_73 : decode cX12_all 73 = .ok (.iconst 2, 1) := by decide +kernel
theorem dX12_all_74 : decode cX12_all 74 = .ok (.invokevirtual 453, 3) := by decide +kernel
theorem dX12_all_77 : decode cX12_all 77 = .ok (.ireturn, 1) := by decide +kernel
theorem dX12_all_78 : decode cX12_all 78 = .ok (.aload_n 0, 1) := by decide +kernel
theorem dX12_all_79 : decode cX12_all 79 = .ok (.invokevirtual 456, 3) := by decide +kernel
theorem dX12_all_82 : decode cX12_all 82 = .ok (.ireturn, 1) := by decide +kernel
theorem dX12_all_83 : decode cX12_all 83 = .ok (.aload_n 0, 1) := by decide +kernel
theorem dX12_all_84 : decode cX12_all 84 = .ok (.invokevirtual 459, 3) := by decide +kernel
theorem dX12_all_87 : decode cX12_all 87 = .ok (.ireturn, 1) := by decide +kernel
theorem dX12_all_88 : decode cX12_all 88 = .ok (.aload_n 0, 1) := by decide +kernel
theorem dX12_all_89 : decode cX12_all 89 = .ok (.iconst (-1), 1) := by decide +kernel
theorem dX12_all_90 : decode cX12_all 90 = .ok (.invokevirtual 462, 3) := by decide +kernel
theorem dX12_all_93 : decode cX12_all 93 = .ok (.ireturn, 1) := by decide +kernel
theorem dX12_all_94 : decode cX12_all 94 = .ok (.aload_n 0, 1) := by decide +kernel
theorem dX12_all_95 : decode cX12_all 95 = .ok (.invokevirtual 465, 3) := by decide +kernel
theorem dX12_all_98 : decode cX12_all 98 = .ok (.ireturn, 1) := by decide +kernel
theorem dX12_all_99 : decode cX12_all 99 = .ok (.aload_n 0, 1) := by decide +kernel
theorem dX12_all_100 : decode cX12_all 100 = .ok (.invokevirtual 468, 3) := by decide +kernel
theorem dX12_all_103 : decode cX12_all 103 = .ok (.ireturn, 1) := by decide +kernel
theorem dX12_all_104 : decode cX12_all 104 = .ok (.iconst (-1), 1) := by decide +kernel
theorem dX12_all_105 : decode cX12_all 105 = .ok (.ireturn, 1) := by decide +kernel
theorem dX12_affords_0 : decode cX12_affords 0 = .ok (.aload_n 0, 1) := by decide +kernel
theorem dX12_affords_1 : decode cX12_affords 1 = .ok (.iconst 0, 1) := by decide +kernel
theorem dX12_affords_2 : decode cX12_affords 2 = .ok (.putfield 89, 3) := by decide +kernel
theorem dX12_affords_5 : decode cX12_affords 5 = .ok (.aload_n 0, 1) := by decide +kernel
theorem dX12_affords_6 : decode cX12_affords 6 = .ok (.iload_n 1, 1) := by decide +kernel
theorem dX12_affords_7 : decode cX12_affords 7 = .ok (.invokevirtual 322, 3) := by decide +kernel
theorem dX12_affords_10 : decode cX12_affords 10 = .ok (.ifCond .ne 5, 3) := by decide +kernel
theorem dX12_affords_13 : decode cX12_affords 13 = .ok (.iconst (-1), 1) := by decide +kernel
theorem dX12_affords_14 : decode cX12_affords 14 = .ok (.ireturn, 1) := by decide +kernel
theorem dX12_affords_15 : decode cX12_affords 15 = .ok (.iconst 0, 1) := by decide +kernel
theorem dX12_affords_16 : decode cX12_affords 16 = .ok (.istore_n 2, 1) := by decide +kernel
theorem dX12_affords_17 : decode cX12_affords 17 = .ok (.iconst 0, 1) := by decide +kernel
theorem dX12_affords_18 : decode cX12_affords 18 = .ok (.istore_n 3, 1) := by decide +kernel
theorem dX12_affords_19 : decode cX12_affords 19 = .ok (.iload_n 3, 1) := by decide +kernel
theorem dX12_affords_20 : decode cX12_affords 20 = .ok (.aload_n 0, 1) := by decide +kernel
theorem dX12_affords_21 : decode cX12_affords 21 = .ok (.getfield 281, 3) := by decide +kernel
theorem dX12_affords_24 : decode cX12_affords 24 = .ok (.if_icmp .ge 41, 3) := by decide +kernel
theorem dX12_affords_27 : decode cX12_affords 27 = .ok (.iload_n 2, 1) := by decide +kernel
theorem dX12_affords_28 : decode cX12_affords 28 = .ok (.aload_n 0, 1) := by decide +kernel
theorem dX12_affords_29 : decode cX12_affords 29 = .ok (.getfield 61, 3) := by decide +kernel
theorem dX12_affords_32 : decode cX12_affords 32 = .ok (.bipush 18, 2) := by decide +kernel
theorem dX12_affords_34 : decode cX12_affords 34 = .ok (.iload_n 3, 1) := by decide +kernel
theorem dX12_affords_35 : decode cX12_affords 35 = .ok (.iadd, 1) := by decide +kernel
theorem dX12_affords_36 : decode cX12_affords 36 = .ok (.iaload, 1) := by decide +kernel
theorem dX12_affords_37 : decode cX12_affords 37 = .ok (.aload_n 0, 1) := by decide +kernel
theorem dX12_affords_38 : decode cX12_affords 38 = .ok (.getfield 61, 3) := by decide +kernel
theorem dX12_affords_41 : decode cX12_affords 41 = .ok (.iconst 3, 1) := by decide +kernel
theorem dX12_affords_42 : decode cX12_affords 42 = .ok (.iload_n 1, 1) := by decide +kernel
theorem dX12_affords_43 : decode cX12_affords 43 = .ok (.imul, 1) := by decide +kernel
theorem dX12_affords_44 : decode cX12_affords 44 = .ok (.iconst 0, 1) := by decide +kernel
theorem dX12_affords_45 : decode cX12_affords 45 = .ok (.iadd, 1) := by decide +kernel
theorem dX12_affords_46 : decode cX12_affords 46 = .ok (.iaload, 1) := by decide +kernel
theorem dX12_affords_47 : decode cX12_affords 47 = .ok (.if_icmp .gt 9, 3) := by decide +kernel
theorem dX12_affords_50 : decode cX12_affords 50 = .ok (.iconst 1, 1) := by decide +kernel
theorem dX12_affords_51 : decode cX12_affords 51 = .ok (.iload_n 3, 1) := by decide +kernel
theorem dX12_affords_52 : decode cX12_affords 52 = .ok (.ishl, 1) := by decide +kernel
theorem dX12_affords_53 : decode cX12_affords 53 = .ok (.goto 4, 3) := by decide +kernel
theorem dX12_affords_56 : decode cX12_affords 56 = .ok (.iconst 0, 1) := by decide +kernel
theorem dX12_affords_57 : decode cX12_affords 57 = .ok (.ior, 1) := by decide +kernel
theorem dX12_affords_58 : decode cX12_affords 58 = .ok (.istore_n 2, 1) := by decide +kernel
theorem dX12_affords_59 : decode cX12_affords 59 = .ok (.iinc 3 1, 3) := by decide +kernel
theorem dX12_affords_62 : decode cX12_affords 62 = .ok (.goto (-43), 3) := by decide +kernel
theorem dX12_affords_65 : decode cX12_affords 65 = .ok (.iload_n 2, 1) := by decide +kernel
theorem dX12_affords_66 : decode cX12_affords 66 = .ok (.ireturn, 1) := by decide +kernel
theorem dX12_brought_0 : decode cX12_brought 0 = .ok (.aload_n 0, 1) := by decide +kernel
theorem dX12_brought_1 : decode cX12_brought 1 = .ok (.iconst 0, 1) := by decide +kernel
theorem dX12_brought_2 : decode cX12_brought 2 = .ok (.putfield 89, 3) := by decide +kernel
theorem dX12_brought_5 : decode cX12_brought 5 = .ok (.aload_n 0, 1) := by decide +kernel
theorem dX12_brought_6 : decode cX12_brought 6 = .ok (.iload_n 1, 1) := by decide +kernel
theorem dX12_brought_7 : decode cX12_brought 7 = .ok (.invokevirtual 319, 3) := by decide +kernel
theorem dX12_brought_10 : decode cX12_brought 10 = .ok (.ifCond .eq 11, 3) := by decide +kernel
theorem dX12_brought_13 : decode cX12_brought 13 = .ok (.aload_n 0, 1) := by decide +kernel
theorem dX12_brought_14 : decode cX12_brought 14 = .ok (.iload_n 1, 1) := by decide +kernel
theorem dX12_brought_15 : decode cX12_brought 15 = .ok (.invokevirtual 462, 3) := by decide +kernel
theorem dX12_brought_18 : decode cX12_brought 18 = .ok (.goto 4, 3) := by decide +kernel
theorem dX12_brought_21 : decode cX12_brought 21 = .ok (.iconst (-1), 1) := by decide +kernel
theorem dX12_brought_22 : decode cX12_brought 22 = .ok (.ireturn, 1) := by decide +kernel
theorem dX12_saves_0 : decode cX12_saves 0 = .ok (.aload_n 0, 1) := by decide +kernel
theorem dX12_saves_1 : decode cX12_saves 1 = .ok (.iconst 0, 1) := by decide +kernel
theorem dX12_saves_2 : decode cX12_saves 2 = .ok (.putfield 89, 3) := by decide +kernel
theorem dX12_saves_5 : decode cX12_saves 5 = .ok (.aload_n 0, 1) := by decide +kernel
theorem dX12_saves_6 : decode cX12_saves 6 = .ok (.iload_n 1, 1) := by decide +kernel
theorem dX12_saves_7 : decode cX12_saves 7 = .ok (.invokevirtual 322, 3) := by decide +kernel
theorem dX12_saves_10 : decode cX12_saves 10 = .ok (.ifCond .eq 11, 3) := by decide +kernel
theorem dX12_saves_13 : decode cX12_saves 13 = .ok (.aload_n 0, 1) := by decide +kernel
theorem dX12_saves_14 : decode cX12_saves 14 = .ok (.iload_n 2, 1) := by decide +kernel
theorem dX12_saves_15 : decode cX12_saves 15 = .ok (.invokevirtual 319, 3) := by decide +kernel
theorem dX12_saves_18 : decode cX12_saves 18 = .ok (.ifCond .ne 5, 3) := by decide +kernel
theorem dX12_saves_21 : decode cX12_saves 21 = .ok (.iconst (-1), 1) := by decide +kernel
theorem dX12_saves_22 : decode cX12_saves 22 = .ok (.ireturn, 1) := by decide +kernel
theorem dX12_saves_23 : decode cX12_saves 23 = .ok (.iconst 0, 1) := by decide +kernel
theorem dX12_saves_24 : decode cX12_saves 24 = .ok (.istore_n 3, 1) := by decide +kernel
theorem dX12_saves_25 : decode cX12_saves 25 = .ok (.iload_n 3, 1) := by decide +kernel
theorem dX12_saves_26 : decode cX12_saves 26 = .ok (.bipush 100, 2) := by decide +kernel
theorem dX12_saves_28 : decode cX12_saves 28 = .ok (.if_icmp .ge 47, 3) := by decide +kernel
theorem dX12_saves_31 : decode cX12_saves 31 = .ok (.bipush 99, 2) := by decide +kernel
theorem dX12_saves_33 : decode cX12_saves 33 = .ok (.aload_n 0, 1) := by decide +kernel
theorem dX12_saves_34 : decode cX12_saves 34 = .ok (.getfield 61, 3) := by decide +kernel
theorem dX12_saves_37 : decode cX12_saves 37 = .ok (.iconst 3, 1) := by decide +kernel
theorem dX12_saves_38 : decode cX12_saves 38 = .ok (.iload_n 1, 1) := by decide +kernel
theorem dX12_saves_39 : decode cX12_saves 39 = .ok (.imul, 1) := by decide +kernel
theorem dX12_saves_40 : decode cX12_saves 40 = .ok (.iconst 0, 1) := by decide +kernel
theorem dX12_saves_41 : decode cX12_saves 41 = .ok (.iadd, 1) := by decide +kernel
theorem dX12_saves_42 : decode cX12_saves 42 = .ok (.iaload, 1) := by decide +kernel
theorem dX12_saves_43 : decode cX12_saves 43 = .ok (.iload_n 3, 1) := by decide +kernel
theorem dX12_saves_44 : decode cX12_saves 44 = .ok (.aload_n 0, 1) := by decide +kernel
theorem dX12_saves_45 : decode cX12_saves 45 = .ok (.getfield 37, 3) := by decide +kernel
theorem dX12_saves_48 : decode cX12_saves 48 = .ok (.iconst 1, 1) := by decide +kernel
theorem dX12_saves_49 : decode cX12_saves 49 = .ok (.iaload, 1) := by decide +kernel
theorem dX12_saves_50 : decode cX12_saves 50 = .ok (.imul, 1) := by decide +kernel
theorem dX12_saves_51 : decode cX12_saves 51 = .ok (.iadd, 1) := by decide +kernel
theorem dX12_saves_52 : decode cX12_saves 52 = .ok (.invokestatic 299, 3) := by decide +kernel
theorem dX12_saves_55 : decode cX12_saves 55 = .ok (.aload_n 0, 1) := by decide +kernel
theorem dX12_saves_56 : decode cX12_saves 56 = .ok (.getfield 61, 3) := by decide +kernel
theorem dX12_saves_59 : decode cX12_saves 59 = .ok (.bipush 18, 2) := by decide +kernel
theorem dX12_saves_61 : decode cX12_saves 61 = .ok (.iload_n 2, 1) := by decide +kernel
theorem dX12_saves_62 : decode cX12_saves 62 = .ok (.iadd, 1) := by decide +kernel
theorem dX12_saves_63 : decode cX12_saves 63 = .ok (.iaload, 1) := by decide +kernel
theorem dX12_saves_64 : decode cX12_saves 64 = .ok (.if_icmp .lt 5, 3) := by decide +kernel
theorem dX12_saves_67 : decode cX12_saves 67 = .ok (.iload_n 3, 1) := by decide +kernel
theorem dX12_saves_68 : decode cX12_saves 68 = .ok (.ireturn, 1) := by decide +kernel
theorem dX12_saves_69 : decode cX12_saves 69 = .ok (.iinc 3 1, 3) := by decide +kernel
theorem dX12_saves_72 : decode cX12_saves 72 = .ok (.goto (-47), 3) := by decide +kernel
theorem dX12_saves_75 : decode cX12_saves 75 = .ok (.iconst (-1), 1) := by decide +kernel
theorem dX12_saves_76 : decode cX12_saves 76 = .ok (.ireturn, 1) := by decide +kernel
theorem dX12_image_0 : decode cX12_image 0 = .ok (.aload_n 0, 1) := by decide +kernel
theorem dX12_image_1 : decode cX12_image 1 = .ok (.iconst 0, 1) := by decide +kernel
theorem dX12_image_2 : decode cX12_image 2 = .ok (.putfield 89, 3) := by decide +kernel
theorem dX12_image_5 : decode cX12_image 5 = .ok (.aload_n 0, 1) := by decide +kernel
theorem dX12_image_6 : decode cX12_image 6 = .ok (.getfield 284, 3) := by decide +kernel
theorem dX12_image_9 : decode cX12_image 9 = .ok (.ifCond .ne 5, 3) := by decide +kernel
theorem dX12_image_12 : decode cX12_image 12 = .ok (.iconst (-1), 1) := by decide +kernel
theorem dX12_image_13 : decode cX12_image 13 = .ok (.ireturn, 1) := by decide +kernel
theorem dX12_image_14 : decode cX12_image 14 = .ok (.iconst 0, 1) := by decide +kernel
theorem dX12_image_15 : decode cX12_image 15 = .ok (.istore_n 1, 1) := by decide +kernel
theorem dX12_image_16 : decode cX12_image 16 = .ok (.iload_n 1, 1) := by decide +kernel
theorem dX12_image_17 : decode cX12_image 17 = .ok (.sipush 269, 3) := by decide +kernel
theorem dX12_image_20 : decode cX12_image 20 = .ok (.if_icmp .ge 21, 3) := by decide +kernel
theorem dX12_image_23 : decode cX12_image 23 = .ok (.aload_n 0, 1) := by decide +kernel
theorem dX12_image_24 : decode cX12_image 24 = .ok (.getfield 86, 3) := by decide +kernel
theorem dX12_image_27 : decode cX12_image 27 = .ok (.iload_n 1, 1) := by decide +kernel
theorem dX12_image_28 : decode cX12_image 28 = .ok (.aload_n 0, 1) := by decide +kernel
theorem dX12_image_29 : decode cX12_image 29 = .ok (.getfield 61, 3) := by decide +kernel
theorem dX12_image_32 : decode cX12_image 32 = .ok (.iload_n 1, 1) := by decide +kernel
theorem dX12_image_33 : decode cX12_image 33 = .ok (.iaload, 1) := by decide +kernel
theorem dX12_image_34 : decode cX12_image 34 = .ok (.iastore, 1) := by decide +kernel
theorem dX12_image_35 : decode cX12_image 35 = .ok (.iinc 1 1, 3) := by decide +kernel
theorem dX12_image_38 : decode cX12_image 38 = .ok (.goto (-22), 3) := by decide +kernel
theorem dX12_image_41 : decode cX12_image 41 = .ok (.aload_n 0, 1) := by decide +kernel
theorem dX12_image_42 : decode cX12_image 42 = .ok (.iconst 1, 1) := by decide +kernel
theorem dX12_image_43 : decode cX12_image 43 = .ok (.putfield 293, 3) := by decide +kernel
theorem dX12_image_46 : decode cX12_image 46 = .ok (.aload_n 0, 1) := by decide +kernel
theorem dX12_image_47 : decode cX12_image 47 = .ok (.getfield 61, 3) := by decide +kernel
theorem dX12_image_50 : decode cX12_image 50 = .ok (.bipush 27, 2) := by decide +kernel
theorem dX12_image_52 : decode cX12_image 52 = .ok (.iaload, 1) := by decide +kernel
theorem dX12_image_53 : decode cX12_image 53 = .ok (.ireturn, 1) := by decide +kernel
theorem dX12_back_0 : decode cX12_back 0 = .ok (.aload_n 0, 1) := by decide +kernel
theorem dX12_back_1 : decode cX12_back 1 = .ok (.iconst 0, 1) := by decide +kernel
theorem dX12_back_2 : decode cX12_back 2 = .ok (.putfield 89, 3) := by decide +kernel
theorem dX12_back_5 : decode cX12_back 5 = .ok (.aload_n 0, 1) := by decide +kernel
theorem dX12_back_6 : decode cX12_back 6 = .ok (.getfield 293, 3) := by decide +kernel
theorem dX12_back_9 : decode cX12_back 9 = .ok (.ifCond .ne 5, 3) := by decide +kernel
theorem dX12_back_12 : decode cX12_back 12 = .ok (.iconst (-1), 1) := by decide +kernel
theorem dX12_back_13 : decode cX12_back 13 = .ok (.ireturn, 1) := by decide +kernel
theorem dX12_back_14 : decode cX12_back 14 = .ok (.iconst 0, 1) := by decide +kernel
theorem dX12_back_15 : decode cX12_back 15 = .ok (.istore_n 1, 1) := by decide +kernel
theorem dX12_back_16 : decode cX12_back 16 = .ok (.iload_n 1, 1) := by decide +kernel
theorem dX12_back_17 : decode cX12_back 17 = .ok (.sipush 269, 3) := by decide +kernel
theorem dX12_back_20 : decode cX12_back 20 = .ok (.if_icmp .ge 21, 3) := by decide +kernel
theorem dX12_back_23 : decode cX12_back 23 = .ok (.aload_n 0, 1) := by decide +kernel
theorem dX12_back_24 : decode cX12_back 24 = .ok (.getfield 61, 3) := by decide +kernel
theorem dX12_back_27 : decode cX12_back 27 = .ok (.iload_n 1, 1) := by decide +kernel
theorem dX12_back_28 : decode cX12_back 28 = .ok (.aload_n 0, 1) := by decide +kernel
theorem dX12_back_29 : decode cX12_back 29 = .ok (.getfield 86, 3) := by decide +kernel
theorem dX12_back_32 : decode cX12_back 32 = .ok (.iload_n 1, 1) := by decide +kernel
theorem dX12_back_33 : decode cX12_back 33 = .ok (.iaload, 1) := by decide +kernel
theorem dX12_back_34 : decode cX12_back 34 = .ok (.iastore, 1) := by decide +kernel
theorem dX12_back_35 : decode cX12_back 35 = .ok (.iinc 1 1, 3) := by decide +kernel
theorem dX12_back_38 : decode cX12_back 38 = .ok (.goto (-22), 3) := by decide +kernel
theorem dX12_back_41 : decode cX12_back 41 = .ok (.aload_n 0, 1) := by decide +kernel
theorem dX12_back_42 : decode cX12_back 42 = .ok (.iconst 0, 1) := by decide +kernel
theorem dX12_back_43 : decode cX12_back 43 = .ok (.putfield 290, 3) := by decide +kernel
theorem dX12_back_46 : decode cX12_back 46 = .ok (.aload_n 0, 1) := by decide +kernel
theorem dX12_back_47 : decode cX12_back 47 = .ok (.getfield 61, 3) := by decide +kernel
theorem dX12_back_50 : decode cX12_back 50 = .ok (.bipush 27, 2) := by decide +kernel
theorem dX12_back_52 : decode cX12_back 52 = .ok (.iaload, 1) := by decide +kernel
theorem dX12_back_53 : decode cX12_back 53 = .ok (.ireturn, 1) := by decide +kernel
theorem dX12_count_0 : decode cX12_count 0 = .ok (.aload_n 0, 1) := by decide +kernel
theorem dX12_count_1 : decode cX12_count 1 = .ok (.iconst 0, 1) := by decide +kernel
theorem dX12_count_2 : decode cX12_count 2 = .ok (.putfield 89, 3) := by decide +kernel
theorem dX12_count_5 : decode cX12_count 5 = .ok (.iload_n 1, 1) := by decide +kernel
theorem dX12_count_6 : decode cX12_count 6 = .ok (.tableswitch 180 0 13 #[70, 75, 80, 85, 90, 95, 100, 108, 116, 149, 154, 159, 167, 175], 70) := by decide +kernel
theorem dX12_count_76 : decode cX12_count 76 = .ok (.aload_n 0, 1) := by decide +kernel
theorem dX12_count_77 : decode cX12_count 77 = .ok (.getfield 284, 3) := by decide +kernel
theorem dX12_count_80 : decode cX12_count 80 = .ok (.ireturn, 1) := by decide +kernel
theorem dX12_count_81 : decode cX12_count 81 = .ok (.aload_n 0, 1) := by decide +kernel
theorem dX12_count_82 : decode cX12_count 82 = .ok (.getfield 281, 3) := by decide +kernel
theorem dX12_count_85 : decode cX12_count 85 = .ok (.ireturn, 1) := by decide +kernel
theorem dX12_count_86 : decode cX12_count 86 = .ok (.aload_n 0, 1) := by decide +kernel
theorem dX12_count_87 : decode cX12_count 87 = .ok (.getfield 273, 3) := by decide +kernel
theorem dX12_count_90 : decode cX12_count 90 = .ok (.ireturn, 1) := by decide +kernel
theorem dX12_count_91 : decode cX12_count 91 = .ok (.aload_n 0, 1) := by decide +kernel
theorem dX12_count_92 : decode cX12_count 92 = .ok (.getfield 276, 3) := by decide +kernel
theorem dX12_count_95 : decode cX12_count 95 = .ok (.ireturn, 1) := by decide +kernel
theorem dX12_count_96 : decode cX12_count 96 = .ok (.aload_n 0, 1) := by decide +kernel
theorem dX12_count_97 : decode cX12_count 97 = .ok (.getfield 102, 3) := by decide +kernel
theorem dX12_count_100 : decode cX12_count 100 = .ok (.ireturn, 1) := by decide +kernel
theorem dX12_count_101 : decode cX12_count 101 = .ok (.aload_n 0, 1) := by decide +kernel
theorem dX12_count_102 : decode cX12_count 102 = .ok (.getfield 67, 3) := by decide +kernel
theorem dX12_count_105 : decode cX12_count 105 = .ok (.ireturn, 1) := by decide +kernel
theorem dX12_count_106 : decode cX12_count 106 = .ok (.aload_n 0, 1) := by decide +kernel
theorem dX12_count_107 : decode cX12_count 107 = .ok (.getfield 61, 3) := by decide +kernel
theorem dX12_count_110 : decode cX12_count 110 = .ok (.bipush 27, 2) := by decide +kernel
theorem dX12_count_112 : decode cX12_count 112 = .ok (.iaload, 1) := by decide +kernel
theorem dX12_count_113 : decode cX12_count 113 = .ok (.ireturn, 1) := by decide +kernel
theorem dX12_count_114 : decode cX12_count 114 = .ok (.aload_n 0, 1) := by decide +kernel
theorem dX12_count_115 : decode cX12_count 115 = .ok (.getfield 61, 3) := by decide +kernel
theorem dX12_count_118 : decode cX12_count 118 = .ok (.bipush 25, 2) := by decide +kernel
theorem dX12_count_120 : decode cX12_count 120 = .ok (.iaload, 1) := by decide +kernel
theorem dX12_count_121 : decode cX12_count 121 = .ok (.ireturn, 1) := by decide +kernel
theorem dX12_count_122 : decode cX12_count 122 = .ok (.iconst 0, 1) := by decide +kernel
theorem dX12_count_123 : decode cX12_count 123 = .ok (.istore_n 2, 1) := by decide +kernel
theorem dX12_count_124 : decode cX12_count 124 = .ok (.iconst 0, 1) := by decide +kernel
theorem dX12_count_125 : decode cX12_count 125 = .ok (.istore_n 3, 1) := by decide +kernel
theorem dX12_count_126 : decode cX12_count 126 = .ok (.iload_n 3, 1) := by decide +kernel
theorem dX12_count_127 : decode cX12_count 127 = .ok (.aload_n 0, 1) := by decide +kernel
theorem dX12_count_128 : decode cX12_count 128 = .ok (.getfield 284, 3) := by decide +kernel
theorem dX12_count_131 : decode cX12_count 131 = .ok (.if_icmp .ge 22, 3) := by decide +kernel
theorem dX12_count_134 : decode cX12_count 134 = .ok (.iload_n 2, 1) := by decide +kernel
theorem dX12_count_135 : decode cX12_count 135 = .ok (.aload_n 0, 1) := by decide +kernel
theorem dX12_count_136 : decode cX12_count 136 = .ok (.getfield 61, 3) := by decide +kernel
theorem dX12_count_139 : decode cX12_count 139 = .ok (.iconst 3, 1) := by decide +kernel
theorem dX12_count_140 : decode cX12_count 140 = .ok (.iload_n 3, 1) := by decide +kernel
theorem dX12_count_141 : decode cX12_count 141 = .ok (.imul, 1) := by decide +kernel
theorem dX12_count_142 : decode cX12_count 142 = .ok (.iconst 2, 1) := by decide +kernel
theorem dX12_count_143 : decode cX12_count 143 = .ok (.iadd, 1) := by decide +kernel
theorem dX12_count_144 : decode cX12_count 144 = .ok (.iaload, 1) := by decide +kernel
theorem dX12_count_145 : decode cX12_count 145 = .ok (.iadd, 1) := by decide +kernel
theorem dX12_count_146 : decode cX12_count 146 = .ok (.istore_n 2, 1) := by decide +kernel
theorem dX12_count_147 : decode cX12_count 147 = .ok (.iinc 3 1, 3) := by decide +kernel
theorem dX12_count_150 : decode cX12_count 150 = .ok (.goto (-24), 3) := by decide +kernel
theorem dX12_count_153 : decode cX12_count 153 = .ok (.iload_n 2, 1) := by decide +kernel
theorem dX12_count_154 : decode cX12_count 154 = .ok (.ireturn, 1) := by decide +kernel
theorem dX12_count_155 : decode cX12_count 155 = .ok (.aload_n 0, 1) := by decide +kernel
theorem dX12_count_156 : decode cX12_count 156 = .ok (.getfield 71, 3) := by decide +kernel
theorem dX12_count_159 : decode cX12_count 159 = .ok (.ireturn, 1) := by decide +kernel
theorem dX12_count_160 : decode cX12_count 160 = .ok (.aload_n 0, 1) := by decide +kernel
theorem dX12_count_161 : decode cX12_count 161 = .ok (.getfield 287, 3) := by decide +kernel
theorem dX12_count_164 : decode cX12_count 164 = .ok (.ireturn, 1) := by decide +kernel
theorem dX12_count_165 : decode cX12_count 165 = .ok (.aload_n 0, 1) := by decide +kernel
theorem dX12_count_166 : decode cX12_count 166 = .ok (.getfield 61, 3) := by decide +kernel
theorem dX12_count_169 : decode cX12_count 169 = .ok (.bipush 26, 2) := by decide +kernel
theorem dX12_count_171 : decode cX12_count 171 = .ok (.iaload, 1) := by decide +kernel
theorem dX12_count_172 : decode cX12_count 172 = .ok (.ireturn, 1) := by decide +kernel
theorem dX12_count_173 : decode cX12_count 173 = .ok (.aload_n 0, 1) := by decide +kernel
theorem dX12_count_174 : decode cX12_count 174 = .ok (.getfield 61, 3) := by decide +kernel
theorem dX12_count_177 : decode cX12_count 177 = .ok (.bipush 28, 2) := by decide +kernel
theorem dX12_count_179 : decode cX12_count 179 = .ok (.iaload, 1) := by decide +kernel
theorem dX12_count_180 : decode cX12_count 180 = .ok (.ireturn, 1) := by decide +kernel
theorem dX12_count_181 : decode cX12_count 181 = .ok (.aload_n 0, 1) := by decide +kernel
theorem dX12_count_182 : decode cX12_count 182 = .ok (.getfield 290, 3) := by decide +kernel
theorem dX12_count_185 : decode cX12_count 185 = .ok (.ireturn, 1) := by decide +kernel
theorem dX12_count_186 : decode cX12_count 186 = .ok (.ldc_w 366, 3) := by decide +kernel
theorem dX12_count_189 : decode cX12_count 189 = .ok (.ireturn, 1) := by decide +kernel
theorem dJ11_isValidCodePoint_9a6ad_0 : decode cJ11_isValidCodePoint_9a6ad 0 = .ok (.iload_n 0, 1) := by decide +kernel
theorem dJ11_isValidCodePoint_9a6ad_1 : decode cJ11_isValidCodePoint_9a6ad 1 = .ok (.bipush 16, 2) := by decide +kernel
theorem dJ11_isValidCodePoint_9a6ad_3 : decode cJ11_isValidCodePoint_9a6ad 3 = .ok (.iushr, 1) := by decide +kernel
theorem dJ11_isValidCodePoint_9a6ad_4 : decode cJ11_isValidCodePoint_9a6ad 4 = .ok (.istore_n 1, 1) := by decide +kernel
theorem dJ11_isValidCodePoint_9a6ad_5 : decode cJ11_isValidCodePoint_9a6ad 5 = .ok (.iload_n 1, 1) := by decide +kernel
theorem dJ11_isValidCodePoint_9a6ad_6 : decode cJ11_isValidCodePoint_9a6ad 6 = .ok (.bipush 17, 2) := by decide +kernel
theorem dJ11_isValidCodePoint_9a6ad_8 : decode cJ11_isValidCodePoint_9a6ad 8 = .ok (.if_icmp .ge 7, 3) := by decide +kernel
theorem dJ11_isValidCodePoint_9a6ad_11 : decode cJ11_isValidCodePoint_9a6ad 11 = .ok (.iconst 1, 1) := by decide +kernel
theorem dJ11_isValidCodePoint_9a6ad_12 : decode cJ11_isValidCodePoint_9a6ad 12 = .ok (.goto 4, 3) := by decide +kernel
theorem dJ11_isValidCodePoint_9a6ad_15 : decode cJ11_isValidCodePoint_9a6ad 15 = .ok (.iconst 0, 1) := by decide +kernel
theorem dJ11_isValidCodePoint_9a6ad_16 : decode cJ11_isValidCodePoint_9a6ad 16 = .ok (.ireturn, 1) := by decide +kernel
theorem dJ11_highSurrogate_5068e_0 : decode cJ11_highSurrogate_5068e 0 = .ok (.iload_n 0, 1) := by decide +kernel
theorem dJ11_highSurrogate_5068e_1 : decode cJ11_highSurrogate_5068e 1 = .ok (.bipush 10, 2) := by decide +kernel
theorem dJ11_highSurrogate_5068e_3 : decode cJ11_highSurrogate_5068e 3 = .ok (.iushr, 1) := by decide +kernel
theorem dJ11_highSurrogate_5068e_4 : decode cJ11_highSurrogate_5068e 4 = .ok (.ldc 110, 2) := by decide +kernel
theorem dJ11_highSurrogate_5068e_6 : decode cJ11_highSurrogate_5068e 6 = .ok (.iadd, 1) := by decide +kernel
theorem dJ11_highSurrogate_5068e_7 : decode cJ11_highSurrogate_5068e 7 = .ok (.i2c, 1) := by decide +kernel
theorem dJ11_highSurrogate_5068e_8 : decode cJ11_highSurrogate_5068e 8 = .ok (.ireturn, 1) := by decide +kernel
theorem dJ11_lowSurrogate_5068e_0 : decode cJ11_lowSurrogate_5068e 0 = .ok (.iload_n 0, 1) := by decide +kernel
theorem dJ11_lowSurrogate_5068e_1 : decode cJ11_lowSurrogate_5068e 1 = .ok (.sipush 1023, 3) := by decide +kernel
theorem dJ11_lowSurrogate_5068e_4 : decode cJ11_lowSurrogate_5068e 4 = .ok (.iand, 1) := by decide +kernel
theorem dJ11_lowSurrogate_5068e_5 : decode cJ11_lowSurrogate_5068e 5 = .ok (.ldc 76, 2) := by decide +kernel
theorem dJ11_lowSurrogate_5068e_7 : decode cJ11_lowSurrogate_5068e 7 = .ok (.iadd, 1) := by decide +kernel
theorem dJ11_lowSurrogate_5068e_8 : decode cJ11_lowSurrogate_5068e 8 = .ok (.i2c, 1) := by decide +kernel
theorem dJ11_lowSurrogate_5068e_9 : decode cJ11_lowSurrogate_5068e 9 = .ok (.ireturn, 1) := by decide +kernel
theorem dJ9_floorMod_7cf53_0 : decode cJ9_floorMod_7cf53 0 = .ok (.iload_n 0, 1) := by decide +kernel
theorem dJ9_floorMod_7cf53_1 : decode cJ9_floorMod_7cf53 1 = .ok (.iload_n 1, 1) := by decide +kernel
theorem dJ9_floorMod_7cf53_2 : decode cJ9_floorMod_7cf53 2 = .ok (.irem, 1) := by decide +kernel
theorem dJ9_floorMod_7cf53_3 : decode cJ9_floorMod_7cf53 3 = .ok (.istore_n 2, 1) := by decide +kernel
theorem dJ9_floorMod_7cf53_4 : decode cJ9_floorMod_7cf53 4 = .ok (.iload_n 0, 1) := by decide +kernel
theorem dJ9_floorMod_7cf53_5 : decode cJ9_floorMod_7cf53 5 = .ok (.iload_n 1, 1) := by decide +kernel
theorem dJ9_floorMod_7cf53_6 : decode cJ9_floorMod_7cf53 6 = .ok (.ixor, 1) := by decide +kernel
theorem dJ9_floorMod_7cf53_7 : decode cJ9_floorMod_7cf53 7 = .ok (.ifCond .ge 11, 3) := by decide +kernel
theorem dJ9_floorMod_7cf53_10 : decode cJ9_floorMod_7cf53 10 = .ok (.iload_n 2, 1) := by decide +kernel
theorem dJ9_floorMod_7cf53_11 : decode cJ9_floorMod_7cf53 11 = .ok (.ifCond .eq 7, 3) := by decide +kernel
theorem dJ9_floorMod_7cf53_14 : decode cJ9_floorMod_7cf53 14 = .ok (.iload_n 2, 1) := by decide +kernel
theorem dJ9_floorMod_7cf53_15 : decode cJ9_floorMod_7cf53 15 = .ok (.iload_n 1, 1) := by decide +kernel
theorem dJ9_floorMod_7cf53_16 : decode cJ9_floorMod_7cf53 16 = .ok (.iadd, 1) := by decide +kernel
theorem dJ9_floorMod_7cf53_17 : decode cJ9_floorMod_7cf53 17 = .ok (.ireturn, 1) := by decide +kernel
theorem dJ9_floorMod_7cf53_18 : decode cJ9_floorMod_7cf53 18 = .ok (.iload_n 2, 1) := by decide +kernel
theorem dJ9_floorMod_7cf53_19 : decode cJ9_floorMod_7cf53 19 = .ok (.ireturn, 1) := by decide +kernel
theorem dJ9_abs_0f7a4_0 : decode cJ9_abs_0f7a4 0 = .ok (.iload_n 0, 1) := by decide +kernel
theorem dJ9_abs_0f7a4_1 : decode cJ9_abs_0f7a4 1 = .ok (.ifCond .ge 8, 3) := by decide +kernel
theorem dJ9_abs_0f7a4_4 : decode cJ9_abs_0f7a4 4 = .ok (.iload_n 0, 1) := by decide +kernel
theorem dJ9_abs_0f7a4_5 : decode cJ9_abs_0f7a4 5 = .ok (.ineg, 1) := by decide +kernel
theorem dJ9_abs_0f7a4_6 : decode cJ9_abs_0f7a4 6 = .ok (.goto 4, 3) := by decide +kernel
theorem dJ9_abs_0f7a4_9 : decode cJ9_abs_0f7a4 9 = .ok (.iload_n 0, 1) := by decide +kernel
theorem dJ9_abs_0f7a4_10 : decode cJ9_abs_0f7a4 10 = .ok (.ireturn, 1) := by decide +kernel
theorem dJ9_max_7cf53_0 : decode cJ9_max_7cf53 0 = .ok (.iload_n 0, 1) := by decide +kernel
theorem dJ9_max_7cf53_1 : decode cJ9_max_7cf53 1 = .ok (.iload_n 1, 1) := by decide +kernel
theorem dJ9_max_7cf53_2 : decode cJ9_max_7cf53 2 = .ok (.if_icmp .lt 7, 3) := by decide +kernel
theorem dJ9_max_7cf53_5 : decode cJ9_max_7cf53 5 = .ok (.iload_n 0, 1) := by decide +kernel
theorem dJ9_max_7cf53_6 : decode cJ9_max_7cf53 6 = .ok (.goto 4, 3) := by decide +kernel
theorem dJ9_max_7cf53_9 : decode cJ9_max_7cf53 9 = .ok (.iload_n 1, 1) := by decide +kernel
theorem dJ9_max_7cf53_10 : decode cJ9_max_7cf53 10 = .ok (.ireturn, 1) := by decide +kernel
theorem dJ9_max_f86c9_0 : decode cJ9_max_f86c9 0 = .ok (.lload_n 0, 1) := by decide +kernel
theorem dJ9_max_f86c9_1 : decode cJ9_max_f86c9 1 = .ok (.lload_n 2, 1) := by decide +kernel
theorem dJ9_max_f86c9_2 : decode cJ9_max_f86c9 2 = .ok (.lcmp, 1) := by decide +kernel
theorem dJ9_max_f86c9_3 : decode cJ9_max_f86c9 3 = .ok (.ifCond .lt 7, 3) := by decide +kernel
theorem dJ9_max_f86c9_6 : decode cJ9_max_f86c9 6 = .ok (.lload_n 0, 1) := by decide +kernel
theorem dJ9_max_f86c9_7 : decode cJ9_max_f86c9 7 = .ok (.goto 4, 3) := by decide +kernel
theorem dJ9_max_f86c9_10 : decode cJ9_max_f86c9 10 = .ok (.lload_n 2, 1) := by decide +kernel
theorem dJ9_max_f86c9_11 : decode cJ9_max_f86c9 11 = .ok (.lreturn, 1) := by decide +kernel
theorem dJ9_min_7cf53_0 : decode cJ9_min_7cf53 0 = .ok (.iload_n 0, 1) := by decide +kernel
theorem dJ9_min_7cf53_1 : decode cJ9_min_7cf53 1 = .ok (.iload_n 1, 1) := by decide +kernel
theorem dJ9_min_7cf53_2 : decode cJ9_min_7cf53 2 = .ok (.if_icmp .gt 7, 3) := by decide +kernel
theorem dJ9_min_7cf53_5 : decode cJ9_min_7cf53 5 = .ok (.iload_n 0, 1) := by decide +kernel
theorem dJ9_min_7cf53_6 : decode cJ9_min_7cf53 6 = .ok (.goto 4, 3) := by decide +kernel
theorem dJ9_min_7cf53_9 : decode cJ9_min_7cf53 9 = .ok (.iload_n 1, 1) := by decide +kernel
theorem dJ9_min_7cf53_10 : decode cJ9_min_7cf53 10 = .ok (.ireturn, 1) := by decide +kernel
theorem dJ9_min_f86c9_0 : decode cJ9_min_f86c9 0 = .ok (.lload_n 0, 1) := by decide +kernel
theorem dJ9_min_f86c9_1 : decode cJ9_min_f86c9 1 = .ok (.lload_n 2, 1) := by decide +kernel
theorem dJ9_min_f86c9_2 : decode cJ9_min_f86c9 2 = .ok (.lcmp, 1) := by decide +kernel
theorem dJ9_min_f86c9_3 : decode cJ9_min_f86c9 3 = .ok (.ifCond .gt 7, 3) := by decide +kernel
theorem dJ9_min_f86c9_6 : decode cJ9_min_f86c9 6 = .ok (.lload_n 0, 1) := by decide +kernel
theorem dJ9_min_f86c9_7 : decode cJ9_min_f86c9 7 = .ok (.goto 4, 3) := by decide +kernel
theorem dJ9_min_f86c9_10 : decode cJ9_min_f86c9 10 = .ok (.lload_n 2, 1) := by decide +kernel
theorem dJ9_min_f86c9_11 : decode cJ9_min_f86c9 11 = .ok (.lreturn, 1) := by decide +kernel
theorem dJ0_length_8abf5_0 : decode cJ0_length_8abf5 0 = .ok (.aload_n 0, 1) := by decide +kernel
theorem dJ0_length_8abf5_1 : decode cJ0_length_8abf5 1 = .ok (.getfield 9, 3) := by decide +kernel
theorem dJ0_length_8abf5_4 : decode cJ0_length_8abf5 4 = .ok (.arraylength, 1) := by decide +kernel
theorem dJ0_length_8abf5_5 : decode cJ0_length_8abf5 5 = .ok (.aload_n 0, 1) := by decide +kernel
theorem dJ0_length_8abf5_6 : decode cJ0_length_8abf5 6 = .ok (.invokevirtual 335, 3) := by decide +kernel
theorem dJ0_length_8abf5_9 : decode cJ0_length_8abf5 9 = .ok (.ishr, 1) := by decide +kernel
theorem dJ0_length_8abf5_10 : decode cJ0_length_8abf5 10 = .ok (.ireturn, 1) := by decide +kernel
theorem dJ0_charAt_5068e_0 : decode cJ0_charAt_5068e 0 = .ok (.aload_n 0, 1) := by decide +kernel
theorem dJ0_charAt_5068e_1 : decode cJ0_charAt_5068e 1 = .ok (.invokevirtual 492, 3) := by decide +kernel
theorem dJ0_charAt_5068e_4 : decode cJ0_charAt_5068e 4 = .ok (.ifCond .eq 12, 3) := by decide +kernel
theorem dJ0_charAt_5068e_7 : decode cJ0_charAt_5068e 7 = .ok (.aload_n 0, 1) := by decide +kernel
theorem dJ0_charAt_5068e_8 : decode cJ0_charAt_5068e 8 = .ok (.getfield 9, 3) := by decide +kernel
theorem dJ0_charAt_5068e_11 : decode cJ0_charAt_5068e 11 = .ok (.iload_n 1, 1) := by decide +kernel
theorem dJ0_charAt_5068e_12 : decode cJ0_charAt_5068e 12 = .ok (.invokestatic 495, 3) := by decide +kernel
theorem dJ0_charAt_5068e_15 : decode cJ0_charAt_5068e 15 = .ok (.ireturn, 1) := by decide +kernel
theorem dJ0_charAt_5068e_16 : decode cJ0_charAt_5068e 16 = .ok (.aload_n 0, 1) := by decide +kernel
theorem dJ0_charAt_5068e_17 : decode cJ0_charAt_5068e 17 = .ok (.getfield 9, 3) := by decide +kernel
theorem dJ0_charAt_5068e_20 : decode cJ0_charAt_5068e 20 = .ok (.iload_n 1, 1) := by decide +kernel
theorem dJ0_charAt_5068e_21 : decode cJ0_charAt_5068e 21 = .ok (.invokestatic 498, 3) := by decide +kernel
theorem dJ0_charAt_5068e_24 : decode cJ0_charAt_5068e 24 = .ok (.ireturn, 1) := by decide +kernel
theorem dJ0_indexOf_0f7a4_0 : decode cJ0_indexOf_0f7a4 0 = .ok (.aload_n 0, 1) := by decide +kernel
theorem dJ0_indexOf_0f7a4_1 : decode cJ0_indexOf_0f7a4 1 = .ok (.iload_n 1, 1) := by decide +kernel
theorem dJ0_indexOf_0f7a4_2 : decode cJ0_indexOf_0f7a4 2 = .ok (.iconst 0, 1) := by decide +kernel
theorem dJ0_indexOf_0f7a4_3 : decode cJ0_indexOf_0f7a4 3 = .ok (.invokevirtual 633, 3) := by decide +kernel
theorem dJ0_indexOf_0f7a4_6 : decode cJ0_indexOf_0f7a4 6 = .ok (.ireturn, 1) := by decide +kernel
theorem dJ0_indexOf_7cf53_0 : decode cJ0_indexOf_7cf53 0 = .ok (.aload_n 0, 1) := by decide +kernel
theorem dJ0_indexOf_7cf53_1 : decode cJ0_indexOf_7cf53 1 = .ok (.invokevirtual 492, 3) := by decide +kernel
theorem dJ0_indexOf_7cf53_4 : decode cJ0_indexOf_7cf53 4 = .ok (.ifCond .eq 19, 3) := by decide +kernel
theorem dJ0_indexOf_7cf53_7 : decode cJ0_indexOf_7cf53 7 = .ok (.aload_n 0, 1) := by decide +kernel
theorem dJ0_indexOf_7cf53_8 : decode cJ0_indexOf_7cf53 8 = .ok (.getfield 9, 3) := by decide +kernel
theorem dJ0_indexOf_7cf53_11 : decode cJ0_indexOf_7cf53 11 = .ok (.iload_n 1, 1) := by decide +kernel
theorem dJ0_indexOf_7cf53_12 : decode cJ0_indexOf_7cf53 12 = .ok (.iload_n 2, 1) := by decide +kernel
theorem dJ0_indexOf_7cf53_13 : decode cJ0_indexOf_7cf53 13 = .ok (.aload_n 0, 1) := by decide +kernel
theorem dJ0_indexOf_7cf53_14 : decode cJ0_indexOf_7cf53 14 = .ok (.invokevirtual 505, 3) := by decide +kernel
theorem dJ0_indexOf_7cf53_17 : decode cJ0_indexOf_7cf53 17 = .ok (.invokestatic 637, 3) := by decide +kernel
theorem dJ0_indexOf_7cf53_20 : decode cJ0_indexOf_7cf53 20 = .ok (.goto 16, 3) := by decide +kernel
theorem dJ0_indexOf_7cf53_23 : decode cJ0_indexOf_7cf53 23 = .ok (.aload_n 0, 1) := by decide +kernel
theorem dJ0_indexOf_7cf53_24 : decode cJ0_indexOf_7cf53 24 = .ok (.getfield 9, 3) := by decide +kernel
theorem dJ0_indexOf_7cf53_27 : decode cJ0_indexOf_7cf53 27 = .ok (.iload_n 1, 1) := by decide +kernel
theorem dJ0_indexOf_7cf53_28 : decode cJ0_indexOf_7cf53 28 = .ok (.iload_n 2, 1) := by decide +kernel
theorem dJ0_indexOf_7cf53_29 : decode cJ0_indexOf_7cf53 29 = .ok (.aload_n 0, 1) := by decide +kernel
theorem dJ0_indexOf_7cf53_30 : decode cJ0_indexOf_7cf53 30 = .ok (.invokevirtual 505, 3) := by decide +kernel
theorem dJ0_indexOf_7cf53_33 : decode cJ0_indexOf_7cf53 33 = .ok (.invokestatic 640, 3) := by decide +kernel
theorem dJ0_indexOf_7cf53_36 : decode cJ0_indexOf_7cf53 36 = .ok (.ireturn, 1) := by decide +kernel
theorem dJ0_coder_7d493_0 : decode cJ0_coder_7d493 0 = .ok (.getstatic 38, 3) := by decide +kernel
theorem dJ0_coder_7d493_3 : decode cJ0_coder_7d493 3 = .ok (.ifCond .eq 10, 3) := by decide +kernel
theorem dJ0_coder_7d493_6 : decode cJ0_coder_7d493 6 = .ok (.aload_n 0, 1) := by decide +kernel
theorem dJ0_coder_7d493_7 : decode cJ0_coder_7d493 7 = .ok (.getfield 15, 3) := by decide +kernel
theorem dJ0_coder_7d493_10 : decode cJ0_coder_7d493 10 = .ok (.goto 4, 3) := by decide +kernel
theorem dJ0_coder_7d493_13 : decode cJ0_coder_7d493 13 = .ok (.iconst 1, 1) := by decide +kernel
theorem dJ0_coder_7d493_14 : decode cJ0_coder_7d493 14 = .ok (.ireturn, 1) := by decide +kernel
theorem dJ0_isLatin1_aae02_0 : decode cJ0_isLatin1_aae02 0 = .ok (.getstatic 38, 3) := by decide +kernel
theorem dJ0_isLatin1_aae02_3 : decode cJ0_isLatin1_aae02 3 = .ok (.ifCond .eq 14, 3) := by decide +kernel
theorem dJ0_isLatin1_aae02_6 : decode cJ0_isLatin1_aae02 6 = .ok (.aload_n 0, 1) := by decide +kernel
theorem dJ0_isLatin1_aae02_7 : decode cJ0_isLatin1_aae02 7 = .ok (.getfield 15, 3) := by decide +kernel
theorem dJ0_isLatin1_aae02_10 : decode cJ0_isLatin1_aae02 10 = .ok (.ifCond .ne 7, 3) := by decide +kernel
theorem dJ0_isLatin1_aae02_13 : decode cJ0_isLatin1_aae02 13 = .ok (.iconst 1, 1) := by decide +kernel
theorem dJ0_isLatin1_aae02_14 : decode cJ0_isLatin1_aae02 14 = .ok (.goto 4, 3) := by decide +kernel
theorem dJ0_isLatin1_aae02_17 : decode cJ0_isLatin1_aae02 17 = .ok (.iconst 0, 1) := by decide +kernel
theorem dJ0_isLatin1_aae02_18 : decode cJ0_isLatin1_aae02 18 = .ok (.ireturn, 1) := by decide +kernel
theorem dJ0_checkIndex_df160_0 : decode cJ0_checkIndex_df160 0 = .ok (.iload_n 0, 1) := by decide +kernel
theorem dJ0_checkIndex_df160_1 : decode cJ0_checkIndex_df160 1 = .ok (.iload_n 1, 1) := by decide +kernel
theorem dJ0_checkIndex_df160_2 : decode cJ0_checkIndex_df160 2 = .ok (.getstatic 1053, 3) := by decide +kernel
theorem dJ0_checkIndex_df160_5 : decode cJ0_checkIndex_df160 5 = .ok (.invokestatic 1059, 3) := by decide +kernel
theorem dJ0_checkIndex_df160_8 : decode cJ0_checkIndex_df160 8 = .ok (.pop, 1) := by decide +kernel
theorem dJ0_checkIndex_df160_9 : decode cJ0_checkIndex_df160 9 = .ok (.return_, 1) := by decide +kernel
theorem dJ0_checkBoundsBeginEnd_23922_0 : decode cJ0_checkBoundsBeginEnd_23922 0 = .ok (.iload_n 0, 1) := by decide +kernel
theorem dJ0_checkBoundsBeginEnd_23922_1 : decode cJ0_checkBoundsBeginEnd_23922 1 = .ok (.iload_n 1, 1) := by decide +kernel
theorem dJ0_checkBoundsBeginEnd_23922_2 : decode cJ0_checkBoundsBeginEnd_23922 2 = .ok (.iload_n 2, 1) := by decide +kernel
theorem dJ0_checkBoundsBeginEnd_23922_3 : decode cJ0_checkBoundsBeginEnd_23922 3 = .ok (.getstatic 1053, 3) := by decide +kernel
theorem dJ0_checkBoundsBeginEnd_23922_6 : decode cJ0_checkBoundsBeginEnd_23922 6 = .ok (.invokestatic 1062, 3) := by decide +kernel
theorem dJ0_checkBoundsBeginEnd_23922_9 : decode cJ0_checkBoundsBeginEnd_23922 9 = .ok (.pop, 1) := by decide +kernel
theorem dJ0_checkBoundsBeginEnd_23922_10 : decode cJ0_checkBoundsBeginEnd_23922 10 = .ok (.return_, 1) := by decide +kernel
theorem dJ1_charAt_3b067_0 : decode cJ1_charAt_3b067 0 = .ok (.iload_n 1, 1) := by decide +kernel
theorem dJ1_charAt_3b067_1 : decode cJ1_charAt_3b067 1 = .ok (.aload_n 0, 1) := by decide +kernel
theorem dJ1_charAt_3b067_2 : decode cJ1_charAt_3b067 2 = .ok (.arraylength, 1) := by decide +kernel
theorem dJ1_charAt_3b067_3 : decode cJ1_charAt_3b067 3 = .ok (.invokestatic 9, 3) := by decide +kernel
theorem dJ1_charAt_3b067_6 : decode cJ1_charAt_3b067 6 = .ok (.aload_n 0, 1) := by decide +kernel
theorem dJ1_charAt_3b067_7 : decode cJ1_charAt_3b067 7 = .ok (.iload_n 1, 1) := by decide +kernel
theorem dJ1_charAt_3b067_8 : decode cJ1_charAt_3b067 8 = .ok (.baload, 1) := by decide +kernel
theorem dJ1_charAt_3b067_9 : decode cJ1_charAt_3b067 9 = .ok (.sipush 255, 3) := by decide +kernel
theorem dJ1_charAt_3b067_12 : decode cJ1_charAt_3b067 12 = .ok (.iand, 1) := by decide +kernel
theorem dJ1_charAt_3b067_13 : decode cJ1_charAt_3b067 13 = .ok (.i2c, 1) := by decide +kernel
theorem dJ1_charAt_3b067_14 : decode cJ1_charAt_3b067 14 = .ok (.ireturn, 1) := by decide +kernel
theorem dJ1_canEncode_9a6ad_0 : decode cJ1_canEncode_9a6ad 0 = .ok (.iload_n 0, 1) := by decide +kernel
theorem dJ1_canEncode_9a6ad_1 : decode cJ1_canEncode_9a6ad 1 = .ok (.ifCond .lt 14, 3) := by decide +kernel
theorem dJ1_canEncode_9a6ad_4 : decode cJ1_canEncode_9a6ad 4 = .ok (.iload_n 0, 1) := by decide +kernel
theorem dJ1_canEncode_9a6ad_5 : decode cJ1_canEncode_9a6ad 5 = .ok (.sipush 255, 3) := by decide +kernel
theorem dJ1_canEncode_9a6ad_8 : decode cJ1_canEncode_9a6ad 8 = .ok (.if_icmp .gt 7, 3) := by decide +kernel
theorem dJ1_canEncode_9a6ad_11 : decode cJ1_canEncode_9a6ad 11 = .ok (.iconst 1, 1) := by decide +kernel
theorem dJ1_canEncode_9a6ad_12 : decode cJ1_canEncode_9a6ad 12 = .ok (.goto 4, 3) := by decide +kernel
theorem dJ1_canEncode_9a6ad_15 : decode cJ1_canEncode_9a6ad 15 = .ok (.iconst 0, 1) := by decide +kernel
theorem dJ1_canEncode_9a6ad_16 : decode cJ1_canEncode_9a6ad 16 = .ok (.ireturn, 1) := by decide +kernel
theorem dJ1_indexOf_4cfef_0 : decode cJ1_indexOf_4cfef 0 = .ok (.iload_n 1, 1) := by decide +kernel
theorem dJ1_indexOf_4cfef_1 : decode cJ1_indexOf_4cfef 1 = .ok (.invokestatic 88, 3) := by decide +kernel
theorem dJ1_indexOf_4cfef_4 : decode cJ1_indexOf_4cfef 4 = .ok (.ifCond .ne 5, 3) := by decide +kernel
theorem dJ1_indexOf_4cfef_7 : decode cJ1_indexOf_4cfef 7 = .ok (.iconst (-1), 1) := by decide +kernel
theorem dJ1_indexOf_4cfef_8 : decode cJ1_indexOf_4cfef 8 = .ok (.ireturn, 1) := by decide +kernel
theorem dJ1_indexOf_4cfef_9 : decode cJ1_indexOf_4cfef 9 = .ok (.iload_n 2, 1) := by decide +kernel
theorem dJ1_indexOf_4cfef_10 : decode cJ1_indexOf_4cfef 10 = .ok (.iconst 0, 1) := by decide +kernel
theorem dJ1_indexOf_4cfef_11 : decode cJ1_indexOf_4cfef 11 = .ok (.invokestatic 92, 3) := by decide +kernel
theorem dJ1_indexOf_4cfef_14 : decode cJ1_indexOf_4cfef 14 = .ok (.istore_n 2, 1) := by decide +kernel
theorem dJ1_indexOf_4cfef_15 : decode cJ1_indexOf_4cfef 15 = .ok (.iload_n 3, 1) := by decide +kernel
theorem dJ1_indexOf_4cfef_16 : decode cJ1_indexOf_4cfef 16 = .ok (.aload_n 0, 1) := by decide +kernel
theorem dJ1_indexOf_4cfef_17 : decode cJ1_indexOf_4cfef 17 = .ok (.arraylength, 1) := by decide +kernel
theorem dJ1_indexOf_4cfef_18 : decode cJ1_indexOf_4cfef 18 = .ok (.invokestatic 38, 3) := by decide +kernel
theorem dJ1_indexOf_4cfef_21 : decode cJ1_indexOf_4cfef 21 = .ok (.istore_n 3, 1) := by decide +kernel
theorem dJ1_indexOf_4cfef_22 : decode cJ1_indexOf_4cfef 22 = .ok (.iload_n 2, 1) := by decide +kernel
theorem dJ1_indexOf_4cfef_23 : decode cJ1_indexOf_4cfef 23 = .ok (.iload_n 3, 1) := by decide +kernel
theorem dJ1_indexOf_4cfef_24 : decode cJ1_indexOf_4cfef 24 = .ok (.if_icmp .lt 5, 3) := by decide +kernel
theorem dJ1_indexOf_4cfef_27 : decode cJ1_indexOf_4cfef 27 = .ok (.iconst (-1), 1) := by decide +kernel
theorem dJ1_indexOf_4cfef_28 : decode cJ1_indexOf_4cfef 28 = .ok (.ireturn, 1) := by decide +kernel
theorem dJ1_indexOf_4cfef_29 : decode cJ1_indexOf_4cfef 29 = .ok (.aload_n 0, 1) := by decide +kernel
theorem dJ1_indexOf_4cfef_30 : decode cJ1_indexOf_4cfef 30 = .ok (.iload_n 1, 1) := by decide +kernel
theorem dJ1_indexOf_4cfef_31 : decode cJ1_indexOf_4cfef 31 = .ok (.iload_n 2, 1) := by decide +kernel
theorem dJ1_indexOf_4cfef_32 : decode cJ1_indexOf_4cfef 32 = .ok (.iload_n 3, 1) := by decide +kernel
theorem dJ1_indexOf_4cfef_33 : decode cJ1_indexOf_4cfef 33 = .ok (.invokestatic 95, 3) := by decide +kernel
theorem dJ1_indexOf_4cfef_36 : decode cJ1_indexOf_4cfef 36 = .ok (.ireturn, 1) := by decide +kernel
theorem dJ1_indexOfChar_4cfef_0 : decode cJ1_indexOfChar_4cfef 0 = .ok (.iload_n 1, 1) := by decide +kernel
theorem dJ1_indexOfChar_4cfef_1 : decode cJ1_indexOfChar_4cfef 1 = .ok (.i2b, 1) := by decide +kernel
theorem dJ1_indexOfChar_4cfef_2 : decode cJ1_indexOfChar_4cfef 2 = .ok (.istore 4, 2) := by decide +kernel
theorem dJ1_indexOfChar_4cfef_4 : decode cJ1_indexOfChar_4cfef 4 = .ok (.iload_n 2, 1) := by decide +kernel
theorem dJ1_indexOfChar_4cfef_5 : decode cJ1_indexOfChar_4cfef 5 = .ok (.istore 5, 2) := by decide +kernel
theorem dJ1_indexOfChar_4cfef_7 : decode cJ1_indexOfChar_4cfef 7 = .ok (.iload 5, 2) := by decide +kernel
theorem dJ1_indexOfChar_4cfef_9 : decode cJ1_indexOfChar_4cfef 9 = .ok (.iload_n 3, 1) := by decide +kernel
theorem dJ1_indexOfChar_4cfef_10 : decode cJ1_indexOfChar_4cfef 10 = .ok (.if_icmp .ge 21, 3) := by decide +kernel
theorem dJ1_indexOfChar_4cfef_13 : decode cJ1_indexOfChar_4cfef 13 = .ok (.aload_n 0, 1) := by decide +kernel
theorem dJ1_indexOfChar_4cfef_14 : decode cJ1_indexOfChar_4cfef 14 = .ok (.iload 5, 2) := by decide +kernel
theorem dJ1_indexOfChar_4cfef_16 : decode cJ1_indexOfChar_4cfef 16 = .ok (.baload, 1) := by decide +kernel
theorem dJ1_indexOfChar_4cfef_17 : decode cJ1_indexOfChar_4cfef 17 = .ok (.iload 4, 2) := by decide +kernel
theorem dJ1_indexOfChar_4cfef_19 : decode cJ1_indexOfChar_4cfef 19 = .ok (.if_icmp .ne 6, 3) := by decide +kernel
theorem dJ1_indexOfChar_4cfef_22 : decode cJ1_indexOfChar_4cfef 22 = .ok (.iload 5, 2) := by decide +kernel
theorem dJ1_indexOfChar_4cfef_24 : decode cJ1_indexOfChar_4cfef 24 = .ok (.ireturn, 1) := by decide +kernel
theorem dJ1_indexOfChar_4cfef_25 : decode cJ1_indexOfChar_4cfef 25 = .ok (.iinc 5 1, 3) := by decide +kernel
theorem dJ1_indexOfChar_4cfef_28 : decode cJ1_indexOfChar_4cfef 28 = .ok (.goto (-21), 3) := by decide +kernel
theorem dJ1_indexOfChar_4cfef_31 : decode cJ1_indexOfChar_4cfef 31 = .ok (.iconst (-1), 1) := by decide +kernel
theorem dJ1_indexOfChar_4cfef_32 : decode cJ1_indexOfChar_4cfef 32 = .ok (.ireturn, 1) := by decide +kernel
theorem dJ2_getChar_3b067_0 : decode cJ2_getChar_3b067 0 = .ok (.getstatic 44, 3) := by decide +kernel
theorem dJ2_getChar_3b067_3 : decode cJ2_getChar_3b067 3 = .ok (.ifCond .ne 25, 3) := by decide +kernel
theorem dJ2_getChar_3b067_6 : decode cJ2_getChar_3b067 6 = .ok (.iload_n 1, 1) := by decide +kernel
theorem dJ2_getChar_3b067_7 : decode cJ2_getChar_3b067 7 = .ok (.ifCond .lt 11, 3) := by decide +kernel
theorem dJ2_getChar_3b067_10 : decode cJ2_getChar_3b067 10 = .ok (.iload_n 1, 1) := by decide +kernel
theorem dJ2_getChar_3b067_11 : decode cJ2_getChar_3b067 11 = .ok (.aload_n 0, 1) := by decide +kernel
theorem dJ2_getChar_3b067_12 : decode cJ2_getChar_3b067 12 = .ok (.invokestatic 48, 3) := by decide +kernel
theorem dJ2_getChar_3b067_15 : decode cJ2_getChar_3b067 15 = .ok (.if_icmp .lt 13, 3) := by decide +kernel
theorem dJ2_getChar_3b067_18 : decode cJ2_getChar_3b067 18 = .ok (.new 52, 3) := by decide +kernel
theorem dJ2_getChar_3b067_21 : decode cJ2_getChar_3b067 21 = .ok (.dup, 1) := by decide +kernel
theorem dJ2_getChar_3b067_22 : decode cJ2_getChar_3b067 22 = .ok (.ldc 54, 2) := by decide +kernel
theorem dJ2_getChar_3b067_24 : decode cJ2_getChar_3b067 24 = .ok (.invokespecial 56, 3) := by decide +kernel
theorem dJ2_getChar_3b067_27 : decode cJ2_getChar_3b067 27 = .ok (.athrow, 1) := by decide +kernel
theorem dJ2_getChar_3b067_28 : decode cJ2_getChar_3b067 28 = .ok (.iload_n 1, 1) := by decide +kernel
theorem dJ2_getChar_3b067_29 : decode cJ2_getChar_3b067 29 = .ok (.iconst 1, 1) := by decide +kernel
theorem dJ2_getChar_3b067_30 : decode cJ2_getChar_3b067 30 = .ok (.ishl, 1) := by decide +kernel
theorem dJ2_getChar_3b067_31 : decode cJ2_getChar_3b067 31 = .ok (.istore_n 1, 1) := by decide +kernel
theorem dJ2_getChar_3b067_32 : decode cJ2_getChar_3b067 32 = .ok (.aload_n 0, 1) := by decide +kernel
theorem dJ2_getChar_3b067_33 : decode cJ2_getChar_3b067 33 = .ok (.iload_n 1, 1) := by decide +kernel
theorem dJ2_getChar_3b067_34 : decode cJ2_getChar_3b067 34 = .ok (.iinc 1 1, 3) := by decide +kernel
theorem dJ2_getChar_3b067_37 : decode cJ2_getChar_3b067 37 = .ok (.baload, 1) := by decide +kernel
theorem dJ2_getChar_3b067_38 : decode cJ2_getChar_3b067 38 = .ok (.sipush 255, 3) := by decide +kernel
theorem dJ2_getChar_3b067_41 : decode cJ2_getChar_3b067 41 = .ok (.iand, 1) := by decide +kernel
theorem dJ2_getChar_3b067_42 : decode cJ2_getChar_3b067 42 = .ok (.getstatic 59, 3) := by decide +kernel
theorem dJ2_getChar_3b067_45 : decode cJ2_getChar_3b067 45 = .ok (.ishl, 1) := by decide +kernel
theorem dJ2_getChar_3b067_46 : decode cJ2_getChar_3b067 46 = .ok (.aload_n 0, 1) := by decide +kernel
theorem dJ2_getChar_3b067_47 : decode cJ2_getChar_3b067 47 = .ok (.iload_n 1, 1) := by decide +kernel
theorem dJ2_getChar_3b067_48 : decode cJ2_getChar_3b067 48 = .ok (.baload, 1) := by decide +kernel
theorem dJ2_getChar_3b067_49 : decode cJ2_getChar_3b067 49 = .ok (.sipush 255, 3) := by decide +kernel
theorem dJ2_getChar_3b067_52 : decode cJ2_getChar_3b067 52 = .ok (.iand, 1) := by decide +kernel
theorem dJ2_getChar_3b067_53 : decode cJ2_getChar_3b067 53 = .ok (.getstatic 63, 3) := by decide +kernel
theorem dJ2_getChar_3b067_56 : decode cJ2_getChar_3b067 56 = .ok (.ishl, 1) := by decide +kernel
theorem dJ2_getChar_3b067_57 : decode cJ2_getChar_3b067 57 = .ok (.ior, 1) := by decide +kernel
theorem dJ2_getChar_3b067_58 : decode cJ2_getChar_3b067 58 = .ok (.i2c, 1) := by decide +kernel
theorem dJ2_getChar_3b067_59 : decode cJ2_getChar_3b067 59 = .ok (.ireturn, 1) := by decide +kernel
theorem dJ2_length_9d52b_0 : decode cJ2_length_9d52b 0 = .ok (.aload_n 0, 1) := by decide +kernel
theorem dJ2_length_9d52b_1 : decode cJ2_length_9d52b 1 = .ok (.arraylength, 1) := by decide +kernel
theorem dJ2_length_9d52b_2 : decode cJ2_length_9d52b 2 = .ok (.iconst 1, 1) := by decide +kernel
theorem dJ2_length_9d52b_3 : decode cJ2_length_9d52b 3 = .ok (.ishr, 1) := by decide +kernel
theorem dJ2_length_9d52b_4 : decode cJ2_length_9d52b 4 = .ok (.ireturn, 1) := by decide +kernel
theorem dJ2_indexOf_4cfef_0 : decode cJ2_indexOf_4cfef 0 = .ok (.iload_n 2, 1) := by decide +kernel
theorem dJ2_indexOf_4cfef_1 : decode cJ2_indexOf_4cfef 1 = .ok (.iconst 0, 1) := by decide +kernel
theorem dJ2_indexOf_4cfef_2 : decode cJ2_indexOf_4cfef 2 = .ok (.invokestatic 224, 3) := by decide +kernel
theorem dJ2_indexOf_4cfef_5 : decode cJ2_indexOf_4cfef 5 = .ok (.istore_n 2, 1) := by decide +kernel
theorem dJ2_indexOf_4cfef_6 : decode cJ2_indexOf_4cfef 6 = .ok (.iload_n 3, 1) := by decide +kernel
theorem dJ2_indexOf_4cfef_7 : decode cJ2_indexOf_4cfef 7 = .ok (.aload_n 0, 1) := by decide +kernel
theorem dJ2_indexOf_4cfef_8 : decode cJ2_indexOf_4cfef 8 = .ok (.arraylength, 1) := by decide +kernel
theorem dJ2_indexOf_4cfef_9 : decode cJ2_indexOf_4cfef 9 = .ok (.iconst 1, 1) := by decide +kernel
theorem dJ2_indexOf_4cfef_10 : decode cJ2_indexOf_4cfef 10 = .ok (.ishr, 1) := by decide +kernel
theorem dJ2_indexOf_4cfef_11 : decode cJ2_indexOf_4cfef 11 = .ok (.invokestatic 183, 3) := by decide +kernel
theorem dJ2_indexOf_4cfef_14 : decode cJ2_indexOf_4cfef 14 = .ok (.istore_n 3, 1) := by decide +kernel
theorem dJ2_indexOf_4cfef_15 : decode cJ2_indexOf_4cfef 15 = .ok (.iload_n 2, 1) := by decide +kernel
theorem dJ2_indexOf_4cfef_16 : decode cJ2_indexOf_4cfef 16 = .ok (.iload_n 3, 1) := by decide +kernel
theorem dJ2_indexOf_4cfef_17 : decode cJ2_indexOf_4cfef 17 = .ok (.if_icmp .lt 5, 3) := by decide +kernel
theorem dJ2_indexOf_4cfef_20 : decode cJ2_indexOf_4cfef 20 = .ok (.iconst (-1), 1) := by decide +kernel
theorem dJ2_indexOf_4cfef_21 : decode cJ2_indexOf_4cfef 21 = .ok (.ireturn, 1) := by decide +kernel
theorem dJ2_indexOf_4cfef_22 : decode cJ2_indexOf_4cfef 22 = .ok (.iload_n 1, 1) := by decide +kernel
theorem dJ2_indexOf_4cfef_23 : decode cJ2_indexOf_4cfef 23 = .ok (.ldc 227, 2) := by decide +kernel
theorem dJ2_indexOf_4cfef_25 : decode cJ2_indexOf_4cfef 25 = .ok (.if_icmp .ge 11, 3) := by decide +kernel
theorem dJ2_indexOf_4cfef_28 : decode cJ2_indexOf_4cfef 28 = .ok (.aload_n 0, 1) := by decide +kernel
theorem dJ2_indexOf_4cfef_29 : decode cJ2_indexOf_4cfef 29 = .ok (.iload_n 1, 1) := by decide +kernel
theorem dJ2_indexOf_4cfef_30 : decode cJ2_indexOf_4cfef 30 = .ok (.iload_n 2, 1) := by decide +kernel
theorem dJ2_indexOf_4cfef_31 : decode cJ2_indexOf_4cfef 31 = .ok (.iload_n 3, 1) := by decide +kernel
theorem dJ2_indexOf_4cfef_32 : decode cJ2_indexOf_4cfef 32 = .ok (.invokestatic 228, 3) := by decide +kernel
theorem dJ2_indexOf_4cfef_35 : decode cJ2_indexOf_4cfef 35 = .ok (.ireturn, 1) := by decide +kernel
theorem dJ2_indexOf_4cfef_36 : decode cJ2_indexOf_4cfef 36 = .ok (.aload_n 0, 1) := by decide +kernel
theorem dJ2_indexOf_4cfef_37 : decode cJ2_indexOf_4cfef 37 = .ok (.iload_n 1, 1) := by decide +kernel
theorem dJ2_indexOf_4cfef_38 : decode cJ2_indexOf_4cfef 38 = .ok (.iload_n 2, 1) := by decide +kernel
theorem dJ2_indexOf_4cfef_39 : decode cJ2_indexOf_4cfef 39 = .ok (.iload_n 3, 1) := by decide +kernel
theorem dJ2_indexOf_4cfef_40 : decode cJ2_indexOf_4cfef 40 = .ok (.invokestatic 232, 3) := by decide +kernel
theorem dJ2_indexOf_4cfef_43 : decode cJ2_indexOf_4cfef 43 = .ok (.ireturn, 1) := by decide +kernel
theorem dJ2_indexOfChar_4cfef_0 : decode cJ2_indexOfChar_4cfef 0 = .ok (.iload_n 2, 1) := by decide +kernel
theorem dJ2_indexOfChar_4cfef_1 : decode cJ2_indexOfChar_4cfef 1 = .ok (.iload_n 3, 1) := by decide +kernel
theorem dJ2_indexOfChar_4cfef_2 : decode cJ2_indexOfChar_4cfef 2 = .ok (.aload_n 0, 1) := by decide +kernel
theorem dJ2_indexOfChar_4cfef_3 : decode cJ2_indexOfChar_4cfef 3 = .ok (.invokestatic 96, 3) := by decide +kernel
theorem dJ2_indexOfChar_4cfef_6 : decode cJ2_indexOfChar_4cfef 6 = .ok (.aload_n 0, 1) := by decide +kernel
theorem dJ2_indexOfChar_4cfef_7 : decode cJ2_indexOfChar_4cfef 7 = .ok (.iload_n 1, 1) := by decide +kernel
theorem dJ2_indexOfChar_4cfef_8 : decode cJ2_indexOfChar_4cfef 8 = .ok (.iload_n 2, 1) := by decide +kernel
theorem dJ2_indexOfChar_4cfef_9 : decode cJ2_indexOfChar_4cfef 9 = .ok (.iload_n 3, 1) := by decide +kernel
theorem dJ2_indexOfChar_4cfef_10 : decode cJ2_indexOfChar_4cfef 10 = .ok (.invokestatic 244, 3) := by decide +kernel
theorem dJ2_indexOfChar_4cfef_13 : decode cJ2_indexOfChar_4cfef 13 = .ok (.ireturn, 1) := by decide +kernel
theorem dJ2_indexOfCharUnsafe_4cfef_0 : decode cJ2_indexOfCharUnsafe_4cfef 0 = .ok (.iload_n 2, 1) := by decide +kernel
theorem dJ2_indexOfCharUnsafe_4cfef_1 : decode cJ2_indexOfCharUnsafe_4cfef 1 = .ok (.istore 4, 2) := by decide +kernel
theorem dJ2_indexOfCharUnsafe_4cfef_3 : decode cJ2_indexOfCharUnsafe_4cfef 3 = .ok (.iload 4, 2) := by decide +kernel
theorem dJ2_indexOfCharUnsafe_4cfef_5 : decode cJ2_indexOfCharUnsafe_4cfef 5 = .ok (.iload_n 3, 1) := by decide +kernel
theorem dJ2_indexOfCharUnsafe_4cfef_6 : decode cJ2_indexOfCharUnsafe_4cfef 6 = .ok (.if_icmp .ge 22, 3) := by decide +kernel
theorem dJ2_indexOfCharUnsafe_4cfef_9 : decode cJ2_indexOfCharUnsafe_4cfef 9 = .ok (.aload_n 0, 1) := by decide +kernel
theorem dJ2_indexOfCharUnsafe_4cfef_10 : decode cJ2_indexOfCharUnsafe_4cfef 10 = .ok (.iload 4, 2) := by decide +kernel
theorem dJ2_indexOfCharUnsafe_4cfef_12 : decode cJ2_indexOfCharUnsafe_4cfef 12 = .ok (.invokestatic 71, 3) := by decide +kernel
theorem dJ2_indexOfCharUnsafe_4cfef_15 : decode cJ2_indexOfCharUnsafe_4cfef 15 = .ok (.iload_n 1, 1) := by decide +kernel
theorem dJ2_indexOfCharUnsafe_4cfef_16 : decode cJ2_indexOfCharUnsafe_4cfef 16 = .ok (.if_icmp .ne 6, 3) := by decide +kernel
theorem dJ2_indexOfCharUnsafe_4cfef_19 : decode cJ2_indexOfCharUnsafe_4cfef 19 = .ok (.iload 4, 2) := by decide +kernel
theorem dJ2_indexOfCharUnsafe_4cfef_21 : decode cJ2_indexOfCharUnsafe_4cfef 21 = .ok (.ireturn, 1) := by decide +kernel
theorem dJ2_indexOfCharUnsafe_4cfef_22 : decode cJ2_indexOfCharUnsafe_4cfef 22 = .ok (.iinc 4 1, 3) := by decide +kernel
theorem dJ2_indexOfCharUnsafe_4cfef_25 : decode cJ2_indexOfCharUnsafe_4cfef 25 = .ok (.goto (-22), 3) := by decide +kernel
theorem dJ2_indexOfCharUnsafe_4cfef_28 : decode cJ2_indexOfCharUnsafe_4cfef 28 = .ok (.iconst (-1), 1) := by decide +kernel
theorem dJ2_indexOfCharUnsafe_4cfef_29 : decode cJ2_indexOfCharUnsafe_4cfef 29 = .ok (.ireturn, 1) := by decide +kernel
theorem dJ2_indexOfSupplementary_4cfef_0 : decode cJ2_indexOfSupplementary_4cfef 0 = .ok (.iload_n 1, 1) := by decide +kernel
theorem dJ2_indexOfSupplementary_4cfef_1 : decode cJ2_indexOfSupplementary_4cfef 1 = .ok (.invokestatic 164, 3) := by decide +kernel
theorem dJ2_indexOfSupplementary_4cfef_4 : decode cJ2_indexOfSupplementary_4cfef 4 = .ok (.ifCond .eq 65, 3) := by decide +kernel
theorem dJ2_indexOfSupplementary_4cfef_7 : decode cJ2_indexOfSupplementary_4cfef 7 = .ok (.iload_n 1, 1) := by decide +kernel
theorem dJ2_indexOfSupplementary_4cfef_8 : decode cJ2_indexOfSupplementary_4cfef 8 = .ok (.invokestatic 157, 3) := by decide +kernel
theorem dJ2_indexOfSupplementary_4cfef_11 : decode cJ2_indexOfSupplementary_4cfef 11 = .ok (.istore 4, 2) := by decide +kernel
theorem dJ2_indexOfSupplementary_4cfef_13 : decode cJ2_indexOfSupplementary_4cfef 13 = .ok (.iload_n 1, 1) := by decide +kernel
theorem dJ2_indexOfSupplementary_4cfef_14 : decode cJ2_indexOfSupplementary_4cfef 14 = .ok (.invokestatic 161, 3) := by decide +kernel
theorem dJ2_indexOfSupplementary_4cfef_17 : decode cJ2_indexOfSupplementary_4cfef 17 = .ok (.istore 5, 2) := by decide +kernel
theorem dJ2_indexOfSupplementary_4cfef_19 : decode cJ2_indexOfSupplementary_4cfef 19 = .ok (.iload_n 2, 1) := by decide +kernel
theorem dJ2_indexOfSupplementary_4cfef_20 : decode cJ2_indexOfSupplementary_4cfef 20 = .ok (.iload_n 3, 1) := by decide +kernel
theorem dJ2_indexOfSupplementary_4cfef_21 : decode cJ2_indexOfSupplementary_4cfef 21 = .ok (.aload_n 0, 1) := by decide +kernel
theorem dJ2_indexOfSupplementary_4cfef_22 : decode cJ2_indexOfSupplementary_4cfef 22 = .ok (.invokestatic 96, 3) := by decide +kernel
theorem dJ2_indexOfSupplementary_4cfef_25 : decode cJ2_indexOfSupplementary_4cfef 25 = .ok (.iload_n 2, 1) := by decide +kernel
theorem dJ2_indexOfSupplementary_4cfef_26 : decode cJ2_indexOfSupplementary_4cfef 26 = .ok (.istore 6, 2) := by decide +kernel
theorem dJ2_indexOfSupplementary_4cfef_28 : decode cJ2_indexOfSupplementary_4cfef 28 = .ok (.iload 6, 2) := by decide +kernel
theorem dJ2_indexOfSupplementary_4cfef_30 : decode cJ2_indexOfSupplementary_4cfef 30 = .ok (.iload_n 3, 1) := by decide +kernel
theorem dJ2_indexOfSupplementary_4cfef_31 : decode cJ2_indexOfSupplementary_4cfef 31 = .ok (.iconst 1, 1) := by decide +kernel
theorem dJ2_indexOfSupplementary_4cfef_32 : decode cJ2_indexOfSupplementary_4cfef 32 = .ok (.isub, 1) := by decide +kernel
theorem dJ2_indexOfSupplementary_4cfef_33 : decode cJ2_indexOfSupplementary_4cfef 33 = .ok (.if_icmp .ge 36, 3) := by decide +kernel
theorem dJ2_indexOfSupplementary_4cfef_36 : decode cJ2_indexOfSupplementary_4cfef 36 = .ok (.aload_n 0, 1) := by decide +kernel
theorem dJ2_indexOfSupplementary_4cfef_37 : decode cJ2_indexOfSupplementary_4cfef 37 = .ok (.iload 6, 2) := by decide +kernel
theorem dJ2_indexOfSupplementary_4cfef_39 : decode cJ2_indexOfSupplementary_4cfef 39 = .ok (.invokestatic 71, 3) := by decide +kernel
theorem dJ2_indexOfSupplementary_4cfef_42 : decode cJ2_indexOfSupplementary_4cfef 42 = .ok (.iload 4, 2) := by decide +kernel
theorem dJ2_indexOfSupplementary_4cfef_44 : decode cJ2_indexOfSupplementary_4cfef 44 = .ok (.if_icmp .ne 19, 3) := by decide +kernel
theorem dJ2_indexOfSupplementary_4cfef_47 : decode cJ2_indexOfSupplementary_4cfef 47 = .ok (.aload_n 0, 1) := by decide +kernel
theorem dJ2_indexOfSupplementary_4cfef_48 : decode cJ2_indexOfSupplementary_4cfef 48 = .ok (.iload 6, 2) := by decide +kernel
theorem dJ2_indexOfSupplementary_4cfef_50 : decode cJ2_indexOfSupplementary_4cfef 50 = .ok (.iconst 1, 1) := by decide +kernel
theorem dJ2_indexOfSupplementary_4cfef_51 : decode cJ2_indexOfSupplementary_4cfef 51 = .ok (.iadd, 1) := by decide +kernel
theorem dJ2_indexOfSupplementary_4cfef_52 : decode cJ2_indexOfSupplementary_4cfef 52 = .ok (.invokestatic 71, 3) := by decide +kernel
theorem dJ2_indexOfSupplementary_4cfef_55 : decode cJ2_indexOfSupplementary_4cfef 55 = .ok (.iload 5, 2) := by decide +kernel
theorem dJ2_indexOfSupplementary_4cfef_57 : decode cJ2_indexOfSupplementary_4cfef 57 = .ok (.if_icmp .ne 6, 3) := by decide +kernel
theorem dJ2_indexOfSupplementary_4cfef_60 : decode cJ2_indexOfSupplementary_4cfef 60 = .ok (.iload 6, 2) := by decide +kernel
theorem dJ2_indexOfSupplementary_4cfef_62 : decode cJ2_indexOfSupplementary_4cfef 62 = .ok (.ireturn, 1) := by decide +kernel
theorem dJ2_indexOfSupplementary_4cfef_63 : decode cJ2_indexOfSupplementary_4cfef 63 = .ok (.iinc 6 1, 3) := by decide +kernel
theorem dJ2_indexOfSupplementary_4cfef_66 : decode cJ2_indexOfSupplementary_4cfef 66 = .ok (.goto (-38), 3) := by decide +kernel
theorem dJ2_indexOfSupplementary_4cfef_69 : decode cJ2_indexOfSupplementary_4cfef 69 = .ok (.iconst (-1), 1) := by decide +kernel
theorem dJ2_indexOfSupplementary_4cfef_70 : decode cJ2_indexOfSupplementary_4cfef 70 = .ok (.ireturn, 1) := by decide +kernel
theorem dJ2_charAt_3b067_0 : decode cJ2_charAt_3b067 0 = .ok (.iload_n 1, 1) := by decide +kernel
theorem dJ2_charAt_3b067_1 : decode cJ2_charAt_3b067 1 = .ok (.aload_n 0, 1) := by decide +kernel
theorem dJ2_charAt_3b067_2 : decode cJ2_charAt_3b067 2 = .ok (.invokestatic 67, 3) := by decide +kernel
theorem dJ2_charAt_3b067_5 : decode cJ2_charAt_3b067 5 = .ok (.aload_n 0, 1) := by decide +kernel
theorem dJ2_charAt_3b067_6 : decode cJ2_charAt_3b067 6 = .ok (.iload_n 1, 1) := by decide +kernel
theorem dJ2_charAt_3b067_7 : decode cJ2_charAt_3b067 7 = .ok (.invokestatic 71, 3) := by decide +kernel
theorem dJ2_charAt_3b067_10 : decode cJ2_charAt_3b067 10 = .ok (.ireturn, 1) := by decide +kernel
theorem dJ2_checkIndex_2214a_0 : decode cJ2_checkIndex_2214a 0 = .ok (.iload_n 0, 1) := by decide +kernel
theorem dJ2_checkIndex_2214a_1 : decode cJ2_checkIndex_2214a 1 = .ok (.aload_n 1, 1) := by decide +kernel
theorem dJ2_checkIndex_2214a_2 : decode cJ2_checkIndex_2214a 2 = .ok (.invokestatic 48, 3) := by decide +kernel
theorem dJ2_checkIndex_2214a_5 : decode cJ2_checkIndex_2214a 5 = .ok (.invokestatic 414, 3) := by decide +kernel
theorem dJ2_checkIndex_2214a_8 : decode cJ2_checkIndex_2214a 8 = .ok (.return_, 1) := by decide +kernel
theorem dJ2_checkBoundsBeginEnd_d044e_0 : decode cJ2_checkBoundsBeginEnd_d044e 0 = .ok (.iload_n 0, 1) := by decide +kernel
theorem dJ2_checkBoundsBeginEnd_d044e_1 : decode cJ2_checkBoundsBeginEnd_d044e 1 = .ok (.iload_n 1, 1) := by decide +kernel
theorem dJ2_checkBoundsBeginEnd_d044e_2 : decode cJ2_checkBoundsBeginEnd_d044e 2 = .ok (.aload_n 2, 1) := by decide +kernel
theorem dJ2_checkBoundsBeginEnd_d044e_3 : decode cJ2_checkBoundsBeginEnd_d044e 3 = .ok (.invokestatic 48, 3) := by decide +kernel
theorem dJ2_checkBoundsBeginEnd_d044e_6 : decode cJ2_checkBoundsBeginEnd_d044e 6 = .ok (.invokestatic 241, 3) := by decide +kernel
theorem dJ2_checkBoundsBeginEnd_d044e_9 : decode cJ2_checkBoundsBeginEnd_d044e 9 = .ok (.return_, 1) := by decide +kernel
theorem dJ7_fill_53178_0 : decode cJ7_fill_53178 0 = .ok (.iconst 0, 1) := by decide +kernel
theorem dJ7_fill_53178_1 : decode cJ7_fill_53178 1 = .ok (.istore_n 2, 1) := by decide +kernel
theorem dJ7_fill_53178_2 : decode cJ7_fill_53178 2 = .ok (.aload_n 0, 1) := by decide +kernel
theorem dJ7_fill_53178_3 : decode cJ7_fill_53178 3 = .ok (.arraylength, 1) := by decide +kernel
theorem dJ7_fill_53178_4 : decode cJ7_fill_53178 4 = .ok (.istore_n 3, 1) := by decide +kernel
theorem dJ7_fill_53178_5 : decode cJ7_fill_53178 5 = .ok (.iload_n 2, 1) := by decide +kernel
theorem dJ7_fill_53178_6 : decode cJ7_fill_53178 6 = .ok (.iload_n 3, 1) := by decide +kernel
theorem dJ7_fill_53178_7 : decode cJ7_fill_53178 7 = .ok (.if_icmp .ge 13, 3) := by decide +kernel
theorem dJ7_fill_53178_10 : decode cJ7_fill_53178 10 = .ok (.aload_n 0, 1) := by decide +kernel
theorem dJ7_fill_53178_11 : decode cJ7_fill_53178 11 = .ok (.iload_n 2, 1) := by decide +kernel
theorem dJ7_fill_53178_12 : decode cJ7_fill_53178 12 = .ok (.iload_n 1, 1) := by decide +kernel
theorem dJ7_fill_53178_13 : decode cJ7_fill_53178 13 = .ok (.iastore, 1) := by decide +kernel
theorem dJ7_fill_53178_14 : decode cJ7_fill_53178 14 = .ok (.iinc 2 1, 3) := by decide +kernel
theorem dJ7_fill_53178_17 : decode cJ7_fill_53178 17 = .ok (.goto (-12), 3) := by decide +kernel
theorem dJ7_fill_53178_20 : decode cJ7_fill_53178 20 = .ok (.return_, 1) := by decide +kernel
theorem dJ7_copyOf_59c91_0 : decode cJ7_copyOf_59c91 0 = .ok (.iload_n 1, 1) := by decide +kernel
theorem dJ7_copyOf_59c91_1 : decode cJ7_copyOf_59c91 1 = .ok (.aload_n 0, 1) := by decide +kernel
theorem dJ7_copyOf_59c91_2 : decode cJ7_copyOf_59c91 2 = .ok (.arraylength, 1) := by decide +kernel
theorem dJ7_copyOf_59c91_3 : decode cJ7_copyOf_59c91 3 = .ok (.if_icmp .ne 11, 3) := by decide +kernel
theorem dJ7_copyOf_59c91_6 : decode cJ7_copyOf_59c91 6 = .ok (.aload_n 0, 1) := by decide +kernel
theorem dJ7_copyOf_59c91_7 : decode cJ7_copyOf_59c91 7 = .ok (.invokevirtual 316, 3) := by decide +kernel
theorem dJ7_copyOf_59c91_10 : decode cJ7_copyOf_59c91 10 = .ok (.checkcast 317, 3) := by decide +kernel
theorem dJ7_copyOf_59c91_13 : decode cJ7_copyOf_59c91 13 = .ok (.areturn, 1) := by decide +kernel
theorem dJ7_copyOf_59c91_14 : decode cJ7_copyOf_59c91 14 = .ok (.iload_n 1, 1) := by decide +kernel
theorem dJ7_copyOf_59c91_15 : decode cJ7_copyOf_59c91 15 = .ok (.newarray .int, 2) := by decide +kernel
theorem dJ7_copyOf_59c91_17 : decode cJ7_copyOf_59c91 17 = .ok (.astore_n 2, 1) := by decide +kernel
theorem dJ7_copyOf_59c91_18 : decode cJ7_copyOf_59c91 18 = .ok (.aload_n 0, 1) := by decide +kernel
theorem dJ7_copyOf_59c91_19 : decode cJ7_copyOf_59c91 19 = .ok (.iconst 0, 1) := by decide +kernel
theorem dJ7_copyOf_59c91_20 : decode cJ7_copyOf_59c91 20 = .ok (.aload_n 2, 1) := by decide +kernel
theorem dJ7_copyOf_59c91_21 : decode cJ7_copyOf_59c91 21 = .ok (.iconst 0, 1) := by decide +kernel
theorem dJ7_copyOf_59c91_22 : decode cJ7_copyOf_59c91 22 = .ok (.aload_n 0, 1) := by decide +kernel
theorem dJ7_copyOf_59c91_23 : decode cJ7_copyOf_59c91 23 = .ok (.arraylength, 1) := by decide +kernel
theorem dJ7_copyOf_59c91_24 : decode cJ7_copyOf_59c91 24 = .ok (.iload_n 1, 1) := by decide +kernel
theorem dJ7_copyOf_59c91_25 : decode cJ7_copyOf_59c91 25 = .ok (.invokestatic 304, 3) := by decide +kernel
theorem dJ7_copyOf_59c91_28 : decode cJ7_copyOf_59c91 28 = .ok (.invokestatic 150, 3) := by decide +kernel
theorem dJ7_copyOf_59c91_31 : decode cJ7_copyOf_59c91 31 = .ok (.aload_n 2, 1) := by decide +kernel
theorem dJ7_copyOf_59c91_32 : decode cJ7_copyOf_59c91 32 = .ok (.areturn, 1) := by decide +kernel
theorem dJ3_checkIndex_8e157_0 : decode cJ3_checkIndex_8e157 0 = .ok (.iload_n 0, 1) := by decide +kernel
theorem dJ3_checkIndex_8e157_1 : decode cJ3_checkIndex_8e157 1 = .ok (.ifCond .lt 8, 3) := by decide +kernel
theorem dJ3_checkIndex_8e157_4 : decode cJ3_checkIndex_8e157 4 = .ok (.iload_n 0, 1) := by decide +kernel
theorem dJ3_checkIndex_8e157_5 : decode cJ3_checkIndex_8e157 5 = .ok (.iload_n 1, 1) := by decide +kernel
theorem dJ3_checkIndex_8e157_6 : decode cJ3_checkIndex_8e157 6 = .ok (.if_icmp .lt 10, 3) := by decide +kernel
theorem dJ3_checkIndex_8e157_9 : decode cJ3_checkIndex_8e157 9 = .ok (.aload_n 2, 1) := by decide +kernel
theorem dJ3_checkIndex_8e157_10 : decode cJ3_checkIndex_8e157 10 = .ok (.iload_n 0, 1) := by decide +kernel
theorem dJ3_checkIndex_8e157_11 : decode cJ3_checkIndex_8e157 11 = .ok (.iload_n 1, 1) := by decide +kernel
theorem dJ3_checkIndex_8e157_12 : decode cJ3_checkIndex_8e157 12 = .ok (.invokestatic 95, 3) := by decide +kernel
theorem dJ3_checkIndex_8e157_15 : decode cJ3_checkIndex_8e157 15 = .ok (.athrow, 1) := by decide +kernel
theorem dJ3_checkIndex_8e157_16 : decode cJ3_checkIndex_8e157 16 = .ok (.iload_n 0, 1) := by decide +kernel
theorem dJ3_checkIndex_8e157_17 : decode cJ3_checkIndex_8e157 17 = .ok (.ireturn, 1) := by decide +kernel
theorem dJ3_checkFromToIndex_8c36e_0 : decode cJ3_checkFromToIndex_8c36e 0 = .ok (.iload_n 0, 1) := by decide +kernel
theorem dJ3_checkFromToIndex_8c36e_1 : decode cJ3_checkFromToIndex_8c36e 1 = .ok (.ifCond .lt 13, 3) := by decide +kernel
theorem dJ3_checkFromToIndex_8c36e_4 : decode cJ3_checkFromToIndex_8c36e 4 = .ok (.iload_n 0, 1) := by decide +kernel
theorem dJ3_checkFromToIndex_8c36e_5 : decode cJ3_checkFromToIndex_8c36e 5 = .ok (.iload_n 1, 1) := by decide +kernel
theorem dJ3_checkFromToIndex_8c36e_6 : decode cJ3_checkFromToIndex_8c36e 6 = .ok (.if_icmp .gt 8, 3) := by decide +kernel
theorem dJ3_checkFromToIndex_8c36e_9 : decode cJ3_checkFromToIndex_8c36e 9 = .ok (.iload_n 1, 1) := by decide +kernel
theorem dJ3_checkFromToIndex_8c36e_10 : decode cJ3_checkFromToIndex_8c36e 10 = .ok (.iload_n 2, 1) := by decide +kernel
theorem dJ3_checkFromToIndex_8c36e_11 : decode cJ3_checkFromToIndex_8c36e 11 = .ok (.if_icmp .le 11, 3) := by decide +kernel
theorem dJ3_checkFromToIndex_8c36e_14 : decode cJ3_checkFromToIndex_8c36e 14 = .ok (.aload_n 3, 1) := by decide +kernel
theorem dJ3_checkFromToIndex_8c36e_15 : decode cJ3_checkFromToIndex_8c36e 15 = .ok (.iload_n 0, 1) := by decide +kernel
theorem dJ3_checkFromToIndex_8c36e_16 : decode cJ3_checkFromToIndex_8c36e 16 = .ok (.iload_n 1, 1) := by decide +kernel
theorem dJ3_checkFromToIndex_8c36e_17 : decode cJ3_checkFromToIndex_8c36e 17 = .ok (.iload_n 2, 1) := by decide +kernel
theorem dJ3_checkFromToIndex_8c36e_18 : decode cJ3_checkFromToIndex_8c36e 18 = .ok (.invokestatic 99, 3) := by decide +kernel
theorem dJ3_checkFromToIndex_8c36e_21 : decode cJ3_checkFromToIndex_8c36e 21 = .ok (.athrow, 1) := by decide +kernel
theorem dJ3_checkFromToIndex_8c36e_22 : decode cJ3_checkFromToIndex_8c36e 22 = .ok (.iload_n 0, 1) := by decide +kernel
theorem dJ3_checkFromToIndex_8c36e_23 : decode cJ3_checkFromToIndex_8c36e 23 = .ok (.ireturn, 1) := by decide +kernel
theorem dL_guest_0 : decode cL_guest 0 = .ok (.aload_n 3, 1) := by decide +kernel
theorem dL_guest_1 : decode cL_guest 1 = .ok (.iconst 0, 1) := by decide +kernel
theorem dL_guest_2 : decode cL_guest 2 = .ok (.aload_n 0, 1) := by decide +kernel
theorem dL_guest_3 : decode cL_guest 3 = .ok (.iload_n 1, 1) := by decide +kernel
theorem dL_guest_4 : decode cL_guest 4 = .ok (.iload_n 2, 1) := by decide +kernel
theorem dL_guest_5 : decode cL_guest 5 = .ok (.invokevirtual 7, 3) := by decide +kernel
theorem dL_guest_8 : decode cL_guest 8 = .ok (.i2l, 1) := by decide +kernel
theorem dL_guest_9 : decode cL_guest 9 = .ok (.lastore, 1) := by decide +kernel
theorem dL_guest_10 : decode cL_guest 10 = .ok (.goto 7, 3) := by decide +kernel
theorem dL_guest_13 : decode cL_guest 13 = .ok (.astore 4, 2) := by decide +kernel
theorem dL_guest_15 : decode cL_guest 15 = .ok (.iconst 1, 1) := by decide +kernel
theorem dL_guest_16 : decode cL_guest 16 = .ok (.ireturn, 1) := by decide +kernel
theorem dL_guest_17 : decode cL_guest 17 = .ok (.iconst 0, 1) := by decide +kernel
theorem dL_guest_18 : decode cL_guest 18 = .ok (.ireturn, 1) := by decide +kernel
theorem dL_law_0 : decode cL_law 0 = .ok (.new 8, 3) := by decide +kernel
theorem dL_law_3 : decode cL_law 3 = .ok (.dup, 1) := by decide +kernel
theorem dL_law_4 : decode cL_law 4 = .ok (.invokespecial 15, 3) := by decide +kernel
theorem dL_law_7 : decode cL_law 7 = .ok (.astore_n 1, 1) := by decide +kernel
theorem dL_law_8 : decode cL_law 8 = .ok (.new 16, 3) := by decide +kernel
theorem dL_law_11 : decode cL_law 11 = .ok (.dup, 1) := by decide +kernel
theorem dL_law_12 : decode cL_law 12 = .ok (.invokespecial 18, 3) := by decide +kernel
theorem dL_law_15 : decode cL_law 15 = .ok (.astore_n 2, 1) := by decide +kernel
theorem dL_law_16 : decode cL_law 16 = .ok (.iconst 1, 1) := by decide +kernel
theorem dL_law_17 : decode cL_law 17 = .ok (.newarray .long, 2) := by decide +kernel
theorem dL_law_19 : decode cL_law 19 = .ok (.astore_n 3, 1) := by decide +kernel
theorem dL_law_20 : decode cL_law 20 = .ok (.iconst 0, 1) := by decide +kernel
theorem dL_law_21 : decode cL_law 21 = .ok (.istore 4, 2) := by decide +kernel
theorem dL_law_23 : decode cL_law 23 = .ok (.iload 4, 2) := by decide +kernel
theorem dL_law_25 : decode cL_law 25 = .ok (.aload_n 0, 1) := by decide +kernel
theorem dL_law_26 : decode cL_law 26 = .ok (.arraylength, 1) := by decide +kernel
theorem dL_law_27 : decode cL_law 27 = .ok (.bipush 6, 2) := by decide +kernel
theorem dL_law_29 : decode cL_law 29 = .ok (.isub, 1) := by decide +kernel
theorem dL_law_30 : decode cL_law 30 = .ok (.if_icmp .gt 1637, 3) := by decide +kernel
theorem dL_law_33 : decode cL_law 33 = .ok (.aload_n 0, 1) := by decide +kernel
theorem dL_law_34 : decode cL_law 34 = .ok (.iload 4, 2) := by decide +kernel
theorem dL_law_36 : decode cL_law 36 = .ok (.iaload, 1) := by decide +kernel
theorem dL_law_37 : decode cL_law 37 = .ok (.bipush 63, 2) := by decide +kernel
theorem dL_law_39 : decode cL_law 39 = .ok (.iand, 1) := by decide +kernel
theorem dL_law_40 : decode cL_law 40 = .ok (.tableswitch 1621 0 41 #[184, 257, 282, 307, 332, 357, 394, 462, 487, 512, 537, 550, 575, 612, 649, 718, 731, 768, 817, 854, 879, 904, 941, 978, 1003, 1028, 1089, 1126, 1163, 1212, 1285, 1334, 1359, 1396, 1433, 1458, 1483, 1508, 1533, 1570, 1583, 1596], 184) := by decide +kernel
theorem dL_law_224 : decode cL_law 224 = .ok (.aload_n 1, 1) := by decide +kernel
theorem dL_law_225 : decode cL_law 225 = .ok (.aload_n 0, 1) := by decide +kernel
theorem dL_law_226 : decode cL_law 226 = .ok (.iload 4, 2) := by decide +kernel
theorem dL_law_228 : decode cL_law 228 = .ok (.iconst 1, 1) := by decide +kernel
theorem dL_law_229 : decode cL_law 229 = .ok (.iadd, 1) := by decide +kernel
theorem dL_law_230 : decode cL_law 230 = .ok (.iaload, 1) := by decide +kernel
theorem dL_law_231 : decode cL_law 231 = .ok (.aload_n 0, 1) := by decide +kernel
theorem dL_law_232 : decode cL_law 232 = .ok (.iload 4, 2) := by decide +kernel
theorem dL_law_234 : decode cL_law 234 = .ok (.iconst 2, 1) := by decide +kernel
theorem dL_law_235 : decode cL_law 235 = .ok (.iadd, 1) := by decide +kernel
theorem dL_law_236 : decode cL_law 236 = .ok (.iaload, 1) := by decide +kernel
theorem dL_law_237 : decode cL_law 237 = .ok (.aload_n 0, 1) := by decide +kernel
theorem dL_law_238 : decode cL_law 238 = .ok (.iload 4, 2) := by decide +kernel
theorem dL_law_240 : decode cL_law 240 = .ok (.iconst 3, 1) := by decide +kernel
theorem dL_law_241 : decode cL_law 241 = .ok (.iadd, 1) := by decide +kernel
theorem dL_law_242 : decode cL_law 242 = .ok (.iaload, 1) := by decide +kernel
theorem dL_law_243 : decode cL_law 243 = .ok (.aload_n 0, 1) := by decide +kernel
theorem dL_law_244 : decode cL_law 244 = .ok (.iload 4, 2) := by decide +kernel
theorem dL_law_246 : decode cL_law 246 = .ok (.iconst 4, 1) := by decide +kernel
theorem dL_law_247 : decode cL_law 247 = .ok (.iadd, 1) := by decide +kernel
theorem dL_law_248 : decode cL_law 248 = .ok (.iaload, 1) := by decide +kernel
theorem dL_law_249 : decode cL_law 249 = .ok (.aload_n 0, 1) := by decide +kernel
theorem dL_law_250 : decode cL_law 250 = .ok (.iload 4, 2) := by decide +kernel
theorem dL_law_252 : decode cL_law 252 = .ok (.iconst 5, 1) := by decide +kernel
theorem dL_law_253 : decode cL_law 253 = .ok (.iadd, 1) := by decide +kernel
theorem dL_law_254 : decode cL_law 254 = .ok (.iaload, 1) := by decide +kernel
theorem dL_law_255 : decode cL_law 255 = .ok (.invokevirtual 19, 3) := by decide +kernel
theorem dL_law_258 : decode cL_law 258 = .ok (.aload_n 2, 1) := by decide +kernel
theorem dL_law_259 : decode cL_law 259 = .ok (.aload_n 0, 1) := by decide +kernel
theorem dL_law_260 : decode cL_law 260 = .ok (.iload 4, 2) := by decide +kernel
theorem dL_law_262 : decode cL_law 262 = .ok (.iconst 1, 1) := by decide +kernel
theorem dL_law_263 : decode cL_law 263 = .ok (.iadd, 1) := by decide +kernel
theorem dL_law_264 : decode cL_law 264 = .ok (.iaload, 1) := by decide +kernel
theorem dL_law_265 : decode cL_law 265 = .ok (.aload_n 0, 1) := by decide +kernel
theorem dL_law_266 : decode cL_law 266 = .ok (.iload 4, 2) := by decide +kernel
theorem dL_law_268 : decode cL_law 268 = .ok (.iconst 2, 1) := by decide +kernel
theorem dL_law_269 : decode cL_law 269 = .ok (.iadd, 1) := by decide +kernel
theorem dL_law_270 : decode cL_law 270 = .ok (.iaload, 1) := by decide +kernel
theorem dL_law_271 : decode cL_law 271 = .ok (.aload_n 0, 1) := by decide +kernel
theorem dL_law_272 : decode cL_law 272 = .ok (.iload 4, 2) := by decide +kernel
theorem dL_law_274 : decode cL_law 274 = .ok (.iconst 3, 1) := by decide +kernel
theorem dL_law_275 : decode cL_law 275 = .ok (.iadd, 1) := by decide +kernel
theorem dL_law_276 : decode cL_law 276 = .ok (.iaload, 1) := by decide +kernel
theorem dL_law_277 : decode cL_law 277 = .ok (.aload_n 0, 1) := by decide +kernel
theorem dL_law_278 : decode cL_law 278 = .ok (.iload 4, 2) := by decide +kernel
theorem dL_law_280 : decode cL_law 280 = .ok (.iconst 4, 1) := by decide +kernel
theorem dL_law_281 : decode cL_law 281 = .ok (.iadd, 1) := by decide +kernel
theorem dL_law_282 : decode cL_law 282 = .ok (.iaload, 1) := by decide +kernel
theorem dL_law_283 : decode cL_law 283 = .ok (.aload_n 0, 1) := by decide +kernel
theorem dL_law_284 : decode cL_law 284 = .ok (.iload 4, 2) := by decide +kernel
theorem dL_law_286 : decode cL_law 286 = .ok (.iconst 5, 1) := by decide +kernel
theorem dL_law_287 : decode cL_law 287 = .ok (.iadd, 1) := by decide +kernel
theorem dL_law_288 : decode cL_law 288 = .ok (.iaload, 1) := by decide +kernel
theorem dL_law_289 : decode cL_law 289 = .ok (.invokevirtual 23, 3) := by decide +kernel
theorem dL_law_292 : decode cL_law 292 = .ok (.if_icmp .eq 1369, 3) := by decide +kernel
theorem dL_law_295 : decode cL_law 295 = .ok (.iconst 0, 1) := by decide +kernel
theorem dL_law_296 : decode cL_law 296 = .ok (.ireturn, 1) := by decide +kernel
theorem dL_law_297 : decode cL_law 297 = .ok (.aload_n 1, 1) := by decide +kernel
theorem dL_law_298 : decode cL_law 298 = .ok (.aload_n 0, 1) := by decide +kernel
theorem dL_law_299 : decode cL_law 299 = .ok (.iload 4, 2) := by decide +kernel
theorem dL_law_301 : decode cL_law 301 = .ok (.iconst 1, 1) := by decide +kernel
theorem dL_law_302 : decode cL_law 302 = .ok (.iadd, 1) := by decide +kernel
theorem dL_law_303 : decode cL_law 303 = .ok (.iaload, 1) := by decide +kernel
theorem dL_law_304 : decode cL_law 304 = .ok (.invokevirtual 24, 3) := by decide +kernel
theorem dL_law_307 : decode cL_law 307 = .ok (.aload_n 2, 1) := by decide +kernel
theorem dL_law_308 : decode cL_law 308 = .ok (.aload_n 0, 1) := by decide +kernel
theorem dL_law_309 : decode cL_law 309 = .ok (.iload 4, 2) := by decide +kernel
theorem dL_law_311 : decode cL_law 311 = .ok (.iconst 1, 1) := by decide +kernel
theorem dL_law_312 : decode cL_law 312 = .ok (.iadd, 1) := by decide +kernel
theorem dL_law_313 : decode cL_law 313 = .ok (.iaload, 1) := by decide +kernel
theorem dL_law_314 : decode cL_law 314 = .ok (.invokevirtual 28, 3) := by decide +kernel
theorem dL_law_317 : decode cL_law 317 = .ok (.if_icmp .eq 1344, 3) := by decide +kernel
theorem dL_law_320 : decode cL_law 320 = .ok (.iconst 0, 1) := by decide +kernel
theorem dL_law_321 : decode cL_law 321 = .ok (.ireturn, 1) := by decide +kernel
theorem dL_law_322 : decode cL_law 322 = .ok (.aload_n 1, 1) := by decide +kernel
theorem dL_law_323 : decode cL_law 323 = .ok (.aload_n 0, 1) := by decide +kernel
theorem dL_law_324 : decode cL_law 324 = .ok (.iload 4, 2) := by decide +kernel
theorem dL_law_326 : decode cL_law 326 = .ok (.iconst 1, 1) := by decide +kernel
theorem dL_law_327 : decode cL_law 327 = .ok (.iadd, 1) := by decide +kernel
theorem dL_law_328 : decode cL_law 328 = .ok (.iaload, 1) := by decide +kernel
theorem dL_law_329 : decode cL_law 329 = .ok (.invokevirtual 29, 3) := by decide +kernel
theorem dL_law_332 : decode cL_law 332 = .ok (.aload_n 2, 1) := by decide +kernel
theorem dL_law_333 : decode cL_law 333 = .ok (.aload_n 0, 1) := by decide +kernel
theorem dL_law_334 : decode cL_law 334 = .ok (.iload 4, 2) := by decide +kernel
theorem dL_law_336 : decode cL_law 336 = .ok (.iconst 1, 1) := by decide +kernel
theorem dL_law_337 : decode cL_law 337 = .ok (.iadd, 1) := by decide +kernel
theorem dL_law_338 : decode cL_law 338 = .ok (.iaload, 1) := by decide +kernel
theorem dL_law_339 : decode cL_law 339 = .ok (.invokevirtual 33, 3) := by decide +kernel
theorem dL_law_342 : decode cL_law 342 = .ok (.if_icmp .eq 1319, 3) := by decide +kernel
theorem dL_law_345 : decode cL_law 345 = .ok (.iconst 0, 1) := by decide +kernel
theorem dL_law_346 : decode cL_law 346 = .ok (.ireturn, 1) := by decide +kernel
theorem dL_law_347 : decode cL_law 347 = .ok (.aload_n 1, 1) := by decide +kernel
theorem dL_law_348 : decode cL_law 348 = .ok (.aload_n 0, 1) := by decide +kernel
theorem dL_law_349 : decode cL_law 349 = .ok (.iload 4, 2) := by decide +kernel
theorem dL_law_351 : decode cL_law 351 = .ok (.iconst 1, 1) := by decide +kernel
theorem dL_law_352 : decode cL_law 352 = .ok (.iadd, 1) := by decide +kernel
theorem dL_law_353 : decode cL_law 353 = .ok (.iaload, 1) := by decide +kernel
theorem dL_law_354 : decode cL_law 354 = .ok (.invokevirtual 34, 3) := by decide +kernel
theorem dL_law_357 : decode cL_law 357 = .ok (.aload_n 2, 1) := by decide +kernel
theorem dL_law_358 : decode cL_law 358 = .ok (.aload_n 0, 1) := by decide +kernel
theorem dL_law_359 : decode cL_law 359 = .ok (.iload 4, 2) := by decide +kernel
theorem dL_law_361 : decode cL_law 361 = .ok (.iconst 1, 1) := by decide +kernel
theorem dL_law_362 : decode cL_law 362 = .ok (.iadd, 1) := by decide +kernel
theorem dL_law_363 : decode cL_law 363 = .ok (.iaload, 1) := by decide +kernel
theorem dL_law_364 : decode cL_law 364 = .ok (.invokevirtual 37, 3) := by decide +kernel
theorem dL_law_367 : decode cL_law 367 = .ok (.if_icmp .eq 1294, 3) := by decide +kernel
theorem dL_law_370 : decode cL_law 370 = .ok (.iconst 0, 1) := by decide +kernel
theorem dL_law_371 : decode cL_law 371 = .ok (.ireturn, 1) := by decide +kernel
theorem dL_law_372 : decode cL_law 372 = .ok (.aload_n 1, 1) := by decide +kernel
theorem dL_law_373 : decode cL_law 373 = .ok (.aload_n 0, 1) := by decide +kernel
theorem dL_law_374 : decode cL_law 374 = .ok (.iload 4, 2) := by decide +kernel
theorem dL_law_376 : decode cL_law 376 = .ok (.iconst 1, 1) := by decide +kernel
theorem dL_law_377 : decode cL_law 377 = .ok (.iadd, 1) := by decide +kernel
theorem dL_law_378 : decode cL_law 378 = .ok (.iaload, 1) := by decide +kernel
theorem dL_law_379 : decode cL_law 379 = .ok (.invokevirtual 38, 3) := by decide +kernel
theorem dL_law_382 : decode cL_law 382 = .ok (.aload_n 2, 1) := by decide +kernel
theorem dL_law_383 : decode cL_law 383 = .ok (.aload_n 0, 1) := by decide +kernel
theorem dL_law_384 : decode cL_law 384 = .ok (.iload 4, 2) := by decide +kernel
theorem dL_law_386 : decode cL_law 386 = .ok (.iconst 1, 1) := by decide +kernel
theorem dL_law_387 : decode cL_law 387 = .ok (.iadd, 1) := by decide +kernel
theorem dL_law_388 : decode cL_law 388 = .ok (.iaload, 1) := by decide +kernel
theorem dL_law_389 : decode cL_law 389 = .ok (.invokevirtual 41, 3) := by decide +kernel
theorem dL_law_392 : decode cL_law 392 = .ok (.if_icmp .eq 1269, 3) := by decide +kernel
theorem dL_law_395 : decode cL_law 395 = .ok (.iconst 0, 1) := by decide +kernel
theorem dL_law_396 : decode cL_law 396 = .ok (.ireturn, 1) := by decide +kernel
theorem dL_law_397 : decode cL_law 397 = .ok (.aload_n 1, 1) := by decide +kernel
theorem dL_law_398 : decode cL_law 398 = .ok (.aload_n 0, 1) := by decide +kernel
theorem dL_law_399 : decode cL_law 399 = .ok (.iload 4, 2) := by decide +kernel
theorem dL_law_401 : decode cL_law 401 = .ok (.iconst 1, 1) := by decide +kernel
theorem dL_law_402 : decode cL_law 402 = .ok (.iadd, 1) := by decide +kernel
theorem dL_law_403 : decode cL_law 403 = .ok (.iaload, 1) := by decide +kernel
theorem dL_law_404 : decode cL_law 404 = .ok (.aload_n 0, 1) := by decide +kernel
theorem dL_law_405 : decode cL_law 405 = .ok (.iload 4, 2) := by decide +kernel
theorem dL_law_407 : decode cL_law 407 = .ok (.iconst 2, 1) := by decide +kernel
theorem dL_law_408 : decode cL_law 408 = .ok (.iadd, 1) := by decide +kernel
theorem dL_law_409 : decode cL_law 409 = .ok (.iaload, 1) := by decide +kernel
theorem dL_law_410 : decode cL_law 410 = .ok (.invokevirtual 42, 3) := by decide +kernel
theorem dL_law_413 : decode cL_law 413 = .ok (.aload_n 2, 1) := by decide +kernel
theorem dL_law_414 : decode cL_law 414 = .ok (.aload_n 0, 1) := by decide +kernel
theorem dL_law_415 : decode cL_law 415 = .ok (.iload 4, 2) := by decide +kernel
theorem dL_law_417 : decode cL_law 417 = .ok (.iconst 1, 1) := by decide +kernel
theorem dL_law_418 : decode cL_law 418 = .ok (.iadd, 1) := by decide +kernel
theorem dL_law_419 : decode cL_law 419 = .ok (.iaload, 1) := by decide +kernel
theorem dL_law_420 : decode cL_law 420 = .ok (.aload_n 0, 1) := by decide +kernel
theorem dL_law_421 : decode cL_law 421 = .ok (.iload 4, 2) := by decide +kernel
theorem dL_law_423 : decode cL_law 423 = .ok (.iconst 2, 1) := by decide +kernel
theorem dL_law_424 : decode cL_law 424 = .ok (.iadd, 1) := by decide +kernel
theorem dL_law_425 : decode cL_law 425 = .ok (.iaload, 1) := by decide +kernel
theorem dL_law_426 : decode cL_law 426 = .ok (.invokevirtual 45, 3) := by decide +kernel
theorem dL_law_429 : decode cL_law 429 = .ok (.if_icmp .eq 1232, 3) := by decide +kernel
theorem dL_law_432 : decode cL_law 432 = .ok (.iconst 0, 1) := by decide +kernel
theorem dL_law_433 : decode cL_law 433 = .ok (.ireturn, 1) := by decide +kernel
theorem dL_law_434 : decode cL_law 434 = .ok (.aload_n 1, 1) := by decide +kernel
theorem dL_law_435 : decode cL_law 435 = .ok (.aload_n 0, 1) := by decide +kernel
theorem dL_law_436 : decode cL_law 436 = .ok (.iload 4, 2) := by decide +kernel
theorem dL_law_438 : decode cL_law 438 = .ok (.iconst 1, 1) := by decide +kernel
theorem dL_law_439 : decode cL_law 439 = .ok (.iadd, 1) := by decide +kernel
theorem dL_law_440 : decode cL_law 440 = .ok (.iaload, 1) := by decide +kernel
theorem dL_law_441 : decode cL_law 441 = .ok (.aload_n 0, 1) := by decide +kernel
theorem dL_law_442 : decode cL_law 442 = .ok (.iload 4, 2) := by decide +kernel
theorem dL_law_444 : decode cL_law 444 = .ok (.iconst 2, 1) := by decide +kernel
theorem dL_law_445 : decode cL_law 445 = .ok (.iadd, 1) := by decide +kernel
theorem dL_law_446 : decode cL_law 446 = .ok (.iaload, 1) := by decide +kernel
theorem dL_law_447 : decode cL_law 447 = .ok (.aload_n 3, 1) := by decide +kernel
theorem dL_law_448 : decode cL_law 448 = .ok (.invokestatic 46, 3) := by decide +kernel
theorem dL_law_451 : decode cL_law 451 = .ok (.istore 5, 2) := by decide +kernel
theorem dL_law_453 : decode cL_law 453 = .ok (.aload_n 2, 1) := by decide +kernel
theorem dL_law_454 : decode cL_law 454 = .ok (.aload_n 0, 1) := by decide +kernel
theorem dL_law_455 : decode cL_law 455 = .ok (.iload 4, 2) := by decide +kernel
theorem dL_law_457 : decode cL_law 457 = .ok (.iconst 1, 1) := by decide +kernel
theorem dL_law_458 : decode cL_law 458 = .ok (.iadd, 1) := by decide +kernel
theorem dL_law_459 : decode cL_law 459 = .ok (.iaload, 1) := by decide +kernel
theorem dL_law_460 : decode cL_law 460 = .ok (.aload_n 0, 1) := by decide +kernel
theorem dL_law_461 : decode cL_law 461 = .ok (.iload 4, 2) := by decide +kernel
theorem dL_law_463 : decode cL_law 463 = .ok (.iconst 2, 1) := by decide +kernel
theorem dL_law_464 : decode cL_law 464 = .ok (.iadd, 1) := by decide +kernel
theorem dL_law_465 : decode cL_law 465 = .ok (.iaload, 1) := by decide +kernel
theorem dL_law_466 : decode cL_law 466 = .ok (.invokevirtual 51, 3) := by decide +kernel
theorem dL_law_469 : decode cL_law 469 = .ok (.istore 6, 2) := by decide +kernel
theorem dL_law_471 : decode cL_law 471 = .ok (.aload_n 2, 1) := by decide +kernel
theorem dL_law_472 : decode cL_law 472 = .ok (.invokevirtual 52, 3) := by decide +kernel
theorem dL_law_475 : decode cL_law 475 = .ok (.iload 5, 2) := by decide +kernel
theorem dL_law_477 : decode cL_law 477 = .ok (.if_icmp .eq 5, 3) := by decide +kernel
theorem dL_law_480 : decode cL_law 480 = .ok (.iconst 0, 1) := by decide +kernel
theorem dL_law_481 : decode cL_law 481 = .ok (.ireturn, 1) := by decide +kernel
theorem dL_law_482 : decode cL_law 482 = .ok (.iload 5, 2) := by decide +kernel
theorem dL_law_484 : decode cL_law 484 = .ok (.ifCond .ne 15, 3) := by decide +kernel
theorem dL_law_487 : decode cL_law 487 = .ok (.aload_n 3, 1) := by decide +kernel
theorem dL_law_488 : decode cL_law 488 = .ok (.iconst 0, 1) := by decide +kernel
theorem dL_law_489 : decode cL_law 489 = .ok (.laload, 1) := by decide +kernel
theorem dL_law_490 : decode cL_law 490 = .ok (.iload 6, 2) := by decide +kernel
theorem dL_law_492 : decode cL_law 492 = .ok (.i2l, 1) := by decide +kernel
theorem dL_law_493 : decode cL_law 493 = .ok (.lcmp, 1) := by decide +kernel
theorem dL_law_494 : decode cL_law 494 = .ok (.ifCond .eq 5, 3) := by decide +kernel
theorem dL_law_497 : decode cL_law 497 = .ok (.iconst 0, 1) := by decide +kernel
theorem dL_law_498 : decode cL_law 498 = .ok (.ireturn, 1) := by decide +kernel
theorem dL_law_499 : decode cL_law 499 = .ok (.goto 1162, 3) := by decide +kernel
theorem dL_law_502 : decode cL_law 502 = .ok (.aload_n 1, 1) := by decide +kernel
theorem dL_law_503 : decode cL_law 503 = .ok (.aload_n 0, 1) := by decide +kernel
theorem dL_law_504 : decode cL_law 504 = .ok (.iload 4, 2) := by decide +kernel
theorem dL_law_506 : decode cL_law 506 = .ok (.iconst 1, 1) := by decide +kernel
theorem dL_law_507 : decode cL_law 507 = .ok (.iadd, 1) := by decide +kernel
theorem dL_law_508 : decode cL_law 508 = .ok (.iaload, 1) := by decide +kernel
theorem dL_law_509 : decode cL_law 509 = .ok (.invokevirtual 56, 3) := by decide +kernel
theorem dL_law_512 : decode cL_law 512 = .ok (.aload_n 2, 1) := by decide +kernel
theorem dL_law_513 : decode cL_law 513 = .ok (.aload_n 0, 1) := by decide +kernel
theorem dL_law_514 : decode cL_law 514 = .ok (.iload 4, 2) := by decide +kernel
theorem dL_law_516 : decode cL_law 516 = .ok (.iconst 1, 1) := by decide +kernel
theorem dL_law_517 : decode cL_law 517 = .ok (.iadd, 1) := by decide +kernel
theorem dL_law_518 : decode cL_law 518 = .ok (.iaload, 1) := by decide +kernel
theorem dL_law_519 : decode cL_law 519 = .ok (.invokevirtual 59, 3) := by decide +kernel
theorem dL_law_522 : decode cL_law 522 = .ok (.if_icmp .eq 1139, 3) := by decide +kernel
theorem dL_law_525 : decode cL_law 525 = .ok (.iconst 0, 1) := by decide +kernel
theorem dL_law_526 : decode cL_law 526 = .ok (.ireturn, 1) := by decide +kernel
theorem dL_law_527 : decode cL_law 527 = .ok (.aload_n 1, 1) := by decide +kernel
theorem dL_law_528 : decode cL_law 528 = .ok (.aload_n 0, 1) := by decide +kernel
theorem dL_law_529 : decode cL_law 529 = .ok (.iload 4, 2) := by decide +kernel
theorem dL_law_531 : decode cL_law 531 = .ok (.iconst 1, 1) := by decide +kernel
theorem dL_law_532 : decode cL_law 532 = .ok (.iadd, 1) := by decide +kernel
theorem dL_law_533 : decode cL_law 533 = .ok (.iaload, 1) := by decide +kernel
theorem dL_law_534 : decode cL_law 534 = .ok (.invokevirtual 60, 3) := by decide +kernel
theorem dL_law_537 : decode cL_law 537 = .ok (.aload_n 2, 1) := by decide +kernel
theorem dL_law_538 : decode cL_law 538 = .ok (.aload_n 0, 1) := by decide +kernel
theorem dL_law_539 : decode cL_law 539 = .ok (.iload 4, 2) := by decide +kernel
theorem dL_law_541 : decode cL_law 541 = .ok (.iconst 1, 1) := by decide +kernel
theorem dL_law_542 : decode cL_law 542 = .ok (.iadd, 1) := by decide +kernel
theorem dL_law_543 : decode cL_law 543 = .ok (.iaload, 1) := by decide +kernel
theorem dL_law_544 : decode cL_law 544 = .ok (.invokevirtual 63, 3) := by decide +kernel
theorem dL_law_547 : decode cL_law 547 = .ok (.if_icmp .eq 1114, 3) := by decide +kernel
theorem dL_law_550 : decode cL_law 550 = .ok (.iconst 0, 1) := by decide +kernel
theorem dL_law_551 : decode cL_law 551 = .ok (.ireturn, 1) := by decide +kernel
theorem dL_law_552 : decode cL_law 552 = .ok (.aload_n 1, 1) := by decide +kernel
theorem dL_law_553 : decode cL_law 553 = .ok (.aload_n 0, 1) := by decide +kernel
theorem dL_law_554 : decode cL_law 554 = .ok (.iload 4, 2) := by decide +kernel
theorem dL_law_556 : decode cL_law 556 = .ok (.iconst 1, 1) := by decide +kernel
theorem dL_law_557 : decode cL_law 557 = .ok (.iadd, 1) := by decide +kernel
theorem dL_law_558 : decode cL_law 558 = .ok (.iaload, 1) := by decide +kernel
theorem dL_law_559 : decode cL_law 559 = .ok (.invokevirtual 64, 3) := by decide +kernel
theorem dL_law_562 : decode cL_law 562 = .ok (.aload_n 2, 1) := by decide +kernel
theorem dL_law_563 : decode cL_law 563 = .ok (.aload_n 0, 1) := by decide +kernel
theorem dL_law_564 : decode cL_law 564 = .ok (.iload 4, 2) := by decide +kernel
theorem dL_law_566 : decode cL_law 566 = .ok (.iconst 1, 1) := by decide +kernel
theorem dL_law_567 : decode cL_law 567 = .ok (.iadd, 1) := by decide +kernel
theorem dL_law_568 : decode cL_law 568 = .ok (.iaload, 1) := by decide +kernel
theorem dL_law_569 : decode cL_law 569 = .ok (.invokevirtual 67, 3) := by decide +kernel
theorem dL_law_572 : decode cL_law 572 = .ok (.if_icmp .eq 1089, 3) := by decide +kernel
theorem dL_law_575 : decode cL_law 575 = .ok (.iconst 0, 1) := by decide +kernel
theorem dL_law_576 : decode cL_law 576 = .ok (.ireturn, 1) := by decide +kernel
theorem dL_law_577 : decode cL_law 577 = .ok (.aload_n 1, 1) := by decide +kernel
theorem dL_law_578 : decode cL_law 578 = .ok (.invokevirtual 68, 3) := by decide +kernel
theorem dL_law_581 : decode cL_law 581 = .ok (.aload_n 2, 1) := by decide +kernel
theorem dL_law_582 : decode cL_law 582 = .ok (.invokevirtual 71, 3) := by decide +kernel
theorem dL_law_585 : decode cL_law 585 = .ok (.if_icmp .eq 1076, 3) := by decide +kernel
theorem dL_law_588 : decode cL_law 588 = .ok (.iconst 0, 1) := by decide +kernel
theorem dL_law_589 : decode cL_law 589 = .ok (.ireturn, 1) := by decide +kernel
theorem dL_law_590 : decode cL_law 590 = .ok (.aload_n 1, 1) := by decide +kernel
theorem dL_law_591 : decode cL_law 591 = .ok (.aload_n 0, 1) := by decide +kernel
theorem dL_law_592 : decode cL_law 592 = .ok (.iload 4, 2) := by decide +kernel
theorem dL_law_594 : decode cL_law 594 = .ok (.iconst 1, 1) := by decide +kernel
theorem dL_law_595 : decode cL_law 595 = .ok (.iadd, 1) := by decide +kernel
theorem dL_law_596 : decode cL_law 596 = .ok (.iaload, 1) := by decide +kernel
theorem dL_law_597 : decode cL_law 597 = .ok (.invokevirtual 72, 3) := by decide +kernel
theorem dL_law_600 : decode cL_law 600 = .ok (.aload_n 2, 1) := by decide +kernel
theorem dL_law_601 : decode cL_law 601 = .ok (.aload_n 0, 1) := by decide +kernel
theorem dL_law_602 : decode cL_law 602 = .ok (.iload 4, 2) := by decide +kernel
theorem dL_law_604 : decode cL_law 604 = .ok (.iconst 1, 1) := by decide +kernel
theorem dL_law_605 : decode cL_law 605 = .ok (.iadd, 1) := by decide +kernel
theorem dL_law_606 : decode cL_law 606 = .ok (.iaload, 1) := by decide +kernel
theorem dL_law_607 : decode cL_law 607 = .ok (.invokevirtual 75, 3) := by decide +kernel
theorem dL_law_610 : decode cL_law 610 = .ok (.if_icmp .eq 1051, 3) := by decide +kernel
theorem dL_law_613 : decode cL_law 613 = .ok (.iconst 0, 1) := by decide +kernel
theorem dL_law_614 : decode cL_law 614 = .ok (.ireturn, 1) := by decide +kernel
theorem dL_law_615 : decode cL_law 615 = .ok (.aload_n 1, 1) := by decide +kernel
theorem dL_law_616 : decode cL_law 616 = .ok (.aload_n 0, 1) := by decide +kernel
theorem dL_law_617 : decode cL_law 617 = .ok (.iload 4, 2) := by decide +kernel
theorem dL_law_619 : decode cL_law 619 = .ok (.iconst 1, 1) := by decide +kernel
theorem dL_law_620 : decode cL_law 620 = .ok (.iadd, 1) := by decide +kernel
theorem dL_law_621 : decode cL_law 621 = .ok (.iaload, 1) := by decide +kernel
theorem dL_law_622 : decode cL_law 622 = .ok (.aload_n 0, 1) := by decide +kernel
theorem dL_law_623 : decode cL_law 623 = .ok (.iload 4, 2) := by decide +kernel
theorem dL_law_625 : decode cL_law 625 = .ok (.iconst 2, 1) := by decide +kernel
theorem dL_law_626 : decode cL_law 626 = .ok (.iadd, 1) := by decide +kernel
theorem dL_law_627 : decode cL_law 627 = .ok (.iaload, 1) := by decide +kernel
theorem dL_law_628 : decode cL_law 628 = .ok (.invokevirtual 76, 3) := by decide +kernel
theorem dL_law_631 : decode cL_law 631 = .ok (.aload_n 2, 1) := by decide +kernel
theorem dL_law_632 : decode cL_law 632 = .ok (.aload_n 0, 1) := by decide +kernel
theorem dL_law_633 : decode cL_law 633 = .ok (.iload 4, 2) := by decide +kernel
theorem dL_law_635 : decode cL_law 635 = .ok (.iconst 1, 1) := by decide +kernel
theorem dL_law_636 : decode cL_law 636 = .ok (.iadd, 1) := by decide +kernel
theorem dL_law_637 : decode cL_law 637 = .ok (.iaload, 1) := by decide +kernel
theorem dL_law_638 : decode cL_law 638 = .ok (.aload_n 0, 1) := by decide +kernel
theorem dL_law_639 : decode cL_law 639 = .ok (.iload 4, 2) := by decide +kernel
theorem dL_law_641 : decode cL_law 641 = .ok (.iconst 2, 1) := by decide +kernel
theorem dL_law_642 : decode cL_law 642 = .ok (.iadd, 1) := by decide +kernel
theorem dL_law_643 : decode cL_law 643 = .ok (.iaload, 1) := by decide +kernel
theorem dL_law_644 : decode cL_law 644 = .ok (.invokevirtual 79, 3) := by decide +kernel
theorem dL_law_647 : decode cL_law 647 = .ok (.if_icmp .eq 1014, 3) := by decide +kernel
theorem dL_law_650 : decode cL_law 650 = .ok (.iconst 0, 1) := by decide +kernel
theorem dL_law_651 : decode cL_law 651 = .ok (.ireturn, 1) := by decide +kernel
theorem dL_law_652 : decode cL_law 652 = .ok (.aload_n 1, 1) := by decide +kernel
theorem dL_law_653 : decode cL_law 653 = .ok (.aload_n 0, 1) := by decide +kernel
theorem dL_law_654 : decode cL_law 654 = .ok (.iload 4, 2) := by decide +kernel
theorem dL_law_656 : decode cL_law 656 = .ok (.iconst 1, 1) := by decide +kernel
theorem dL_law_657 : decode cL_law 657 = .ok (.iadd, 1) := by decide +kernel
theorem dL_law_658 : decode cL_law 658 = .ok (.iaload, 1) := by decide +kernel
theorem dL_law_659 : decode cL_law 659 = .ok (.aload_n 0, 1) := by decide +kernel
theorem dL_law_660 : decode cL_law 660 = .ok (.iload 4, 2) := by decide +kernel
theorem dL_law_662 : decode cL_law 662 = .ok (.iconst 2, 1) := by decide +kernel
theorem dL_law_663 : decode cL_law 663 = .ok (.iadd, 1) := by decide +kernel
theorem dL_law_664 : decode cL_law 664 = .ok (.iaload, 1) := by decide +kernel
theorem dL_law_665 : decode cL_law 665 = .ok (.invokevirtual 80, 3) := by decide +kernel
theorem dL_law_668 : decode cL_law 668 = .ok (.aload_n 2, 1) := by decide +kernel
theorem dL_law_669 : decode cL_law 669 = .ok (.aload_n 0, 1) := by decide +kernel
theorem dL_law_670 : decode cL_law 670 = .ok (.iload 4, 2) := by decide +kernel
theorem dL_law_672 : decode cL_law 672 = .ok (.iconst 1, 1) := by decide +kernel
theorem dL_law_673 : decode cL_law 673 = .ok (.iadd, 1) := by decide +kernel
theorem dL_law_674 : decode cL_law 674 = .ok (.iaload, 1) := by decide +kernel
theorem dL_law_675 : decode cL_law 675 = .ok (.aload_n 0, 1) := by decide +kernel
theorem dL_law_676 : decode cL_law 676 = .ok (.iload 4, 2) := by decide +kernel
theorem dL_law_678 : decode cL_law 678 = .ok (.iconst 2, 1) := by decide +kernel
theorem dL_law_679 : decode cL_law 679 = .ok (.iadd, 1) := by decide +kernel
theorem dL_law_680 : decode cL_law 680 = .ok (.iaload, 1) := by decide +kernel
theorem dL_law_681 : decode cL_law 681 = .ok (.invokevirtual 83, 3) := by decide +kernel
theorem dL_law_684 : decode cL_law 684 = .ok (.if_icmp .eq 977, 3) := by decide +kernel
theorem dL_law_687 : decode cL_law 687 = .ok (.iconst 0, 1) := by decide +kernel
theorem dL_law_688 : decode cL_law 688 = .ok (.ireturn, 1) := by decide +kernel
theorem dL_law_689 : decode cL_law 689 = .ok (.aload_n 1, 1) := by decide +kernel
theorem dL_law_690 : decode cL_law 690 = .ok (.aload_n 0, 1) := by decide +kernel
theorem dL_law_691 : decode cL_law 691 = .ok (.iload 4, 2) := by decide +kernel
theorem dL_law_693 : decode cL_law 693 = .ok (.iconst 1, 1) := by decide +kernel
theorem dL_law_694 : decode cL_law 694 = .ok (.iadd, 1) := by decide +kernel
theorem dL_law_695 : decode cL_law 695 = .ok (.iaload, 1) := by decide +kernel
theorem dL_law_696 : decode cL_law 696 = .ok (.aload_n 0, 1) := by decide +kernel
theorem dL_law_697 : decode cL_law 697 = .ok (.iload 4, 2) := by decide +kernel
theorem dL_law_699 : decode cL_law 699 = .ok (.iconst 2, 1) := by decide +kernel
theorem dL_law_700 : decode cL_law 700 = .ok (.iadd, 1) := by decide +kernel
theorem dL_law_701 : decode cL_law 701 = .ok (.iaload, 1) := by decide +kernel
theorem dL_law_702 : decode cL_law 702 = .ok (.i2l, 1) := by decide +kernel
theorem dL_law_703 : decode cL_law 703 = .ok (.bipush 32, 2) := by decide +kernel
theorem dL_law_705 : decode cL_law 705 = .ok (.lshl, 1) := by decide +kernel
theorem dL_law_706 : decode cL_law 706 = .ok (.aload_n 0, 1) := by decide +kernel
theorem dL_law_707 : decode cL_law 707 = .ok (.iload 4, 2) := by decide +kernel
theorem dL_law_709 : decode cL_law 709 = .ok (.iconst 3, 1) := by decide +kernel
theorem dL_law_710 : decode cL_law 710 = .ok (.iadd, 1) := by decide +kernel
theorem dL_law_711 : decode cL_law 711 = .ok (.iaload, 1) := by decide +kernel
theorem dL_law_712 : decode cL_law 712 = .ok (.i2l, 1) := by decide +kernel
theorem dL_law_713 : decode cL_law 713 = .ok (.ldc2_w 84, 3) := by decide +kernel
theorem dL_law_716 : decode cL_law 716 = .ok (.land, 1) := by decide +kernel
theorem dL_law_717 : decode cL_law 717 = .ok (.lor, 1) := by decide +kernel
theorem dL_law_718 : decode cL_law 718 = .ok (.invokevirtual 86, 3) := by decide +kernel
theorem dL_law_721 : decode cL_law 721 = .ok (.aload_n 2, 1) := by decide +kernel
theorem dL_law_722 : decode cL_law 722 = .ok (.aload_n 0, 1) := by decide +kernel
theorem dL_law_723 : decode cL_law 723 = .ok (.iload 4, 2) := by decide +kernel
theorem dL_law_725 : decode cL_law 725 = .ok (.iconst 1, 1) := by decide +kernel
theorem dL_law_726 : decode cL_law 726 = .ok (.iadd, 1) := by decide +kernel
theorem dL_law_727 : decode cL_law 727 = .ok (.iaload, 1) := by decide +kernel
theorem dL_law_728 : decode cL_law 728 = .ok (.aload_n 0, 1) := by decide +kernel
theorem dL_law_729 : decode cL_law 729 = .ok (.iload 4, 2) := by decide +kernel
theorem dL_law_731 : decode cL_law 731 = .ok (.iconst 2, 1) := by decide +kernel
theorem dL_law_732 : decode cL_law 732 = .ok (.iadd, 1) := by decide +kernel
theorem dL_law_733 : decode cL_law 733 = .ok (.iaload, 1) := by decide +kernel
theorem dL_law_734 : decode cL_law 734 = .ok (.i2l, 1) := by decide +kernel
theorem dL_law_735 : decode cL_law 735 = .ok (.bipush 32, 2) := by decide +kernel
theorem dL_law_737 : decode cL_law 737 = .ok (.lshl, 1) := by decide +kernel
theorem dL_law_738 : decode cL_law 738 = .ok (.aload_n 0, 1) := by decide +kernel
theorem dL_law_739 : decode cL_law 739 = .ok (.iload 4, 2) := by decide +kernel
theorem dL_law_741 : decode cL_law 741 = .ok (.iconst 3, 1) := by decide +kernel
theorem dL_law_742 : decode cL_law 742 = .ok (.iadd, 1) := by decide +kernel
theorem dL_law_743 : decode cL_law 743 = .ok (.iaload, 1) := by decide +kernel
theorem dL_law_744 : decode cL_law 744 = .ok (.i2l, 1) := by decide +kernel
theorem dL_law_745 : decode cL_law 745 = .ok (.ldc2_w 84, 3) := by decide +kernel
theorem dL_law_748 : decode cL_law 748 = .ok (.land, 1) := by decide +kernel
theorem dL_law_749 : decode cL_law 749 = .ok (.lor, 1) := by decide +kernel
theorem dL_law_750 : decode cL_law 750 = .ok (.invokevirtual 90, 3) := by decide +kernel
theorem dL_law_753 : decode cL_law 753 = .ok (.if_icmp .eq 908, 3) := by decide +kernel
theorem dL_law_756 : decode cL_law 756 = .ok (.iconst 0, 1) := by decide +kernel
theorem dL_law_757 : decode cL_law 757 = .ok (.ireturn, 1) := by decide +kernel
theorem dL_law_758 : decode cL_law 758 = .ok (.aload_n 1, 1) := by decide +kernel
theorem dL_law_759 : decode cL_law 759 = .ok (.invokevirtual 91, 3) := by decide +kernel
theorem dL_law_762 : decode cL_law 762 = .ok (.aload_n 2, 1) := by decide +kernel
theorem dL_law_763 : decode cL_law 763 = .ok (.invokevirtual 94, 3) := by decide +kernel
theorem dL_law_766 : decode cL_law 766 = .ok (.if_icmp .eq 895, 3) := by decide +kernel
theorem dL_law_769 : decode cL_law 769 = .ok (.iconst 0, 1) := by decide +kernel
theorem dL_law_770 : decode cL_law 770 = .ok (.ireturn, 1) := by decide +kernel
theorem dL_law_771 : decode cL_law 771 = .ok (.aload_n 1, 1) := by decide +kernel
theorem dL_law_772 : decode cL_law 772 = .ok (.aload_n 0, 1) := by decide +kernel
theorem dL_law_773 : decode cL_law 773 = .ok (.iload 4, 2) := by decide +kernel
theorem dL_law_775 : decode cL_law 775 = .ok (.iconst 1, 1) := by decide +kernel
theorem dL_law_776 : decode cL_law 776 = .ok (.iadd, 1) := by decide +kernel
theorem dL_law_777 : decode cL_law 777 = .ok (.iaload, 1) := by decide +kernel
theorem dL_law_778 : decode cL_law 778 = .ok (.aload_n 0, 1) := by decide +kernel
theorem dL_law_779 : decode cL_law 779 = .ok (.iload 4, 2) := by decide +kernel
theorem dL_law_781 : decode cL_law 781 = .ok (.iconst 2, 1) := by decide +kernel
theorem dL_law_782 : decode cL_law 782 = .ok (.iadd, 1) := by decide +kernel
theorem dL_law_783 : decode cL_law 783 = .ok (.iaload, 1) := by decide +kernel
theorem dL_law_784 : decode cL_law 784 = .ok (.invokevirtual 95, 3) := by decide +kernel
theorem dL_law_787 : decode cL_law 787 = .ok (.aload_n 2, 1) := by decide +kernel
theorem dL_law_788 : decode cL_law 788 = .ok (.aload_n 0, 1) := by decide +kernel
theorem dL_law_789 : decode cL_law 789 = .ok (.iload 4, 2) := by decide +kernel
theorem dL_law_791 : decode cL_law 791 = .ok (.iconst 1, 1) := by decide +kernel
theorem dL_law_792 : decode cL_law 792 = .ok (.iadd, 1) := by decide +kernel
theorem dL_law_793 : decode cL_law 793 = .ok (.iaload, 1) := by decide +kernel
theorem dL_law_794 : decode cL_law 794 = .ok (.aload_n 0, 1) := by decide +kernel
theorem dL_law_795 : decode cL_law 795 = .ok (.iload 4, 2) := by decide +kernel
theorem dL_law_797 : decode cL_law 797 = .ok (.iconst 2, 1) := by decide +kernel
theorem dL_law_798 : decode cL_law 798 = .ok (.iadd, 1) := by decide +kernel
theorem dL_law_799 : decode cL_law 799 = .ok (.iaload, 1) := by decide +kernel
theorem dL_law_800 : decode cL_law 800 = .ok (.invokevirtual 98, 3) := by decide +kernel
theorem dL_law_803 : decode cL_law 803 = .ok (.if_icmp .eq 858, 3) := by decide +kernel
theorem dL_law_806 : decode cL_law 806 = .ok (.iconst 0, 1) := by decide +kernel
theorem dL_law_807 : decode cL_law 807 = .ok (.ireturn, 1) := by decide +kernel
theorem dL_law_808 : decode cL_law 808 = .ok (.aload_n 1, 1) := by decide +kernel
theorem dL_law_809 : decode cL_law 809 = .ok (.aload_n 0, 1) := by decide +kernel
theorem dL_law_810 : decode cL_law 810 = .ok (.iload 4, 2) := by decide +kernel
theorem dL_law_812 : decode cL_law 812 = .ok (.iconst 1, 1) := by decide +kernel
theorem dL_law_813 : decode cL_law 813 = .ok (.iadd, 1) := by decide +kernel
theorem dL_law_814 : decode cL_law 814 = .ok (.iaload, 1) := by decide +kernel
theorem dL_law_815 : decode cL_law 815 = .ok (.aload_n 0, 1) := by decide +kernel
theorem dL_law_816 : decode cL_law 816 = .ok (.iload 4, 2) := by decide +kernel
theorem dL_law_818 : decode cL_law 818 = .ok (.iconst 2, 1) := by decide +kernel
theorem dL_law_819 : decode cL_law 819 = .ok (.iadd, 1) := by decide +kernel
theorem dL_law_820 : decode cL_law 820 = .ok (.iaload, 1) := by decide +kernel
theorem dL_law_821 : decode cL_law 821 = .ok (.aload_n 0, 1) := by decide +kernel
theorem dL_law_822 : decode cL_law 822 = .ok (.iload 4, 2) := by decide +kernel
theorem dL_law_824 : decode cL_law 824 = .ok (.iconst 3, 1) := by decide +kernel
theorem dL_law_825 : decode cL_law 825 = .ok (.iadd, 1) := by decide +kernel
theorem dL_law_826 : decode cL_law 826 = .ok (.iaload, 1) := by decide +kernel
theorem dL_law_827 : decode cL_law 827 = .ok (.invokevirtual 99, 3) := by decide +kernel
theorem dL_law_830 : decode cL_law 830 = .ok (.aload_n 2, 1) := by decide +kernel
theorem dL_law_831 : decode cL_law 831 = .ok (.aload_n 0, 1) := by decide +kernel
theorem dL_law_832 : decode cL_law 832 = .ok (.iload 4, 2) := by decide +kernel
theorem dL_law_834 : decode cL_law 834 = .ok (.iconst 1, 1) := by decide +kernel
theorem dL_law_835 : decode cL_law 835 = .ok (.iadd, 1) := by decide +kernel
theorem dL_law_836 : decode cL_law 836 = .ok (.iaload, 1) := by decide +kernel
theorem dL_law_837 : decode cL_law 837 = .ok (.aload_n 0, 1) := by decide +kernel
theorem dL_law_838 : decode cL_law 838 = .ok (.iload 4, 2) := by decide +kernel
theorem dL_law_840 : decode cL_law 840 = .ok (.iconst 2, 1) := by decide +kernel
theorem dL_law_841 : decode cL_law 841 = .ok (.iadd, 1) := by decide +kernel
theorem dL_law_842 : decode cL_law 842 = .ok (.iaload, 1) := by decide +kernel
theorem dL_law_843 : decode cL_law 843 = .ok (.aload_n 0, 1) := by decide +kernel
theorem dL_law_844 : decode cL_law 844 = .ok (.iload 4, 2) := by decide +kernel
theorem dL_law_846 : decode cL_law 846 = .ok (.iconst 3, 1) := by decide +kernel
theorem dL_law_847 : decode cL_law 847 = .ok (.iadd, 1) := by decide +kernel
theorem dL_law_848 : decode cL_law 848 = .ok (.iaload, 1) := by decide +kernel
theorem dL_law_849 : decode cL_law 849 = .ok (.invokevirtual 103, 3) := by decide +kernel
theorem dL_law_852 : decode cL_law 852 = .ok (.if_icmp .eq 809, 3) := by decide +kernel
theorem dL_law_855 : decode cL_law 855 = .ok (.iconst 0, 1) := by decide +kernel
theorem dL_law_856 : decode cL_law 856 = .ok (.ireturn, 1) := by decide +kernel
theorem dL_law_857 : decode cL_law 857 = .ok (.aload_n 1, 1) := by decide +kernel
theorem dL_law_858 : decode cL_law 858 = .ok (.aload_n 0, 1) := by decide +kernel
theorem dL_law_859 : decode cL_law 859 = .ok (.iload 4, 2) := by decide +kernel
theorem dL_law_861 : decode cL_law 861 = .ok (.iconst 1, 1) := by decide +kernel
theorem dL_law_862 : decode cL_law 862 = .ok (.iadd, 1) := by decide +kernel
theorem dL_law_863 : decode cL_law 863 = .ok (.iaload, 1) := by decide +kernel
theorem dL_law_864 : decode cL_law 864 = .ok (.aload_n 0, 1) := by decide +kernel
theorem dL_law_865 : decode cL_law 865 = .ok (.iload 4, 2) := by decide +kernel
theorem dL_law_867 : decode cL_law 867 = .ok (.iconst 2, 1) := by decide +kernel
theorem dL_law_868 : decode cL_law 868 = .ok (.iadd, 1) := by decide +kernel
theorem dL_law_869 : decode cL_law 869 = .ok (.iaload, 1) := by decide +kernel
theorem dL_law_870 : decode cL_law 870 = .ok (.invokevirtual 104, 3) := by decide +kernel
theorem dL_law_873 : decode cL_law 873 = .ok (.aload_n 2, 1) := by decide +kernel
theorem dL_law_874 : decode cL_law 874 = .ok (.aload_n 0, 1) := by decide +kernel
theorem dL_law_875 : decode cL_law 875 = .ok (.iload 4, 2) := by decide +kernel
theorem dL_law_877 : decode cL_law 877 = .ok (.iconst 1, 1) := by decide +kernel
theorem dL_law_878 : decode cL_law 878 = .ok (.iadd, 1) := by decide +kernel
theorem dL_law_879 : decode cL_law 879 = .ok (.iaload, 1) := by decide +kernel
theorem dL_law_880 : decode cL_law 880 = .ok (.aload_n 0, 1) := by decide +kernel
theorem dL_law_881 : decode cL_law 881 = .ok (.iload 4, 2) := by decide +kernel
theorem dL_law_883 : decode cL_law 883 = .ok (.iconst 2, 1) := by decide +kernel
theorem dL_law_884 : decode cL_law 884 = .ok (.iadd, 1) := by decide +kernel
theorem dL_law_885 : decode cL_law 885 = .ok (.iaload, 1) := by decide +kernel
theorem dL_law_886 : decode cL_law 886 = .ok (.invokevirtual 107, 3) := by decide +kernel
theorem dL_law_889 : decode cL_law 889 = .ok (.if_icmp .eq 772, 3) := by decide +kernel
theorem dL_law_892 : decode cL_law 892 = .ok (.iconst 0, 1) := by decide +kernel
theorem dL_law_893 : decode cL_law 893 = .ok (.ireturn, 1) := by decide +kernel
theorem dL_law_894 : decode cL_law 894 = .ok (.aload_n 1, 1) := by decide +kernel
theorem dL_law_895 : decode cL_law 895 = .ok (.aload_n 0, 1) := by decide +kernel
theorem dL_law_896 : decode cL_law 896 = .ok (.iload 4, 2) := by decide +kernel
theorem dL_law_898 : decode cL_law 898 = .ok (.iconst 1, 1) := by decide +kernel
theorem dL_law_899 : decode cL_law 899 = .ok (.iadd, 1) := by decide +kernel
theorem dL_law_900 : decode cL_law 900 = .ok (.iaload, 1) := by decide +kernel
theorem dL_law_901 : decode cL_law 901 = .ok (.invokevirtual 108, 3) := by decide +kernel
theorem dL_law_904 : decode cL_law 904 = .ok (.aload_n 2, 1) := by decide +kernel
theorem dL_law_905 : decode cL_law 905 = .ok (.aload_n 0, 1) := by decide +kernel
theorem dL_law_906 : decode cL_law 906 = .ok (.iload 4, 2) := by decide +kernel
theorem dL_law_908 : decode cL_law 908 = .ok (.iconst 1, 1) := by decide +kernel
theorem dL_law_909 : decode cL_law 909 = .ok (.iadd, 1) := by decide +kernel
theorem dL_law_910 : decode cL_law 910 = .ok (.iaload, 1) := by decide +kernel
theorem dL_law_911 : decode cL_law 911 = .ok (.invokevirtual 111, 3) := by decide +kernel
theorem dL_law_914 : decode cL_law 914 = .ok (.if_icmp .eq 747, 3) := by decide +kernel
theorem dL_law_917 : decode cL_law 917 = .ok (.iconst 0, 1) := by decide +kernel
theorem dL_law_918 : decode cL_law 918 = .ok (.ireturn, 1) := by decide +kernel
theorem dL_law_919 : decode cL_law 919 = .ok (.aload_n 1, 1) := by decide +kernel
theorem dL_law_920 : decode cL_law 920 = .ok (.aload_n 0, 1) := by decide +kernel
theorem dL_law_921 : decode cL_law 921 = .ok (.iload 4, 2) := by decide +kernel
theorem dL_law_923 : decode cL_law 923 = .ok (.iconst 1, 1) := by decide +kernel
theorem dL_law_924 : decode cL_law 924 = .ok (.iadd, 1) := by decide +kernel
theorem dL_law_925 : decode cL_law 925 = .ok (.iaload, 1) := by decide +kernel
theorem dL_law_926 : decode cL_law 926 = .ok (.invokevirtual 112, 3) := by decide +kernel
theorem dL_law_929 : decode cL_law 929 = .ok (.aload_n 2, 1) := by decide +kernel
theorem dL_law_930 : decode cL_law 930 = .ok (.aload_n 0, 1) := by decide +kernel
theorem dL_law_931 : decode cL_law 931 = .ok (.iload 4, 2) := by decide +kernel
theorem dL_law_933 : decode cL_law 933 = .ok (.iconst 1, 1) := by decide +kernel
theorem dL_law_934 : decode cL_law 934 = .ok (.iadd, 1) := by decide +kernel
theorem dL_law_935 : decode cL_law 935 = .ok (.iaload, 1) := by decide +kernel
theorem dL_law_936 : decode cL_law 936 = .ok (.invokevirtual 115, 3) := by decide +kernel
theorem dL_law_939 : decode cL_law 939 = .ok (.if_icmp .eq 722, 3) := by decide +kernel
theorem dL_law_942 : decode cL_law 942 = .ok (.iconst 0, 1) := by decide +kernel
theorem dL_law_943 : decode cL_law 943 = .ok (.ireturn, 1) := by decide +kernel
theorem dL_law_944 : decode cL_law 944 = .ok (.aload_n 1, 1) := by decide +kernel
theorem dL_law_945 : decode cL_law 945 = .ok (.aload_n 0, 1) := by decide +kernel
theorem dL_law_946 : decode cL_law 946 = .ok (.iload 4, 2) := by decide +kernel
theorem dL_law_948 : decode cL_law 948 = .ok (.iconst 1, 1) := by decide +kernel
theorem dL_law_949 : decode cL_law 949 = .ok (.iadd, 1) := by decide +kernel
theorem dL_law_950 : decode cL_law 950 = .ok (.iaload, 1) := by decide +kernel
theorem dL_law_951 : decode cL_law 951 = .ok (.aload_n 0, 1) := by decide +kernel
theorem dL_law_952 : decode cL_law 952 = .ok (.iload 4, 2) := by decide +kernel
theorem dL_law_954 : decode cL_law 954 = .ok (.iconst 2, 1) := by decide +kernel
theorem dL_law_955 : decode cL_law 955 = .ok (.iadd, 1) := by decide +kernel
theorem dL_law_956 : decode cL_law 956 = .ok (.iaload, 1) := by decide +kernel
theorem dL_law_957 : decode cL_law 957 = .ok (.invokevirtual 116, 3) := by decide +kernel
theorem dL_law_960 : decode cL_law 960 = .ok (.aload_n 2, 1) := by decide +kernel
theorem dL_law_961 : decode cL_law 961 = .ok (.aload_n 0, 1) := by decide +kernel
theorem dL_law_962 : decode cL_law 962 = .ok (.iload 4, 2) := by decide +kernel
theorem dL_law_964 : decode cL_law 964 = .ok (.iconst 1, 1) := by decide +kernel
theorem dL_law_965 : decode cL_law 965 = .ok (.iadd, 1) := by decide +kernel
theorem dL_law_966 : decode cL_law 966 = .ok (.iaload, 1) := by decide +kernel
theorem dL_law_967 : decode cL_law 967 = .ok (.aload_n 0, 1) := by decide +kernel
theorem dL_law_968 : decode cL_law 968 = .ok (.iload 4, 2) := by decide +kernel
theorem dL_law_970 : decode cL_law 970 = .ok (.iconst 2, 1) := by decide +kernel
theorem dL_law_971 : decode cL_law 971 = .ok (.iadd, 1) := by decide +kernel
theorem dL_law_972 : decode cL_law 972 = .ok (.iaload, 1) := by decide +kernel
theorem dL_law_973 : decode cL_law 973 = .ok (.invokevirtual 119, 3) := by decide +kernel
theorem dL_law_976 : decode cL_law 976 = .ok (.if_icmp .eq 685, 3) := by decide +kernel
theorem dL_law_979 : decode cL_law 979 = .ok (.iconst 0, 1) := by decide +kernel
theorem dL_law_980 : decode cL_law 980 = .ok (.ireturn, 1) := by decide +kernel
theorem dL_law_981 : decode cL_law 981 = .ok (.aload_n 1, 1) := by decide +kernel
theorem dL_law_982 : decode cL_law 982 = .ok (.aload_n 0, 1) := by decide +kernel
theorem dL_law_983 : decode cL_law 983 = .ok (.iload 4, 2) := by decide +kernel
theorem dL_law_985 : decode cL_law 985 = .ok (.iconst 1, 1) := by decide +kernel
theorem dL_law_986 : decode cL_law 986 = .ok (.iadd, 1) := by decide +kernel
theorem dL_law_987 : decode cL_law 987 = .ok (.iaload, 1) := by decide +kernel
theorem dL_law_988 : decode cL_law 988 = .ok (.aload_n 0, 1) := by decide +kernel
theorem dL_law_989 : decode cL_law 989 = .ok (.iload 4, 2) := by decide +kernel
theorem dL_law_991 : decode cL_law 991 = .ok (.iconst 2, 1) := by decide +kernel
theorem dL_law_992 : decode cL_law 992 = .ok (.iadd, 1) := by decide +kernel
theorem dL_law_993 : decode cL_law 993 = .ok (.iaload, 1) := by decide +kernel
theorem dL_law_994 : decode cL_law 994 = .ok (.invokevirtual 120, 3) := by decide +kernel
theorem dL_law_997 : decode cL_law 997 = .ok (.aload_n 2, 1) := by decide +kernel
theorem dL_law_998 : decode cL_law 998 = .ok (.aload_n 0, 1) := by decide +kernel
theorem dL_law_999 : decode cL_law 999 = .ok (.iload 4, 2) := by decide +kernel
theorem dL_law_1001 : decode cL_law 1001 = .ok (.iconst 1, 1) := by decide +kernel
theorem dL_law_1002 : decode cL_law 1002 = .ok (.iadd, 1) := by decide +kernel
theorem dL_law_1003 : decode cL_law 1003 = .ok (.iaload, 1) := by decide +kernel
theorem dL_law_1004 : decode cL_law 1004 = .ok (.aload_n 0, 1) := by decide +kernel
theorem dL_law_1005 : decode cL_law 1005 = .ok (.iload 4, 2) := by decide +kernel
theorem dL_law_1007 : decode cL_law 1007 = .ok (.iconst 2, 1) := by decide +kernel
theorem dL_law_1008 : decode cL_law 1008 = .ok (.iadd, 1) := by decide +kernel
theorem dL_law_1009 : decode cL_law 1009 = .ok (.iaload, 1) := by decide +kernel
theorem dL_law_1010 : decode cL_law 1010 = .ok (.invokevirtual 123, 3) := by decide +kernel
theorem dL_law_1013 : decode cL_law 1013 = .ok (.if_icmp .eq 648, 3) := by decide +kernel
theorem dL_law_1016 : decode cL_law 1016 = .ok (.iconst 0, 1) := by decide +kernel
theorem dL_law_1017 : decode cL_law 1017 = .ok (.ireturn, 1) := by decide +kernel
theorem dL_law_1018 : decode cL_law 1018 = .ok (.aload_n 1, 1) := by decide +kernel
theorem dL_law_1019 : decode cL_law 1019 = .ok (.aload_n 0, 1) := by decide +kernel
theorem dL_law_1020 : decode cL_law 1020 = .ok (.iload 4, 2) := by decide +kernel
theorem dL_law_1022 : decode cL_law 1022 = .ok (.iconst 1, 1) := by decide +kernel
theorem dL_law_1023 : decode cL_law 1023 = .ok (.iadd, 1) := by decide +kernel
theorem dL_law_1024 : decode cL_law 1024 = .ok (.iaload, 1) := by decide +kernel
theorem dL_law_1025 : decode cL_law 1025 = .ok (.invokevirtual 124, 3) := by decide +kernel
theorem dL_law_1028 : decode cL_law 1028 = .ok (.aload_n 2, 1) := by decide +kernel
theorem dL_law_1029 : decode cL_law 1029 = .ok (.aload_n 0, 1) := by decide +kernel
theorem dL_law_1030 : decode cL_law 1030 = .ok (.iload 4, 2) := by decide +kernel
theorem dL_law_1032 : decode cL_law 1032 = .ok (.iconst 1, 1) := by decide +kernel
theorem dL_law_1033 : decode cL_law 1033 = .ok (.iadd, 1) := by decide +kernel
theorem dL_law_1034 : decode cL_law 1034 = .ok (.iaload, 1) := by decide +kernel
theorem dL_law_1035 : decode cL_law 1035 = .ok (.invokevirtual 127, 3) := by decide +kernel
theorem dL_law_1038 : decode cL_law 1038 = .ok (.if_icmp .eq 623, 3) := by decide +kernel
theorem dL_law_1041 : decode cL_law 1041 = .ok (.iconst 0, 1) := by decide +kernel
theorem dL_law_1042 : decode cL_law 1042 = .ok (.ireturn, 1) := by decide +kernel
theorem dL_law_1043 : decode cL_law 1043 = .ok (.aload_n 1, 1) := by decide +kernel
theorem dL_law_1044 : decode cL_law 1044 = .ok (.aload_n 0, 1) := by decide +kernel
theorem dL_law_1045 : decode cL_law 1045 = .ok (.iload 4, 2) := by decide +kernel
theorem dL_law_1047 : decode cL_law 1047 = .ok (.iconst 1, 1) := by decide +kernel
theorem dL_law_1048 : decode cL_law 1048 = .ok (.iadd, 1) := by decide +kernel
theorem dL_law_1049 : decode cL_law 1049 = .ok (.iaload, 1) := by decide +kernel
theorem dL_law_1050 : decode cL_law 1050 = .ok (.invokevirtual 128, 3) := by decide +kernel
theorem dL_law_1053 : decode cL_law 1053 = .ok (.aload_n 2, 1) := by decide +kernel
theorem dL_law_1054 : decode cL_law 1054 = .ok (.aload_n 0, 1) := by decide +kernel
theorem dL_law_1055 : decode cL_law 1055 = .ok (.iload 4, 2) := by decide +kernel
theorem dL_law_1057 : decode cL_law 1057 = .ok (.iconst 1, 1) := by decide +kernel
theorem dL_law_1058 : decode cL_law 1058 = .ok (.iadd, 1) := by decide +kernel
theorem dL_law_1059 : decode cL_law 1059 = .ok (.iaload, 1) := by decide +kernel
theorem dL_law_1060 : decode cL_law 1060 = .ok (.invokevirtual 131, 3) := by decide +kernel
theorem dL_law_1063 : decode cL_law 1063 = .ok (.if_icmp .eq 598, 3) := by decide +kernel
theorem dL_law_1066 : decode cL_law 1066 = .ok (.iconst 0, 1) := by decide +kernel
theorem dL_law_1067 : decode cL_law 1067 = .ok (.ireturn, 1) := by decide +kernel
theorem dL_law_1068 : decode cL_law 1068 = .ok (.aload_n 1, 1) := by decide +kernel
theorem dL_law_1069 : decode cL_law 1069 = .ok (.aload_n 0, 1) := by decide +kernel
theorem dL_law_1070 : decode cL_law 1070 = .ok (.iload 4, 2) := by decide +kernel
theorem dL_law_1072 : decode cL_law 1072 = .ok (.iconst 1, 1) := by decide +kernel
theorem dL_law_1073 : decode cL_law 1073 = .ok (.iadd, 1) := by decide +kernel
theorem dL_law_1074 : decode cL_law 1074 = .ok (.iaload, 1) := by decide +kernel
theorem dL_law_1075 : decode cL_law 1075 = .ok (.aload_n 0, 1) := by decide +kernel
theorem dL_law_1076 : decode cL_law 1076 = .ok (.iload 4, 2) := by decide +kernel
theorem dL_law_1078 : decode cL_law 1078 = .ok (.iconst 2, 1) := by decide +kernel
theorem dL_law_1079 : decode cL_law 1079 = .ok (.iadd, 1) := by decide +kernel
theorem dL_law_1080 : decode cL_law 1080 = .ok (.iaload, 1) := by decide +kernel
theorem dL_law_1081 : decode cL_law 1081 = .ok (.aload_n 0, 1) := by decide +kernel
theorem dL_law_1082 : decode cL_law 1082 = .ok (.iload 4, 2) := by decide +kernel
theorem dL_law_1084 : decode cL_law 1084 = .ok (.iconst 3, 1) := by decide +kernel
theorem dL_law_1085 : decode cL_law 1085 = .ok (.iadd, 1) := by decide +kernel
theorem dL_law_1086 : decode cL_law 1086 = .ok (.iaload, 1) := by decide +kernel
theorem dL_law_1087 : decode cL_law 1087 = .ok (.aload_n 0, 1) := by decide +kernel
theorem dL_law_1088 : decode cL_law 1088 = .ok (.iload 4, 2) := by decide +kernel
theorem dL_law_1090 : decode cL_law 1090 = .ok (.iconst 4, 1) := by decide +kernel
theorem dL_law_1091 : decode cL_law 1091 = .ok (.iadd, 1) := by decide +kernel
theorem dL_law_1092 : decode cL_law 1092 = .ok (.iaload, 1) := by decide +kernel
theorem dL_law_1093 : decode cL_law 1093 = .ok (.invokevirtual 132, 3) := by decide +kernel
theorem dL_law_1096 : decode cL_law 1096 = .ok (.aload_n 2, 1) := by decide +kernel
theorem dL_law_1097 : decode cL_law 1097 = .ok (.aload_n 0, 1) := by decide +kernel
theorem dL_law_1098 : decode cL_law 1098 = .ok (.iload 4, 2) := by decide +kernel
theorem dL_law_1100 : decode cL_law 1100 = .ok (.iconst 1, 1) := by decide +kernel
theorem dL_law_1101 : decode cL_law 1101 = .ok (.iadd, 1) := by decide +kernel
theorem dL_law_1102 : decode cL_law 1102 = .ok (.iaload, 1) := by decide +kernel
theorem dL_law_1103 : decode cL_law 1103 = .ok (.aload_n 0, 1) := by decide +kernel
theorem dL_law_1104 : decode cL_law 1104 = .ok (.iload 4, 2) := by decide +kernel
theorem dL_law_1106 : decode cL_law 1106 = .ok (.iconst 2, 1) := by decide +kernel
theorem dL_law_1107 : decode cL_law 1107 = .ok (.iadd, 1) := by decide +kernel
theorem dL_law_1108 : decode cL_law 1108 = .ok (.iaload, 1) := by decide +kernel
theorem dL_law_1109 : decode cL_law 1109 = .ok (.aload_n 0, 1) := by decide +kernel
theorem dL_law_1110 : decode cL_law 1110 = .ok (.iload 4, 2) := by decide +kernel
theorem dL_law_1112 : decode cL_law 1112 = .ok (.iconst 3, 1) := by decide +kernel
theorem dL_law_1113 : decode cL_law 1113 = .ok (.iadd, 1) := by decide +kernel
theorem dL_law_1114 : decode cL_law 1114 = .ok (.iaload, 1) := by decide +kernel
theorem dL_law_1115 : decode cL_law 1115 = .ok (.aload_n 0, 1) := by decide +kernel
theorem dL_law_1116 : decode cL_law 1116 = .ok (.iload 4, 2) := by decide +kernel
theorem dL_law_1118 : decode cL_law 1118 = .ok (.iconst 4, 1) := by decide +kernel
theorem dL_law_1119 : decode cL_law 1119 = .ok (.iadd, 1) := by decide +kernel
theorem dL_law_1120 : decode cL_law 1120 = .ok (.iaload, 1) := by decide +kernel
theorem dL_law_1121 : decode cL_law 1121 = .ok (.invokevirtual 136, 3) := by decide +kernel
theorem dL_law_1124 : decode cL_law 1124 = .ok (.if_icmp .eq 537, 3) := by decide +kernel
theorem dL_law_1127 : decode cL_law 1127 = .ok (.iconst 0, 1) := by decide +kernel
theorem dL_law_1128 : decode cL_law 1128 = .ok (.ireturn, 1) := by decide +kernel
theorem dL_law_1129 : decode cL_law 1129 = .ok (.aload_n 1, 1) := by decide +kernel
theorem dL_law_1130 : decode cL_law 1130 = .ok (.aload_n 0, 1) := by decide +kernel
theorem dL_law_1131 : decode cL_law 1131 = .ok (.iload 4, 2) := by decide +kernel
theorem dL_law_1133 : decode cL_law 1133 = .ok (.iconst 1, 1) := by decide +kernel
theorem dL_law_1134 : decode cL_law 1134 = .ok (.iadd, 1) := by decide +kernel
theorem dL_law_1135 : decode cL_law 1135 = .ok (.iaload, 1) := by decide +kernel
theorem dL_law_1136 : decode cL_law 1136 = .ok (.aload_n 0, 1) := by decide +kernel
theorem dL_law_1137 : decode cL_law 1137 = .ok (.iload 4, 2) := by decide +kernel
theorem dL_law_1139 : decode cL_law 1139 = .ok (.iconst 2, 1) := by decide +kernel
theorem dL_law_1140 : decode cL_law 1140 = .ok (.iadd, 1) := by decide +kernel
theorem dL_law_1141 : decode cL_law 1141 = .ok (.iaload, 1) := by decide +kernel
theorem dL_law_1142 : decode cL_law 1142 = .ok (.invokevirtual 137, 3) := by decide +kernel
theorem dL_law_1145 : decode cL_law 1145 = .ok (.aload_n 2, 1) := by decide +kernel
theorem dL_law_1146 : decode cL_law 1146 = .ok (.aload_n 0, 1) := by decide +kernel
theorem dL_law_1147 : decode cL_law 1147 = .ok (.iload 4, 2) := by decide +kernel
theorem dL_law_1149 : decode cL_law 1149 = .ok (.iconst 1, 1) := by decide +kernel
theorem dL_law_1150 : decode cL_law 1150 = .ok (.iadd, 1) := by decide +kernel
theorem dL_law_1151 : decode cL_law 1151 = .ok (.iaload, 1) := by decide +kernel
theorem dL_law_1152 : decode cL_law 1152 = .ok (.aload_n 0, 1) := by decide +kernel
theorem dL_law_1153 : decode cL_law 1153 = .ok (.iload 4, 2) := by decide +kernel
theorem dL_law_1155 : decode cL_law 1155 = .ok (.iconst 2, 1) := by decide +kernel
theorem dL_law_1156 : decode cL_law 1156 = .ok (.iadd, 1) := by decide +kernel
theorem dL_law_1157 : decode cL_law 1157 = .ok (.iaload, 1) := by decide +kernel
theorem dL_law_1158 : decode cL_law 1158 = .ok (.invokevirtual 140, 3) := by decide +kernel
theorem dL_law_1161 : decode cL_law 1161 = .ok (.if_icmp .eq 500, 3) := by decide +kernel
theorem dL_law_1164 : decode cL_law 1164 = .ok (.iconst 0, 1) := by decide +kernel
theorem dL_law_1165 : decode cL_law 1165 = .ok (.ireturn, 1) := by decide +kernel
theorem dL_law_1166 : decode cL_law 1166 = .ok (.aload_n 1, 1) := by decide +kernel
theorem dL_law_1167 : decode cL_law 1167 = .ok (.aload_n 0, 1) := by decide +kernel
theorem dL_law_1168 : decode cL_law 1168 = .ok (.iload 4, 2) := by decide +kernel
theorem dL_law_1170 : decode cL_law 1170 = .ok (.iconst 1, 1) := by decide +kernel
theorem dL_law_1171 : decode cL_law 1171 = .ok (.iadd, 1) := by decide +kernel
theorem dL_law_1172 : decode cL_law 1172 = .ok (.iaload, 1) := by decide +kernel
theorem dL_law_1173 : decode cL_law 1173 = .ok (.aload_n 0, 1) := by decide +kernel
theorem dL_law_1174 : decode cL_law 1174 = .ok (.iload 4, 2) := by decide +kernel
theorem dL_law_1176 : decode cL_law 1176 = .ok (.iconst 2, 1) := by decide +kernel
theorem dL_law_1177 : decode cL_law 1177 = .ok (.iadd, 1) := by decide +kernel
theorem dL_law_1178 : decode cL_law 1178 = .ok (.iaload, 1) := by decide +kernel
theorem dL_law_1179 : decode cL_law 1179 = .ok (.invokevirtual 141, 3) := by decide +kernel
theorem dL_law_1182 : decode cL_law 1182 = .ok (.aload_n 2, 1) := by decide +kernel
theorem dL_law_1183 : decode cL_law 1183 = .ok (.aload_n 0, 1) := by decide +kernel
theorem dL_law_1184 : decode cL_law 1184 = .ok (.iload 4, 2) := by decide +kernel
theorem dL_law_1186 : decode cL_law 1186 = .ok (.iconst 1, 1) := by decide +kernel
theorem dL_law_1187 : decode cL_law 1187 = .ok (.iadd, 1) := by decide +kernel
theorem dL_law_1188 : decode cL_law 1188 = .ok (.iaload, 1) := by decide +kernel
theorem dL_law_1189 : decode cL_law 1189 = .ok (.aload_n 0, 1) := by decide +kernel
theorem dL_law_1190 : decode cL_law 1190 = .ok (.iload 4, 2) := by decide +kernel
theorem dL_law_1192 : decode cL_law 1192 = .ok (.iconst 2, 1) := by decide +kernel
theorem dL_law_1193 : decode cL_law 1193 = .ok (.iadd, 1) := by decide +kernel
theorem dL_law_1194 : decode cL_law 1194 = .ok (.iaload, 1) := by decide +kernel
theorem dL_law_1195 : decode cL_law 1195 = .ok (.invokevirtual 144, 3) := by decide +kernel
theorem dL_law_1198 : decode cL_law 1198 = .ok (.if_icmp .eq 463, 3) := by decide +kernel
theorem dL_law_1201 : decode cL_law 1201 = .ok (.iconst 0, 1) := by decide +kernel
theorem dL_law_1202 : decode cL_law 1202 = .ok (.ireturn, 1) := by decide +kernel
theorem dL_law_1203 : decode cL_law 1203 = .ok (.aload_n 1, 1) := by decide +kernel
theorem dL_law_1204 : decode cL_law 1204 = .ok (.aload_n 0, 1) := by decide +kernel
theorem dL_law_1205 : decode cL_law 1205 = .ok (.iload 4, 2) := by decide +kernel
theorem dL_law_1207 : decode cL_law 1207 = .ok (.iconst 1, 1) := by decide +kernel
theorem dL_law_1208 : decode cL_law 1208 = .ok (.iadd, 1) := by decide +kernel
theorem dL_law_1209 : decode cL_law 1209 = .ok (.iaload, 1) := by decide +kernel
theorem dL_law_1210 : decode cL_law 1210 = .ok (.aload_n 0, 1) := by decide +kernel
theorem dL_law_1211 : decode cL_law 1211 = .ok (.iload 4, 2) := by decide +kernel
theorem dL_law_1213 : decode cL_law 1213 = .ok (.iconst 2, 1) := by decide +kernel
theorem dL_law_1214 : decode cL_law 1214 = .ok (.iadd, 1) := by decide +kernel
theorem dL_law_1215 : decode cL_law 1215 = .ok (.iaload, 1) := by decide +kernel
theorem dL_law_1216 : decode cL_law 1216 = .ok (.aload_n 0, 1) := by decide +kernel
theorem dL_law_1217 : decode cL_law 1217 = .ok (.iload 4, 2) := by decide +kernel
theorem dL_law_1219 : decode cL_law 1219 = .ok (.iconst 3, 1) := by decide +kernel
theorem dL_law_1220 : decode cL_law 1220 = .ok (.iadd, 1) := by decide +kernel
theorem dL_law_1221 : decode cL_law 1221 = .ok (.iaload, 1) := by decide +kernel
theorem dL_law_1222 : decode cL_law 1222 = .ok (.invokevirtual 145, 3) := by decide +kernel
theorem dL_law_1225 : decode cL_law 1225 = .ok (.aload_n 2, 1) := by decide +kernel
theorem dL_law_1226 : decode cL_law 1226 = .ok (.aload_n 0, 1) := by decide +kernel
theorem dL_law_1227 : decode cL_law 1227 = .ok (.iload 4, 2) := by decide +kernel
theorem dL_law_1229 : decode cL_law 1229 = .ok (.iconst 1, 1) := by decide +kernel
theorem dL_law_1230 : decode cL_law 1230 = .ok (.iadd, 1) := by decide +kernel
theorem dL_law_1231 : decode cL_law 1231 = .ok (.iaload, 1) := by decide +kernel
theorem dL_law_1232 : decode cL_law 1232 = .ok (.aload_n 0, 1) := by decide +kernel
theorem dL_law_1233 : decode cL_law 1233 = .ok (.iload 4, 2) := by decide +kernel
theorem dL_law_1235 : decode cL_law 1235 = .ok (.iconst 2, 1) := by decide +kernel
theorem dL_law_1236 : decode cL_law 1236 = .ok (.iadd, 1) := by decide +kernel
theorem dL_law_1237 : decode cL_law 1237 = .ok (.iaload, 1) := by decide +kernel
theorem dL_law_1238 : decode cL_law 1238 = .ok (.aload_n 0, 1) := by decide +kernel
theorem dL_law_1239 : decode cL_law 1239 = .ok (.iload 4, 2) := by decide +kernel
theorem dL_law_1241 : decode cL_law 1241 = .ok (.iconst 3, 1) := by decide +kernel
theorem dL_law_1242 : decode cL_law 1242 = .ok (.iadd, 1) := by decide +kernel
theorem dL_law_1243 : decode cL_law 1243 = .ok (.iaload, 1) := by decide +kernel
theorem dL_law_1244 : decode cL_law 1244 = .ok (.invokevirtual 148, 3) := by decide +kernel
theorem dL_law_1247 : decode cL_law 1247 = .ok (.if_icmp .eq 414, 3) := by decide +kernel
theorem dL_law_1250 : decode cL_law 1250 = .ok (.iconst 0, 1) := by decide +kernel
theorem dL_law_1251 : decode cL_law 1251 = .ok (.ireturn, 1) := by decide +kernel
theorem dL_law_1252 : decode cL_law 1252 = .ok (.aload_n 1, 1) := by decide +kernel
theorem dL_law_1253 : decode cL_law 1253 = .ok (.aload_n 0, 1) := by decide +kernel
theorem dL_law_1254 : decode cL_law 1254 = .ok (.iload 4, 2) := by decide +kernel
theorem dL_law_1256 : decode cL_law 1256 = .ok (.iconst 1, 1) := by decide +kernel
theorem dL_law_1257 : decode cL_law 1257 = .ok (.iadd, 1) := by decide +kernel
theorem dL_law_1258 : decode cL_law 1258 = .ok (.iaload, 1) := by decide +kernel
theorem dL_law_1259 : decode cL_law 1259 = .ok (.aload_n 0, 1) := by decide +kernel
theorem dL_law_1260 : decode cL_law 1260 = .ok (.iload 4, 2) := by decide +kernel
theorem dL_law_1262 : decode cL_law 1262 = .ok (.iconst 2, 1) := by decide +kernel
theorem dL_law_1263 : decode cL_law 1263 = .ok (.iadd, 1) := by decide +kernel
theorem dL_law_1264 : decode cL_law 1264 = .ok (.iaload, 1) := by decide +kernel
theorem dL_law_1265 : decode cL_law 1265 = .ok (.aload_n 0, 1) := by decide +kernel
theorem dL_law_1266 : decode cL_law 1266 = .ok (.iload 4, 2) := by decide +kernel
theorem dL_law_1268 : decode cL_law 1268 = .ok (.iconst 3, 1) := by decide +kernel
theorem dL_law_1269 : decode cL_law 1269 = .ok (.iadd, 1) := by decide +kernel
theorem dL_law_1270 : decode cL_law 1270 = .ok (.iaload, 1) := by decide +kernel
theorem dL_law_1271 : decode cL_law 1271 = .ok (.aload_n 0, 1) := by decide +kernel
theorem dL_law_1272 : decode cL_law 1272 = .ok (.iload 4, 2) := by decide +kernel
theorem dL_law_1274 : decode cL_law 1274 = .ok (.iconst 4, 1) := by decide +kernel
theorem dL_law_1275 : decode cL_law 1275 = .ok (.iadd, 1) := by decide +kernel
theorem dL_law_1276 : decode cL_law 1276 = .ok (.iaload, 1) := by decide +kernel
theorem dL_law_1277 : decode cL_law 1277 = .ok (.aload_n 0, 1) := by decide +kernel
theorem dL_law_1278 : decode cL_law 1278 = .ok (.iload 4, 2) := by decide +kernel
theorem dL_law_1280 : decode cL_law 1280 = .ok (.iconst 5, 1) := by decide +kernel
theorem dL_law_1281 : decode cL_law 1281 = .ok (.iadd, 1) := by decide +kernel
theorem dL_law_1282 : decode cL_law 1282 = .ok (.iaload, 1) := by decide +kernel
theorem dL_law_1283 : decode cL_law 1283 = .ok (.invokevirtual 149, 3) := by decide +kernel
theorem dL_law_1286 : decode cL_law 1286 = .ok (.aload_n 2, 1) := by decide +kernel
theorem dL_law_1287 : decode cL_law 1287 = .ok (.aload_n 0, 1) := by decide +kernel
theorem dL_law_1288 : decode cL_law 1288 = .ok (.iload 4, 2) := by decide +kernel
theorem dL_law_1290 : decode cL_law 1290 = .ok (.iconst 1, 1) := by decide +kernel
theorem dL_law_1291 : decode cL_law 1291 = .ok (.iadd, 1) := by decide +kernel
theorem dL_law_1292 : decode cL_law 1292 = .ok (.iaload, 1) := by decide +kernel
theorem dL_law_1293 : decode cL_law 1293 = .ok (.aload_n 0, 1) := by decide +kernel
theorem dL_law_1294 : decode cL_law 1294 = .ok (.iload 4, 2) := by decide +kernel
theorem dL_law_1296 : decode cL_law 1296 = .ok (.iconst 2, 1) := by decide +kernel
theorem dL_law_1297 : decode cL_law 1297 = .ok (.iadd, 1) := by decide +kernel
theorem dL_law_1298 : decode cL_law 1298 = .ok (.iaload, 1) := by decide +kernel
theorem dL_law_1299 : decode cL_law 1299 = .ok (.aload_n 0, 1) := by decide +kernel
theorem dL_law_1300 : decode cL_law 1300 = .ok (.iload 4, 2) := by decide +kernel
theorem dL_law_1302 : decode cL_law 1302 = .ok (.iconst 3, 1) := by decide +kernel
theorem dL_law_1303 : decode cL_law 1303 = .ok (.iadd, 1) := by decide +kernel
theorem dL_law_1304 : decode cL_law 1304 = .ok (.iaload, 1) := by decide +kernel
theorem dL_law_1305 : decode cL_law 1305 = .ok (.aload_n 0, 1) := by decide +kernel
theorem dL_law_1306 : decode cL_law 1306 = .ok (.iload 4, 2) := by decide +kernel
theorem dL_law_1308 : decode cL_law 1308 = .ok (.iconst 4, 1) := by decide +kernel
theorem dL_law_1309 : decode cL_law 1309 = .ok (.iadd, 1) := by decide +kernel
theorem dL_law_1310 : decode cL_law 1310 = .ok (.iaload, 1) := by decide +kernel
theorem dL_law_1311 : decode cL_law 1311 = .ok (.aload_n 0, 1) := by decide +kernel
theorem dL_law_1312 : decode cL_law 1312 = .ok (.iload 4, 2) := by decide +kernel
theorem dL_law_1314 : decode cL_law 1314 = .ok (.iconst 5, 1) := by decide +kernel
theorem dL_law_1315 : decode cL_law 1315 = .ok (.iadd, 1) := by decide +kernel
theorem dL_law_1316 : decode cL_law 1316 = .ok (.iaload, 1) := by decide +kernel
theorem dL_law_1317 : decode cL_law 1317 = .ok (.invokevirtual 152, 3) := by decide +kernel
theorem dL_law_1320 : decode cL_law 1320 = .ok (.if_icmp .eq 341, 3) := by decide +kernel
theorem dL_law_1323 : decode cL_law 1323 = .ok (.iconst 0, 1) := by decide +kernel
theorem dL_law_1324 : decode cL_law 1324 = .ok (.ireturn, 1) := by decide +kernel
theorem dL_law_1325 : decode cL_law 1325 = .ok (.aload_n 1, 1) := by decide +kernel
theorem dL_law_1326 : decode cL_law 1326 = .ok (.aload_n 0, 1) := by decide +kernel
theorem dL_law_1327 : decode cL_law 1327 = .ok (.iload 4, 2) := by decide +kernel
theorem dL_law_1329 : decode cL_law 1329 = .ok (.iconst 1, 1) := by decide +kernel
theorem dL_law_1330 : decode cL_law 1330 = .ok (.iadd, 1) := by decide +kernel
theorem dL_law_1331 : decode cL_law 1331 = .ok (.iaload, 1) := by decide +kernel
theorem dL_law_1332 : decode cL_law 1332 = .ok (.aload_n 0, 1) := by decide +kernel
theorem dL_law_1333 : decode cL_law 1333 = .ok (.iload 4, 2) := by decide +kernel
theorem dL_law_1335 : decode cL_law 1335 = .ok (.iconst 2, 1) := by decide +kernel
theorem dL_law_1336 : decode cL_law 1336 = .ok (.iadd, 1) := by decide +kernel
theorem dL_law_1337 : decode cL_law 1337 = .ok (.iaload, 1) := by decide +kernel
theorem dL_law_1338 : decode cL_law 1338 = .ok (.aload_n 0, 1) := by decide +kernel
theorem dL_law_1339 : decode cL_law 1339 = .ok (.iload 4, 2) := by decide +kernel
theorem dL_law_1341 : decode cL_law 1341 = .ok (.iconst 3, 1) := by decide +kernel
theorem dL_law_1342 : decode cL_law 1342 = .ok (.iadd, 1) := by decide +kernel
theorem dL_law_1343 : decode cL_law 1343 = .ok (.iaload, 1) := by decide +kernel
theorem dL_law_1344 : decode cL_law 1344 = .ok (.invokevirtual 153, 3) := by decide +kernel
theorem dL_law_1347 : decode cL_law 1347 = .ok (.aload_n 2, 1) := by decide +kernel
theorem dL_law_1348 : decode cL_law 1348 = .ok (.aload_n 0, 1) := by decide +kernel
theorem dL_law_1349 : decode cL_law 1349 = .ok (.iload 4, 2) := by decide +kernel
theorem dL_law_1351 : decode cL_law 1351 = .ok (.iconst 1, 1) := by decide +kernel
theorem dL_law_1352 : decode cL_law 1352 = .ok (.iadd, 1) := by decide +kernel
theorem dL_law_1353 : decode cL_law 1353 = .ok (.iaload, 1) := by decide +kernel
theorem dL_law_1354 : decode cL_law 1354 = .ok (.aload_n 0, 1) := by decide +kernel
theorem dL_law_1355 : decode cL_law 1355 = .ok (.iload 4, 2) := by decide +kernel
theorem dL_law_1357 : decode cL_law 1357 = .ok (.iconst 2, 1) := by decide +kernel
theorem dL_law_1358 : decode cL_law 1358 = .ok (.iadd, 1) := by decide +kernel
theorem dL_law_1359 : decode cL_law 1359 = .ok (.iaload, 1) := by decide +kernel
theorem dL_law_1360 : decode cL_law 1360 = .ok (.aload_n 0, 1) := by decide +kernel
theorem dL_law_1361 : decode cL_law 1361 = .ok (.iload 4, 2) := by decide +kernel
theorem dL_law_1363 : decode cL_law 1363 = .ok (.iconst 3, 1) := by decide +kernel
theorem dL_law_1364 : decode cL_law 1364 = .ok (.iadd, 1) := by decide +kernel
theorem dL_law_1365 : decode cL_law 1365 = .ok (.iaload, 1) := by decide +kernel
theorem dL_law_1366 : decode cL_law 1366 = .ok (.invokevirtual 156, 3) := by decide +kernel
theorem dL_law_1369 : decode cL_law 1369 = .ok (.if_icmp .eq 292, 3) := by decide +kernel
theorem dL_law_1372 : decode cL_law 1372 = .ok (.iconst 0, 1) := by decide +kernel
theorem dL_law_1373 : decode cL_law 1373 = .ok (.ireturn, 1) := by decide +kernel
theorem dL_law_1374 : decode cL_law 1374 = .ok (.aload_n 1, 1) := by decide +kernel
theorem dL_law_1375 : decode cL_law 1375 = .ok (.aload_n 0, 1) := by decide +kernel
theorem dL_law_1376 : decode cL_law 1376 = .ok (.iload 4, 2) := by decide +kernel
theorem dL_law_1378 : decode cL_law 1378 = .ok (.iconst 1, 1) := by decide +kernel
theorem dL_law_1379 : decode cL_law 1379 = .ok (.iadd, 1) := by decide +kernel
theorem dL_law_1380 : decode cL_law 1380 = .ok (.iaload, 1) := by decide +kernel
theorem dL_law_1381 : decode cL_law 1381 = .ok (.invokevirtual 157, 3) := by decide +kernel
theorem dL_law_1384 : decode cL_law 1384 = .ok (.aload_n 2, 1) := by decide +kernel
theorem dL_law_1385 : decode cL_law 1385 = .ok (.aload_n 0, 1) := by decide +kernel
theorem dL_law_1386 : decode cL_law 1386 = .ok (.iload 4, 2) := by decide +kernel
theorem dL_law_1388 : decode cL_law 1388 = .ok (.iconst 1, 1) := by decide +kernel
theorem dL_law_1389 : decode cL_law 1389 = .ok (.iadd, 1) := by decide +kernel
theorem dL_law_1390 : decode cL_law 1390 = .ok (.iaload, 1) := by decide +kernel
theorem dL_law_1391 : decode cL_law 1391 = .ok (.invokevirtual 160, 3) := by decide +kernel
theorem dL_law_1394 : decode cL_law 1394 = .ok (.if_icmp .eq 267, 3) := by decide +kernel
theorem dL_law_1397 : decode cL_law 1397 = .ok (.iconst 0, 1) := by decide +kernel
theorem dL_law_1398 : decode cL_law 1398 = .ok (.ireturn, 1) := by decide +kernel
theorem dL_law_1399 : decode cL_law 1399 = .ok (.aload_n 1, 1) := by decide +kernel
theorem dL_law_1400 : decode cL_law 1400 = .ok (.aload_n 0, 1) := by decide +kernel
theorem dL_law_1401 : decode cL_law 1401 = .ok (.iload 4, 2) := by decide +kernel
theorem dL_law_1403 : decode cL_law 1403 = .ok (.iconst 1, 1) := by decide +kernel
theorem dL_law_1404 : decode cL_law 1404 = .ok (.iadd, 1) := by decide +kernel
theorem dL_law_1405 : decode cL_law 1405 = .ok (.iaload, 1) := by decide +kernel
theorem dL_law_1406 : decode cL_law 1406 = .ok (.aload_n 0, 1) := by decide +kernel
theorem dL_law_1407 : decode cL_law 1407 = .ok (.iload 4, 2) := by decide +kernel
theorem dL_law_1409 : decode cL_law 1409 = .ok (.iconst 2, 1) := by decide +kernel
theorem dL_law_1410 : decode cL_law 1410 = .ok (.iadd, 1) := by decide +kernel
theorem dL_law_1411 : decode cL_law 1411 = .ok (.iaload, 1) := by decide +kernel
theorem dL_law_1412 : decode cL_law 1412 = .ok (.invokevirtual 161, 3) := by decide +kernel
theorem dL_law_1415 : decode cL_law 1415 = .ok (.aload_n 2, 1) := by decide +kernel
theorem dL_law_1416 : decode cL_law 1416 = .ok (.aload_n 0, 1) := by decide +kernel
theorem dL_law_1417 : decode cL_law 1417 = .ok (.iload 4, 2) := by decide +kernel
theorem dL_law_1419 : decode cL_law 1419 = .ok (.iconst 1, 1) := by decide +kernel
theorem dL_law_1420 : decode cL_law 1420 = .ok (.iadd, 1) := by decide +kernel
theorem dL_law_1421 : decode cL_law 1421 = .ok (.iaload, 1) := by decide +kernel
theorem dL_law_1422 : decode cL_law 1422 = .ok (.aload_n 0, 1) := by decide +kernel
theorem dL_law_1423 : decode cL_law 1423 = .ok (.iload 4, 2) := by decide +kernel
theorem dL_law_1425 : decode cL_law 1425 = .ok (.iconst 2, 1) := by decide +kernel
theorem dL_law_1426 : decode cL_law 1426 = .ok (.iadd, 1) := by decide +kernel
theorem dL_law_1427 : decode cL_law 1427 = .ok (.iaload, 1) := by decide +kernel
theorem dL_law_1428 : decode cL_law 1428 = .ok (.invokevirtual 164, 3) := by decide +kernel
theorem dL_law_1431 : decode cL_law 1431 = .ok (.if_icmp .eq 230, 3) := by decide +kernel
theorem dL_law_1434 : decode cL_law 1434 = .ok (.iconst 0, 1) := by decide +kernel
theorem dL_law_1435 : decode cL_law 1435 = .ok (.ireturn, 1) := by decide +kernel
theorem dL_law_1436 : decode cL_law 1436 = .ok (.aload_n 1, 1) := by decide +kernel
theorem dL_law_1437 : decode cL_law 1437 = .ok (.aload_n 0, 1) := by decide +kernel
theorem dL_law_1438 : decode cL_law 1438 = .ok (.iload 4, 2) := by decide +kernel
theorem dL_law_1440 : decode cL_law 1440 = .ok (.iconst 1, 1) := by decide +kernel
theorem dL_law_1441 : decode cL_law 1441 = .ok (.iadd, 1) := by decide +kernel
theorem dL_law_1442 : decode cL_law 1442 = .ok (.iaload, 1) := by decide +kernel
theorem dL_law_1443 : decode cL_law 1443 = .ok (.aload_n 0, 1) := by decide +kernel
theorem dL_law_1444 : decode cL_law 1444 = .ok (.iload 4, 2) := by decide +kernel
theorem dL_law_1446 : decode cL_law 1446 = .ok (.iconst 2, 1) := by decide +kernel
theorem dL_law_1447 : decode cL_law 1447 = .ok (.iadd, 1) := by decide +kernel
theorem dL_law_1448 : decode cL_law 1448 = .ok (.iaload, 1) := by decide +kernel
theorem dL_law_1449 : decode cL_law 1449 = .ok (.invokevirtual 165, 3) := by decide +kernel
theorem dL_law_1452 : decode cL_law 1452 = .ok (.aload_n 2, 1) := by decide +kernel
theorem dL_law_1453 : decode cL_law 1453 = .ok (.aload_n 0, 1) := by decide +kernel
theorem dL_law_1454 : decode cL_law 1454 = .ok (.iload 4, 2) := by decide +kernel
theorem dL_law_1456 : decode cL_law 1456 = .ok (.iconst 1, 1) := by decide +kernel
theorem dL_law_1457 : decode cL_law 1457 = .ok (.iadd, 1) := by decide +kernel
theorem dL_law_1458 : decode cL_law 1458 = .ok (.iaload, 1) := by decide +kernel
theorem dL_law_1459 : decode cL_law 1459 = .ok (.aload_n 0, 1) := by decide +kernel
theorem dL_law_1460 : decode cL_law 1460 = .ok (.iload 4, 2) := by decide +kernel
theorem dL_law_1462 : decode cL_law 1462 = .ok (.iconst 2, 1) := by decide +kernel
theorem dL_law_1463 : decode cL_law 1463 = .ok (.iadd, 1) := by decide +kernel
theorem dL_law_1464 : decode cL_law 1464 = .ok (.iaload, 1) := by decide +kernel
theorem dL_law_1465 : decode cL_law 1465 = .ok (.invokevirtual 168, 3) := by decide +kernel
theorem dL_law_1468 : decode cL_law 1468 = .ok (.if_icmp .eq 193, 3) := by decide +kernel
theorem dL_law_1471 : decode cL_law 1471 = .ok (.iconst 0, 1) := by decide +kernel
theorem dL_law_1472 : decode cL_law 1472 = .ok (.ireturn, 1) := by decide +kernel
theorem dL_law_1473 : decode cL_law 1473 = .ok (.aload_n 1, 1) := by decide +kernel
theorem dL_law_1474 : decode cL_law 1474 = .ok (.aload_n 0, 1) := by decide +kernel
theorem dL_law_1475 : decode cL_law 1475 = .ok (.iload 4, 2) := by decide +kernel
theorem dL_law_1477 : decode cL_law 1477 = .ok (.iconst 1, 1) := by decide +kernel
theorem dL_law_1478 : decode cL_law 1478 = .ok (.iadd, 1) := by decide +kernel
theorem dL_law_1479 : decode cL_law 1479 = .ok (.iaload, 1) := by decide +kernel
theorem dL_law_1480 : decode cL_law 1480 = .ok (.invokevirtual 169, 3) := by decide +kernel
theorem dL_law_1483 : decode cL_law 1483 = .ok (.aload_n 2, 1) := by decide +kernel
theorem dL_law_1484 : decode cL_law 1484 = .ok (.aload_n 0, 1) := by decide +kernel
theorem dL_law_1485 : decode cL_law 1485 = .ok (.iload 4, 2) := by decide +kernel
theorem dL_law_1487 : decode cL_law 1487 = .ok (.iconst 1, 1) := by decide +kernel
theorem dL_law_1488 : decode cL_law 1488 = .ok (.iadd, 1) := by decide +kernel
theorem dL_law_1489 : decode cL_law 1489 = .ok (.iaload, 1) := by decide +kernel
theorem dL_law_1490 : decode cL_law 1490 = .ok (.invokevirtual 172, 3) := by decide +kernel
theorem dL_law_1493 : decode cL_law 1493 = .ok (.if_icmp .eq 168, 3) := by decide +kernel
theorem dL_law_1496 : decode cL_law 1496 = .ok (.iconst 0, 1) := by decide +kernel
theorem dL_law_1497 : decode cL_law 1497 = .ok (.ireturn, 1) := by decide +kernel
theorem dL_law_1498 : decode cL_law 1498 = .ok (.aload_n 1, 1) := by decide +kernel
theorem dL_law_1499 : decode cL_law 1499 = .ok (.aload_n 0, 1) := by decide +kernel
theorem dL_law_1500 : decode cL_law 1500 = .ok (.iload 4, 2) := by decide +kernel
theorem dL_law_1502 : decode cL_law 1502 = .ok (.iconst 1, 1) := by decide +kernel
theorem dL_law_1503 : decode cL_law 1503 = .ok (.iadd, 1) := by decide +kernel
theorem dL_law_1504 : decode cL_law 1504 = .ok (.iaload, 1) := by decide +kernel
theorem dL_law_1505 : decode cL_law 1505 = .ok (.invokevirtual 173, 3) := by decide +kernel
theorem dL_law_1508 : decode cL_law 1508 = .ok (.aload_n 2, 1) := by decide +kernel
theorem dL_law_1509 : decode cL_law 1509 = .ok (.aload_n 0, 1) := by decide +kernel
theorem dL_law_1510 : decode cL_law 1510 = .ok (.iload 4, 2) := by decide +kernel
theorem dL_law_1512 : decode cL_law 1512 = .ok (.iconst 1, 1) := by decide +kernel
theorem dL_law_1513 : decode cL_law 1513 = .ok (.iadd, 1) := by decide +kernel
theorem dL_law_1514 : decode cL_law 1514 = .ok (.iaload, 1) := by decide +kernel
theorem dL_law_1515 : decode cL_law 1515 = .ok (.invokevirtual 176, 3) := by decide +kernel
theorem dL_law_1518 : decode cL_law 1518 = .ok (.if_icmp .eq 143, 3) := by decide +kernel
theorem dL_law_1521 : decode cL_law 1521 = .ok (.iconst 0, 1) := by decide +kernel
theorem dL_law_1522 : decode cL_law 1522 = .ok (.ireturn, 1) := by decide +kernel
theorem dL_law_1523 : decode cL_law 1523 = .ok (.aload_n 1, 1) := by decide +kernel
theorem dL_law_1524 : decode cL_law 1524 = .ok (.aload_n 0, 1) := by decide +kernel
theorem dL_law_1525 : decode cL_law 1525 = .ok (.iload 4, 2) := by decide +kernel
theorem dL_law_1527 : decode cL_law 1527 = .ok (.iconst 1, 1) := by decide +kernel
theorem dL_law_1528 : decode cL_law 1528 = .ok (.iadd, 1) := by decide +kernel
theorem dL_law_1529 : decode cL_law 1529 = .ok (.iaload, 1) := by decide +kernel
theorem dL_law_1530 : decode cL_law 1530 = .ok (.invokevirtual 177, 3) := by decide +kernel
theorem dL_law_1533 : decode cL_law 1533 = .ok (.aload_n 2, 1) := by decide +kernel
theorem dL_law_1534 : decode cL_law 1534 = .ok (.aload_n 0, 1) := by decide +kernel
theorem dL_law_1535 : decode cL_law 1535 = .ok (.iload 4, 2) := by decide +kernel
theorem dL_law_1537 : decode cL_law 1537 = .ok (.iconst 1, 1) := by decide +kernel
theorem dL_law_1538 : decode cL_law 1538 = .ok (.iadd, 1) := by decide +kernel
theorem dL_law_1539 : decode cL_law 1539 = .ok (.iaload, 1) := by decide +kernel
theorem dL_law_1540 : decode cL_law 1540 = .ok (.invokevirtual 180, 3) := by decide +kernel
theorem dL_law_1543 : decode cL_law 1543 = .ok (.if_icmp .eq 118, 3) := by decide +kernel
theorem dL_law_1546 : decode cL_law 1546 = .ok (.iconst 0, 1) := by decide +kernel
theorem dL_law_1547 : decode cL_law 1547 = .ok (.ireturn, 1) := by decide +kernel
theorem dL_law_1548 : decode cL_law 1548 = .ok (.aload_n 1, 1) := by decide +kernel
theorem dL_law_1549 : decode cL_law 1549 = .ok (.aload_n 0, 1) := by decide +kernel
theorem dL_law_1550 : decode cL_law 1550 = .ok (.iload 4, 2) := by decide +kernel
theorem dL_law_1552 : decode cL_law 1552 = .ok (.iconst 1, 1) := by decide +kernel
theorem dL_law_1553 : decode cL_law 1553 = .ok (.iadd, 1) := by decide +kernel
theorem dL_law_1554 : decode cL_law 1554 = .ok (.iaload, 1) := by decide +kernel
theorem dL_law_1555 : decode cL_law 1555 = .ok (.invokevirtual 181, 3) := by decide +kernel
theorem dL_law_1558 : decode cL_law 1558 = .ok (.aload_n 2, 1) := by decide +kernel
theorem dL_law_1559 : decode cL_law 1559 = .ok (.aload_n 0, 1) := by decide +kernel
theorem dL_law_1560 : decode cL_law 1560 = .ok (.iload 4, 2) := by decide +kernel
theorem dL_law_1562 : decode cL_law 1562 = .ok (.iconst 1, 1) := by decide +kernel
theorem dL_law_1563 : decode cL_law 1563 = .ok (.iadd, 1) := by decide +kernel
theorem dL_law_1564 : decode cL_law 1564 = .ok (.iaload, 1) := by decide +kernel
theorem dL_law_1565 : decode cL_law 1565 = .ok (.invokevirtual 184, 3) := by decide +kernel
theorem dL_law_1568 : decode cL_law 1568 = .ok (.if_icmp .eq 93, 3) := by decide +kernel
theorem dL_law_1571 : decode cL_law 1571 = .ok (.iconst 0, 1) := by decide +kernel
theorem dL_law_1572 : decode cL_law 1572 = .ok (.ireturn, 1) := by decide +kernel
theorem dL_law_1573 : decode cL_law 1573 = .ok (.aload_n 1, 1) := by decide +kernel
theorem dL_law_1574 : decode cL_law 1574 = .ok (.aload_n 0, 1) := by decide +kernel
theorem dL_law_1575 : decode cL_law 1575 = .ok (.iload 4, 2) := by decide +kernel
theorem dL_law_1577 : decode cL_law 1577 = .ok (.iconst 1, 1) := by decide +kernel
theorem dL_law_1578 : decode cL_law 1578 = .ok (.iadd, 1) := by decide +kernel
theorem dL_law_1579 : decode cL_law 1579 = .ok (.iaload, 1) := by decide +kernel
theorem dL_law_1580 : decode cL_law 1580 = .ok (.aload_n 0, 1) := by decide +kernel
theorem dL_law_1581 : decode cL_law 1581 = .ok (.iload 4, 2) := by decide +kernel
theorem dL_law_1583 : decode cL_law 1583 = .ok (.iconst 2, 1) := by decide +kernel
theorem dL_law_1584 : decode cL_law 1584 = .ok (.iadd, 1) := by decide +kernel
theorem dL_law_1585 : decode cL_law 1585 = .ok (.iaload, 1) := by decide +kernel
theorem dL_law_1586 : decode cL_law 1586 = .ok (.invokevirtual 185, 3) := by decide +kernel
theorem dL_law_1589 : decode cL_law 1589 = .ok (.aload_n 2, 1) := by decide +kernel
theorem dL_law_1590 : decode cL_law 1590 = .ok (.aload_n 0, 1) := by decide +kernel
theorem dL_law_1591 : decode cL_law 1591 = .ok (.iload 4, 2) := by decide +kernel
theorem dL_law_1593 : decode cL_law 1593 = .ok (.iconst 1, 1) := by decide +kernel
theorem dL_law_1594 : decode cL_law 1594 = .ok (.iadd, 1) := by decide +kernel
theorem dL_law_1595 : decode cL_law 1595 = .ok (.iaload, 1) := by decide +kernel
theorem dL_law_1596 : decode cL_law 1596 = .ok (.aload_n 0, 1) := by decide +kernel
theorem dL_law_1597 : decode cL_law 1597 = .ok (.iload 4, 2) := by decide +kernel
theorem dL_law_1599 : decode cL_law 1599 = .ok (.iconst 2, 1) := by decide +kernel
theorem dL_law_1600 : decode cL_law 1600 = .ok (.iadd, 1) := by decide +kernel
theorem dL_law_1601 : decode cL_law 1601 = .ok (.iaload, 1) := by decide +kernel
theorem dL_law_1602 : decode cL_law 1602 = .ok (.invokevirtual 188, 3) := by decide +kernel
theorem dL_law_1605 : decode cL_law 1605 = .ok (.if_icmp .eq 56, 3) := by decide +kernel
theorem dL_law_1608 : decode cL_law 1608 = .ok (.iconst 0, 1) := by decide +kernel
theorem dL_law_1609 : decode cL_law 1609 = .ok (.ireturn, 1) := by decide +kernel
theorem dL_law_1610 : decode cL_law 1610 = .ok (.aload_n 1, 1) := by decide +kernel
theorem dL_law_1611 : decode cL_law 1611 = .ok (.invokevirtual 189, 3) := by decide +kernel
theorem dL_law_1614 : decode cL_law 1614 = .ok (.aload_n 2, 1) := by decide +kernel
theorem dL_law_1615 : decode cL_law 1615 = .ok (.invokevirtual 192, 3) := by decide +kernel
theorem dL_law_1618 : decode cL_law 1618 = .ok (.if_icmp .eq 43, 3) := by decide +kernel
theorem dL_law_1621 : decode cL_law 1621 = .ok (.iconst 0, 1) := by decide +kernel
theorem dL_law_1622 : decode cL_law 1622 = .ok (.ireturn, 1) := by decide +kernel
theorem dL_law_1623 : decode cL_law 1623 = .ok (.aload_n 1, 1) := by decide +kernel
theorem dL_law_1624 : decode cL_law 1624 = .ok (.invokevirtual 193, 3) := by decide +kernel
theorem dL_law_1627 : decode cL_law 1627 = .ok (.aload_n 2, 1) := by decide +kernel
theorem dL_law_1628 : decode cL_law 1628 = .ok (.invokevirtual 196, 3) := by decide +kernel
theorem dL_law_1631 : decode cL_law 1631 = .ok (.if_icmp .eq 30, 3) := by decide +kernel
theorem dL_law_1634 : decode cL_law 1634 = .ok (.iconst 0, 1) := by decide +kernel
theorem dL_law_1635 : decode cL_law 1635 = .ok (.ireturn, 1) := by decide +kernel
theorem dL_law_1636 : decode cL_law 1636 = .ok (.aload_n 1, 1) := by decide +kernel
theorem dL_law_1637 : decode cL_law 1637 = .ok (.aload_n 0, 1) := by decide +kernel
theorem dL_law_1638 : decode cL_law 1638 = .ok (.iload 4, 2) := by decide +kernel
theorem dL_law_1640 : decode cL_law 1640 = .ok (.iconst 1, 1) := by decide +kernel
theorem dL_law_1641 : decode cL_law 1641 = .ok (.iadd, 1) := by decide +kernel
theorem dL_law_1642 : decode cL_law 1642 = .ok (.iaload, 1) := by decide +kernel
theorem dL_law_1643 : decode cL_law 1643 = .ok (.invokevirtual 197, 3) := by decide +kernel
theorem dL_law_1646 : decode cL_law 1646 = .ok (.aload_n 2, 1) := by decide +kernel
theorem dL_law_1647 : decode cL_law 1647 = .ok (.aload_n 0, 1) := by decide +kernel
theorem dL_law_1648 : decode cL_law 1648 = .ok (.iload 4, 2) := by decide +kernel
theorem dL_law_1650 : decode cL_law 1650 = .ok (.iconst 1, 1) := by decide +kernel
theorem dL_law_1651 : decode cL_law 1651 = .ok (.iadd, 1) := by decide +kernel
theorem dL_law_1652 : decode cL_law 1652 = .ok (.iaload, 1) := by decide +kernel
theorem dL_law_1653 : decode cL_law 1653 = .ok (.invokevirtual 200, 3) := by decide +kernel
theorem dL_law_1656 : decode cL_law 1656 = .ok (.if_icmp .eq 5, 3) := by decide +kernel
theorem dL_law_1659 : decode cL_law 1659 = .ok (.iconst 0, 1) := by decide +kernel
theorem dL_law_1660 : decode cL_law 1660 = .ok (.ireturn, 1) := by decide +kernel
theorem dL_law_1661 : decode cL_law 1661 = .ok (.iinc 4 6, 3) := by decide +kernel
theorem dL_law_1664 : decode cL_law 1664 = .ok (.goto (-1641), 3) := by decide +kernel
theorem dL_law_1667 : decode cL_law 1667 = .ok (.iconst 1, 1) := by decide +kernel
theorem dL_law_1668 : decode cL_law 1668 = .ok (.ireturn, 1) := by decide +kernel
