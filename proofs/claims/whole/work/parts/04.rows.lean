theorem dX0_init_0 : decode cX0_init 0 = .ok (.aload_n 0, 1) := by decide +kernel
theorem dX0_init_1 : decode cX0_init 1 = .ok (.invokespecial 3, 3) := by decide +kernel
theorem dX0_init_4 : decode cX0_init 4 = .ok (.aload_n 0, 1) := by decide +kernel
theorem dX0_init_5 : decode cX0_init 5 = .ok (.bipush 6, 2) := by decide +kernel
theorem dX0_init_7 : decode cX0_init 7 = .ok (.newarray .int, 2) := by decide +kernel
theorem dX0_init_9 : decode cX0_init 9 = .ok (.putfield 9, 3) := by decide +kernel
theorem dX0_init_12 : decode cX0_init 12 = .ok (.aload_n 0, 1) := by decide +kernel
theorem dX0_init_13 : decode cX0_init 13 = .ok (.bipush 6, 2) := by decide +kernel
theorem dX0_init_15 : decode cX0_init 15 = .ok (.newarray .int, 2) := by decide +kernel
theorem dX0_init_17 : decode cX0_init 17 = .ok (.putfield 15, 3) := by decide +kernel
theorem dX0_init_20 : decode cX0_init 20 = .ok (.return_, 1) := by decide +kernel
theorem dX0_settle_0 : decode cX0_settle 0 = .ok (.aload_n 0, 1) := by decide +kernel
theorem dX0_settle_1 : decode cX0_settle 1 = .ok (.aload_n 1, 1) := by decide +kernel
theorem dX0_settle_2 : decode cX0_settle 2 = .ok (.getfield 18, 3) := by decide +kernel
theorem dX0_settle_5 : decode cX0_settle 5 = .ok (.putfield 24, 3) := by decide +kernel
theorem dX0_settle_8 : decode cX0_settle 8 = .ok (.aload_n 0, 1) := by decide +kernel
theorem dX0_settle_9 : decode cX0_settle 9 = .ok (.aload_n 1, 1) := by decide +kernel
theorem dX0_settle_10 : decode cX0_settle 10 = .ok (.getfield 27, 3) := by decide +kernel
theorem dX0_settle_13 : decode cX0_settle 13 = .ok (.putfield 30, 3) := by decide +kernel
theorem dX0_settle_16 : decode cX0_settle 16 = .ok (.aload_n 0, 1) := by decide +kernel
theorem dX0_settle_17 : decode cX0_settle 17 = .ok (.aload_n 1, 1) := by decide +kernel
theorem dX0_settle_18 : decode cX0_settle 18 = .ok (.invokevirtual 33, 3) := by decide +kernel
theorem dX0_settle_21 : decode cX0_settle 21 = .ok (.putfield 37, 3) := by decide +kernel
theorem dX0_settle_24 : decode cX0_settle 24 = .ok (.aload_n 0, 1) := by decide +kernel
theorem dX0_settle_25 : decode cX0_settle 25 = .ok (.aload_n 1, 1) := by decide +kernel
theorem dX0_settle_26 : decode cX0_settle 26 = .ok (.invokevirtual 40, 3) := by decide +kernel
theorem dX0_settle_29 : decode cX0_settle 29 = .ok (.putfield 43, 3) := by decide +kernel
theorem dX0_settle_32 : decode cX0_settle 32 = .ok (.iconst 0, 1) := by decide +kernel
theorem dX0_settle_33 : decode cX0_settle 33 = .ok (.istore_n 2, 1) := by decide +kernel
theorem dX0_settle_34 : decode cX0_settle 34 = .ok (.iload_n 2, 1) := by decide +kernel
theorem dX0_settle_35 : decode cX0_settle 35 = .ok (.aload_n 0, 1) := by decide +kernel
theorem dX0_settle_36 : decode cX0_settle 36 = .ok (.getfield 24, 3) := by decide +kernel
theorem dX0_settle_39 : decode cX0_settle 39 = .ok (.if_icmp .ge 20, 3) := by decide +kernel
theorem dX0_settle_42 : decode cX0_settle 42 = .ok (.aload_n 0, 1) := by decide +kernel
theorem dX0_settle_43 : decode cX0_settle 43 = .ok (.getfield 9, 3) := by decide +kernel
theorem dX0_settle_46 : decode cX0_settle 46 = .ok (.iload_n 2, 1) := by decide +kernel
theorem dX0_settle_47 : decode cX0_settle 47 = .ok (.aload_n 1, 1) := by decide +kernel
theorem dX0_settle_48 : decode cX0_settle 48 = .ok (.iload_n 2, 1) := by decide +kernel
theorem dX0_settle_49 : decode cX0_settle 49 = .ok (.invokevirtual 46, 3) := by decide +kernel
theorem dX0_settle_52 : decode cX0_settle 52 = .ok (.iastore, 1) := by decide +kernel
theorem dX0_settle_53 : decode cX0_settle 53 = .ok (.iinc 2 1, 3) := by decide +kernel
theorem dX0_settle_56 : decode cX0_settle 56 = .ok (.goto (-22), 3) := by decide +kernel
theorem dX0_settle_59 : decode cX0_settle 59 = .ok (.iconst 0, 1) := by decide +kernel
theorem dX0_settle_60 : decode cX0_settle 60 = .ok (.istore_n 2, 1) := by decide +kernel
theorem dX0_settle_61 : decode cX0_settle 61 = .ok (.iload_n 2, 1) := by decide +kernel
theorem dX0_settle_62 : decode cX0_settle 62 = .ok (.aload_n 0, 1) := by decide +kernel
theorem dX0_settle_63 : decode cX0_settle 63 = .ok (.getfield 30, 3) := by decide +kernel
theorem dX0_settle_66 : decode cX0_settle 66 = .ok (.if_icmp .ge 20, 3) := by decide +kernel
theorem dX0_settle_69 : decode cX0_settle 69 = .ok (.aload_n 0, 1) := by decide +kernel
theorem dX0_settle_70 : decode cX0_settle 70 = .ok (.getfield 15, 3) := by decide +kernel
theorem dX0_settle_73 : decode cX0_settle 73 = .ok (.iload_n 2, 1) := by decide +kernel
theorem dX0_settle_74 : decode cX0_settle 74 = .ok (.aload_n 1, 1) := by decide +kernel
theorem dX0_settle_75 : decode cX0_settle 75 = .ok (.iload_n 2, 1) := by decide +kernel
theorem dX0_settle_76 : decode cX0_settle 76 = .ok (.invokevirtual 50, 3) := by decide +kernel
theorem dX0_settle_79 : decode cX0_settle 79 = .ok (.iastore, 1) := by decide +kernel
theorem dX0_settle_80 : decode cX0_settle 80 = .ok (.iinc 2 1, 3) := by decide +kernel
theorem dX0_settle_83 : decode cX0_settle 83 = .ok (.goto (-22), 3) := by decide +kernel
theorem dX0_settle_86 : decode cX0_settle 86 = .ok (.return_, 1) := by decide +kernel
theorem dX0_isTold_0 : decode cX0_isTold 0 = .ok (.aload_n 0, 1) := by decide +kernel
theorem dX0_isTold_1 : decode cX0_isTold 1 = .ok (.getfield 30, 3) := by decide +kernel
theorem dX0_isTold_4 : decode cX0_isTold 4 = .ok (.ifCond .le 7, 3) := by decide +kernel
theorem dX0_isTold_7 : decode cX0_isTold 7 = .ok (.iconst 1, 1) := by decide +kernel
theorem dX0_isTold_8 : decode cX0_isTold 8 = .ok (.goto 4, 3) := by decide +kernel
theorem dX0_isTold_11 : decode cX0_isTold 11 = .ok (.iconst 0, 1) := by decide +kernel
theorem dX0_isTold_12 : decode cX0_isTold 12 = .ok (.ireturn, 1) := by decide +kernel
theorem dX0_hasDrink_0 : decode cX0_hasDrink 0 = .ok (.iload_n 1, 1) := by decide +kernel
theorem dX0_hasDrink_1 : decode cX0_hasDrink 1 = .ok (.ifCond .lt 15, 3) := by decide +kernel
theorem dX0_hasDrink_4 : decode cX0_hasDrink 4 = .ok (.iload_n 1, 1) := by decide +kernel
theorem dX0_hasDrink_5 : decode cX0_hasDrink 5 = .ok (.aload_n 0, 1) := by decide +kernel
theorem dX0_hasDrink_6 : decode cX0_hasDrink 6 = .ok (.getfield 24, 3) := by decide +kernel
theorem dX0_hasDrink_9 : decode cX0_hasDrink 9 = .ok (.if_icmp .ge 7, 3) := by decide +kernel
theorem dX0_hasDrink_12 : decode cX0_hasDrink 12 = .ok (.iconst 1, 1) := by decide +kernel
theorem dX0_hasDrink_13 : decode cX0_hasDrink 13 = .ok (.goto 4, 3) := by decide +kernel
theorem dX0_hasDrink_16 : decode cX0_hasDrink 16 = .ok (.iconst 0, 1) := by decide +kernel
theorem dX0_hasDrink_17 : decode cX0_hasDrink 17 = .ok (.ireturn, 1) := by decide +kernel
theorem dX0_hasGuest_0 : decode cX0_hasGuest 0 = .ok (.iload_n 1, 1) := by decide +kernel
theorem dX0_hasGuest_1 : decode cX0_hasGuest 1 = .ok (.ifCond .lt 15, 3) := by decide +kernel
theorem dX0_hasGuest_4 : decode cX0_hasGuest 4 = .ok (.iload_n 1, 1) := by decide +kernel
theorem dX0_hasGuest_5 : decode cX0_hasGuest 5 = .ok (.aload_n 0, 1) := by decide +kernel
theorem dX0_hasGuest_6 : decode cX0_hasGuest 6 = .ok (.getfield 30, 3) := by decide +kernel
theorem dX0_hasGuest_9 : decode cX0_hasGuest 9 = .ok (.if_icmp .ge 7, 3) := by decide +kernel
theorem dX0_hasGuest_12 : decode cX0_hasGuest 12 = .ok (.iconst 1, 1) := by decide +kernel
theorem dX0_hasGuest_13 : decode cX0_hasGuest 13 = .ok (.goto 4, 3) := by decide +kernel
theorem dX0_hasGuest_16 : decode cX0_hasGuest 16 = .ok (.iconst 0, 1) := by decide +kernel
theorem dX0_hasGuest_17 : decode cX0_hasGuest 17 = .ok (.ireturn, 1) := by decide +kernel
theorem dX0_joyBy_0 : decode cX0_joyBy 0 = .ok (.iload_n 1, 1) := by decide +kernel
theorem dX0_joyBy_1 : decode cX0_joyBy 1 = .ok (.iload_n 2, 1) := by decide +kernel
theorem dX0_joyBy_2 : decode cX0_joyBy 2 = .ok (.if_icmp .ne 17, 3) := by decide +kernel
theorem dX0_joyBy_5 : decode cX0_joyBy 5 = .ok (.aload_n 0, 1) := by decide +kernel
theorem dX0_joyBy_6 : decode cX0_joyBy 6 = .ok (.getfield 9, 3) := by decide +kernel
theorem dX0_joyBy_9 : decode cX0_joyBy 9 = .ok (.iload_n 2, 1) := by decide +kernel
theorem dX0_joyBy_10 : decode cX0_joyBy 10 = .ok (.iaload, 1) := by decide +kernel
theorem dX0_joyBy_11 : decode cX0_joyBy 11 = .ok (.aload_n 0, 1) := by decide +kernel
theorem dX0_joyBy_12 : decode cX0_joyBy 12 = .ok (.getfield 43, 3) := by decide +kernel
theorem dX0_joyBy_15 : decode cX0_joyBy 15 = .ok (.iadd, 1) := by decide +kernel
theorem dX0_joyBy_16 : decode cX0_joyBy 16 = .ok (.goto 9, 3) := by decide +kernel
theorem dX0_joyBy_19 : decode cX0_joyBy 19 = .ok (.aload_n 0, 1) := by decide +kernel
theorem dX0_joyBy_20 : decode cX0_joyBy 20 = .ok (.getfield 9, 3) := by decide +kernel
theorem dX0_joyBy_23 : decode cX0_joyBy 23 = .ok (.iload_n 2, 1) := by decide +kernel
theorem dX0_joyBy_24 : decode cX0_joyBy 24 = .ok (.iaload, 1) := by decide +kernel
theorem dX0_joyBy_25 : decode cX0_joyBy 25 = .ok (.ireturn, 1) := by decide +kernel
theorem dX0_mostLiked_0 : decode cX0_mostLiked 0 = .ok (.iconst (-1), 1) := by decide +kernel
theorem dX0_mostLiked_1 : decode cX0_mostLiked 1 = .ok (.istore_n 1, 1) := by decide +kernel
theorem dX0_mostLiked_2 : decode cX0_mostLiked 2 = .ok (.iconst (-1), 1) := by decide +kernel
theorem dX0_mostLiked_3 : decode cX0_mostLiked 3 = .ok (.istore_n 2, 1) := by decide +kernel
theorem dX0_mostLiked_4 : decode cX0_mostLiked 4 = .ok (.iconst 0, 1) := by decide +kernel
theorem dX0_mostLiked_5 : decode cX0_mostLiked 5 = .ok (.istore_n 3, 1) := by decide +kernel
theorem dX0_mostLiked_6 : decode cX0_mostLiked 6 = .ok (.iload_n 3, 1) := by decide +kernel
theorem dX0_mostLiked_7 : decode cX0_mostLiked 7 = .ok (.aload_n 0, 1) := by decide +kernel
theorem dX0_mostLiked_8 : decode cX0_mostLiked 8 = .ok (.getfield 24, 3) := by decide +kernel
theorem dX0_mostLiked_11 : decode cX0_mostLiked 11 = .ok (.if_icmp .ge 55, 3) := by decide +kernel
theorem dX0_mostLiked_14 : decode cX0_mostLiked 14 = .ok (.iconst 0, 1) := by decide +kernel
theorem dX0_mostLiked_15 : decode cX0_mostLiked 15 = .ok (.istore 4, 2) := by decide +kernel
theorem dX0_mostLiked_17 : decode cX0_mostLiked 17 = .ok (.iconst 0, 1) := by decide +kernel
theorem dX0_mostLiked_18 : decode cX0_mostLiked 18 = .ok (.istore 5, 2) := by decide +kernel
theorem dX0_mostLiked_20 : decode cX0_mostLiked 20 = .ok (.iload 5, 2) := by decide +kernel
theorem dX0_mostLiked_22 : decode cX0_mostLiked 22 = .ok (.aload_n 0, 1) := by decide +kernel
theorem dX0_mostLiked_23 : decode cX0_mostLiked 23 = .ok (.getfield 30, 3) := by decide +kernel
theorem dX0_mostLiked_26 : decode cX0_mostLiked 26 = .ok (.if_icmp .ge 23, 3) := by decide +kernel
theorem dX0_mostLiked_29 : decode cX0_mostLiked 29 = .ok (.aload_n 0, 1) := by decide +kernel
theorem dX0_mostLiked_30 : decode cX0_mostLiked 30 = .ok (.getfield 15, 3) := by decide +kernel
theorem dX0_mostLiked_33 : decode cX0_mostLiked 33 = .ok (.iload 5, 2) := by decide +kernel
theorem dX0_mostLiked_35 : decode cX0_mostLiked 35 = .ok (.iaload, 1) := by decide +kernel
theorem dX0_mostLiked_36 : decode cX0_mostLiked 36 = .ok (.iload_n 3, 1) := by decide +kernel
theorem dX0_mostLiked_37 : decode cX0_mostLiked 37 = .ok (.if_icmp .ne 6, 3) := by decide +kernel
theorem dX0_mostLiked_40 : decode cX0_mostLiked 40 = .ok (.iinc 4 1, 3) := by decide +kernel
theorem dX0_mostLiked_43 : decode cX0_mostLiked 43 = .ok (.iinc 5 1, 3) := by decide +kernel
theorem dX0_mostLiked_46 : decode cX0_mostLiked 46 = .ok (.goto (-26), 3) := by decide +kernel
theorem dX0_mostLiked_49 : decode cX0_mostLiked 49 = .ok (.iload 4, 2) := by decide +kernel
theorem dX0_mostLiked_51 : decode cX0_mostLiked 51 = .ok (.iload_n 1, 1) := by decide +kernel
theorem dX0_mostLiked_52 : decode cX0_mostLiked 52 = .ok (.if_icmp .le 8, 3) := by decide +kernel
theorem dX0_mostLiked_55 : decode cX0_mostLiked 55 = .ok (.iload 4, 2) := by decide +kernel
theorem dX0_mostLiked_57 : decode cX0_mostLiked 57 = .ok (.istore_n 1, 1) := by decide +kernel
theorem dX0_mostLiked_58 : decode cX0_mostLiked 58 = .ok (.iload_n 3, 1) := by decide +kernel
theorem dX0_mostLiked_59 : decode cX0_mostLiked 59 = .ok (.istore_n 2, 1) := by decide +kernel
theorem dX0_mostLiked_60 : decode cX0_mostLiked 60 = .ok (.iinc 3 1, 3) := by decide +kernel
theorem dX0_mostLiked_63 : decode cX0_mostLiked 63 = .ok (.goto (-57), 3) := by decide +kernel
theorem dX0_mostLiked_66 : decode cX0_mostLiked 66 = .ok (.iload_n 2, 1) := by decide +kernel
theorem dX0_mostLiked_67 : decode cX0_mostLiked 67 = .ok (.ireturn, 1) := by decide +kernel
theorem dX1_init_0 : decode cX1_init 0 = .ok (.aload_n 0, 1) := by decide +kernel
theorem dX1_init_1 : decode cX1_init 1 = .ok (.invokespecial 3, 3) := by decide +kernel
theorem dX1_init_4 : decode cX1_init 4 = .ok (.aload_n 0, 1) := by decide +kernel
theorem dX1_init_5 : decode cX1_init 5 = .ok (.bipush 33, 2) := by decide +kernel
theorem dX1_init_7 : decode cX1_init 7 = .ok (.newarray .int, 2) := by decide +kernel
theorem dX1_init_9 : decode cX1_init 9 = .ok (.putfield 11, 3) := by decide +kernel
theorem dX1_init_12 : decode cX1_init 12 = .ok (.aload_n 0, 1) := by decide +kernel
theorem dX1_init_13 : decode cX1_init 13 = .ok (.ldc 15, 2) := by decide +kernel
theorem dX1_init_15 : decode cX1_init 15 = .ok (.putfield 17, 3) := by decide +kernel
theorem dX1_init_18 : decode cX1_init 18 = .ok (.return_, 1) := by decide +kernel
theorem dX1_start_0 : decode cX1_start 0 = .ok (.aload_n 0, 1) := by decide +kernel
theorem dX1_start_1 : decode cX1_start 1 = .ok (.iconst 0, 1) := by decide +kernel
theorem dX1_start_2 : decode cX1_start 2 = .ok (.putfield 21, 3) := by decide +kernel
theorem dX1_start_5 : decode cX1_start 5 = .ok (.aload_n 0, 1) := by decide +kernel
theorem dX1_start_6 : decode cX1_start 6 = .ok (.iconst 0, 1) := by decide +kernel
theorem dX1_start_7 : decode cX1_start 7 = .ok (.putfield 25, 3) := by decide +kernel
theorem dX1_start_10 : decode cX1_start 10 = .ok (.aload_n 0, 1) := by decide +kernel
theorem dX1_start_11 : decode cX1_start 11 = .ok (.iconst 0, 1) := by decide +kernel
theorem dX1_start_12 : decode cX1_start 12 = .ok (.putfield 28, 3) := by decide +kernel
theorem dX1_start_15 : decode cX1_start 15 = .ok (.aload_n 0, 1) := by decide +kernel
theorem dX1_start_16 : decode cX1_start 16 = .ok (.ldc 31, 2) := by decide +kernel
theorem dX1_start_18 : decode cX1_start 18 = .ok (.iconst 0, 1) := by decide +kernel
theorem dX1_start_19 : decode cX1_start 19 = .ok (.iconst 0, 1) := by decide +kernel
theorem dX1_start_20 : decode cX1_start 20 = .ok (.invokevirtual 33, 3) := by decide +kernel
theorem dX1_start_23 : decode cX1_start 23 = .ok (.aload_n 0, 1) := by decide +kernel
theorem dX1_start_24 : decode cX1_start 24 = .ok (.iconst 0, 1) := by decide +kernel
theorem dX1_start_25 : decode cX1_start 25 = .ok (.putfield 37, 3) := by decide +kernel
theorem dX1_start_28 : decode cX1_start 28 = .ok (.return_, 1) := by decide +kernel
theorem dX1_takes_0 : decode cX1_takes 0 = .ok (.aload_n 0, 1) := by decide +kernel
theorem dX1_takes_1 : decode cX1_takes 1 = .ok (.getfield 37, 3) := by decide +kernel
theorem dX1_takes_4 : decode cX1_takes 4 = .ok (.ifCond .ne 9, 3) := by decide +kernel
theorem dX1_takes_7 : decode cX1_takes 7 = .ok (.aload_n 0, 1) := by decide +kernel
theorem dX1_takes_8 : decode cX1_takes 8 = .ok (.iload_n 1, 1) := by decide +kernel
theorem dX1_takes_9 : decode cX1_takes 9 = .ok (.invokevirtual 40, 3) := by decide +kernel
theorem dX1_takes_12 : decode cX1_takes 12 = .ok (.ireturn, 1) := by decide +kernel
theorem dX1_takes_13 : decode cX1_takes 13 = .ok (.iload_n 1, 1) := by decide +kernel
theorem dX1_takes_14 : decode cX1_takes 14 = .ok (.invokestatic 44, 3) := by decide +kernel
theorem dX1_takes_17 : decode cX1_takes 17 = .ok (.ifCond .eq 50, 3) := by decide +kernel
theorem dX1_takes_20 : decode cX1_takes 20 = .ok (.aload_n 0, 1) := by decide +kernel
theorem dX1_takes_21 : decode cX1_takes 21 = .ok (.getfield 37, 3) := by decide +kernel
theorem dX1_takes_24 : decode cX1_takes 24 = .ok (.iconst 2, 1) := by decide +kernel
theorem dX1_takes_25 : decode cX1_takes 25 = .ok (.if_icmp .eq 15, 3) := by decide +kernel
theorem dX1_takes_28 : decode cX1_takes 28 = .ok (.iload_n 3, 1) := by decide +kernel
theorem dX1_takes_29 : decode cX1_takes 29 = .ok (.ifCond .eq 15, 3) := by decide +kernel
theorem dX1_takes_32 : decode cX1_takes 32 = .ok (.aload_n 0, 1) := by decide +kernel
theorem dX1_takes_33 : decode cX1_takes 33 = .ok (.getfield 47, 3) := by decide +kernel
theorem dX1_takes_36 : decode cX1_takes 36 = .ok (.iconst 1, 1) := by decide +kernel
theorem dX1_takes_37 : decode cX1_takes 37 = .ok (.if_icmp .ne 7, 3) := by decide +kernel
theorem dX1_takes_40 : decode cX1_takes 40 = .ok (.iconst 1, 1) := by decide +kernel
theorem dX1_takes_41 : decode cX1_takes 41 = .ok (.goto 4, 3) := by decide +kernel
theorem dX1_takes_44 : decode cX1_takes 44 = .ok (.iconst 0, 1) := by decide +kernel
theorem dX1_takes_45 : decode cX1_takes 45 = .ok (.istore 4, 2) := by decide +kernel
theorem dX1_takes_47 : decode cX1_takes 47 = .ok (.iload 4, 2) := by decide +kernel
theorem dX1_takes_49 : decode cX1_takes 49 = .ok (.ifCond .eq 16, 3) := by decide +kernel
theorem dX1_takes_52 : decode cX1_takes 52 = .ok (.aload_n 0, 1) := by decide +kernel
theorem dX1_takes_53 : decode cX1_takes 53 = .ok (.iload_n 1, 1) := by decide +kernel
theorem dX1_takes_54 : decode cX1_takes 54 = .ok (.iload_n 2, 1) := by decide +kernel
theorem dX1_takes_55 : decode cX1_takes 55 = .ok (.invokevirtual 50, 3) := by decide +kernel
theorem dX1_takes_58 : decode cX1_takes 58 = .ok (.ifCond .eq 7, 3) := by decide +kernel
theorem dX1_takes_61 : decode cX1_takes 61 = .ok (.iconst 1, 1) := by decide +kernel
theorem dX1_takes_62 : decode cX1_takes 62 = .ok (.goto 4, 3) := by decide +kernel
theorem dX1_takes_65 : decode cX1_takes 65 = .ok (.iconst 0, 1) := by decide +kernel
theorem dX1_takes_66 : decode cX1_takes 66 = .ok (.ireturn, 1) := by decide +kernel
theorem dX1_takes_67 : decode cX1_takes 67 = .ok (.aload_n 0, 1) := by decide +kernel
theorem dX1_takes_68 : decode cX1_takes 68 = .ok (.getfield 37, 3) := by decide +kernel
theorem dX1_takes_71 : decode cX1_takes 71 = .ok (.iconst 2, 1) := by decide +kernel
theorem dX1_takes_72 : decode cX1_takes 72 = .ok (.if_icmp .ne 5, 3) := by decide +kernel
theorem dX1_takes_75 : decode cX1_takes 75 = .ok (.iconst 0, 1) := by decide +kernel
theorem dX1_takes_76 : decode cX1_takes 76 = .ok (.ireturn, 1) := by decide +kernel
theorem dX1_takes_77 : decode cX1_takes 77 = .ok (.iload_n 1, 1) := by decide +kernel
theorem dX1_takes_78 : decode cX1_takes 78 = .ok (.bipush 59, 2) := by decide +kernel
theorem dX1_takes_80 : decode cX1_takes 80 = .ok (.if_icmp .ne 10, 3) := by decide +kernel
theorem dX1_takes_83 : decode cX1_takes 83 = .ok (.aload_n 0, 1) := by decide +kernel
theorem dX1_takes_84 : decode cX1_takes 84 = .ok (.iconst 0, 1) := by decide +kernel
theorem dX1_takes_85 : decode cX1_takes 85 = .ok (.putfield 37, 3) := by decide +kernel
theorem dX1_takes_88 : decode cX1_takes 88 = .ok (.iconst 1, 1) := by decide +kernel
theorem dX1_takes_89 : decode cX1_takes 89 = .ok (.ireturn, 1) := by decide +kernel
theorem dX1_takes_90 : decode cX1_takes 90 = .ok (.aload_n 0, 1) := by decide +kernel
theorem dX1_takes_91 : decode cX1_takes 91 = .ok (.iload_n 1, 1) := by decide +kernel
theorem dX1_takes_92 : decode cX1_takes 92 = .ok (.invokevirtual 54, 3) := by decide +kernel
theorem dX1_takes_95 : decode cX1_takes 95 = .ok (.ireturn, 1) := by decide +kernel
theorem dX1_takesClause_0 : decode cX1_takesClause 0 = .ok (.iload_n 1, 1) := by decide +kernel
theorem dX1_takesClause_1 : decode cX1_takesClause 1 = .ok (.bipush 115, 2) := by decide +kernel
theorem dX1_takesClause_3 : decode cX1_takesClause 3 = .ok (.if_icmp .ne 31, 3) := by decide +kernel
theorem dX1_takesClause_6 : decode cX1_takesClause 6 = .ok (.aload_n 0, 1) := by decide +kernel
theorem dX1_takesClause_7 : decode cX1_takesClause 7 = .ok (.getfield 21, 3) := by decide +kernel
theorem dX1_takesClause_10 : decode cX1_takesClause 10 = .ok (.iconst 1, 1) := by decide +kernel
theorem dX1_takesClause_11 : decode cX1_takesClause 11 = .ok (.if_icmp .ge 23, 3) := by decide +kernel
theorem dX1_takesClause_14 : decode cX1_takesClause 14 = .ok (.aload_n 0, 1) := by decide +kernel
theorem dX1_takesClause_15 : decode cX1_takesClause 15 = .ok (.ldc 31, 2) := by decide +kernel
theorem dX1_takesClause_17 : decode cX1_takesClause 17 = .ok (.iconst 0, 1) := by decide +kernel
theorem dX1_takesClause_18 : decode cX1_takesClause 18 = .ok (.iconst 0, 1) := by decide +kernel
theorem dX1_takesClause_19 : decode cX1_takesClause 19 = .ok (.invokevirtual 33, 3) := by decide +kernel
theorem dX1_takesClause_22 : decode cX1_takesClause 22 = .ok (.aload_n 0, 1) := by decide +kernel
theorem dX1_takesClause_23 : decode cX1_takesClause 23 = .ok (.dup, 1) := by decide +kernel
theorem dX1_takesClause_24 : decode cX1_takesClause 24 = .ok (.getfield 21, 3) := by decide +kernel
theorem dX1_takesClause_27 : decode cX1_takesClause 27 = .ok (.iconst 1, 1) := by decide +kernel
theorem dX1_takesClause_28 : decode cX1_takesClause 28 = .ok (.iadd, 1) := by decide +kernel
theorem dX1_takesClause_29 : decode cX1_takesClause 29 = .ok (.putfield 21, 3) := by decide +kernel
theorem dX1_takesClause_32 : decode cX1_takesClause 32 = .ok (.iconst 1, 1) := by decide +kernel
theorem dX1_takesClause_33 : decode cX1_takesClause 33 = .ok (.ireturn, 1) := by decide +kernel
theorem dX1_takesClause_34 : decode cX1_takesClause 34 = .ok (.iload_n 1, 1) := by decide +kernel
theorem dX1_takesClause_35 : decode cX1_takesClause 35 = .ok (.bipush 100, 2) := by decide +kernel
theorem dX1_takesClause_37 : decode cX1_takesClause 37 = .ok (.if_icmp .ne 39, 3) := by decide +kernel
theorem dX1_takesClause_40 : decode cX1_takesClause 40 = .ok (.aload_n 0, 1) := by decide +kernel
theorem dX1_takesClause_41 : decode cX1_takesClause 41 = .ok (.getfield 25, 3) := by decide +kernel
theorem dX1_takesClause_44 : decode cX1_takesClause 44 = .ok (.bipush 6, 2) := by decide +kernel
theorem dX1_takesClause_46 : decode cX1_takesClause 46 = .ok (.if_icmp .ge 30, 3) := by decide +kernel
theorem dX1_takesClause_49 : decode cX1_takesClause 49 = .ok (.aload_n 0, 1) := by decide +kernel
theorem dX1_takesClause_50 : decode cX1_takesClause 50 = .ok (.ldc 57, 2) := by decide +kernel
theorem dX1_takesClause_52 : decode cX1_takesClause 52 = .ok (.iconst 3, 1) := by decide +kernel
theorem dX1_takesClause_53 : decode cX1_takesClause 53 = .ok (.iconst 3, 1) := by decide +kernel
theorem dX1_takesClause_54 : decode cX1_takesClause 54 = .ok (.iconst 2, 1) := by decide +kernel
theorem dX1_takesClause_55 : decode cX1_takesClause 55 = .ok (.aload_n 0, 1) := by decide +kernel
theorem dX1_takesClause_56 : decode cX1_takesClause 56 = .ok (.getfield 25, 3) := by decide +kernel
theorem dX1_takesClause_59 : decode cX1_takesClause 59 = .ok (.imul, 1) := by decide +kernel
theorem dX1_takesClause_60 : decode cX1_takesClause 60 = .ok (.iadd, 1) := by decide +kernel
theorem dX1_takesClause_61 : decode cX1_takesClause 61 = .ok (.invokevirtual 33, 3) := by decide +kernel
theorem dX1_takesClause_64 : decode cX1_takesClause 64 = .ok (.aload_n 0, 1) := by decide +kernel
theorem dX1_takesClause_65 : decode cX1_takesClause 65 = .ok (.dup, 1) := by decide +kernel
theorem dX1_takesClause_66 : decode cX1_takesClause 66 = .ok (.getfield 25, 3) := by decide +kernel
theorem dX1_takesClause_69 : decode cX1_takesClause 69 = .ok (.iconst 1, 1) := by decide +kernel
theorem dX1_takesClause_70 : decode cX1_takesClause 70 = .ok (.iadd, 1) := by decide +kernel
theorem dX1_takesClause_71 : decode cX1_takesClause 71 = .ok (.putfield 25, 3) := by decide +kernel
theorem dX1_takesClause_74 : decode cX1_takesClause 74 = .ok (.iconst 1, 1) := by decide +kernel
theorem dX1_takesClause_75 : decode cX1_takesClause 75 = .ok (.ireturn, 1) := by decide +kernel
theorem dX1_takesClause_76 : decode cX1_takesClause 76 = .ok (.iload_n 1, 1) := by decide +kernel
theorem dX1_takesClause_77 : decode cX1_takesClause 77 = .ok (.bipush 103, 2) := by decide +kernel
theorem dX1_takesClause_79 : decode cX1_takesClause 79 = .ok (.if_icmp .ne 40, 3) := by decide +kernel
theorem dX1_takesClause_82 : decode cX1_takesClause 82 = .ok (.aload_n 0, 1) := by decide +kernel
theorem dX1_takesClause_83 : decode cX1_takesClause 83 = .ok (.getfield 28, 3) := by decide +kernel
theorem dX1_takesClause_86 : decode cX1_takesClause 86 = .ok (.bipush 6, 2) := by decide +kernel
theorem dX1_takesClause_88 : decode cX1_takesClause 88 = .ok (.if_icmp .ge 31, 3) := by decide +kernel
theorem dX1_takesClause_91 : decode cX1_takesClause 91 = .ok (.aload_n 0, 1) := by decide +kernel
theorem dX1_takesClause_92 : decode cX1_takesClause 92 = .ok (.ldc 59, 2) := by decide +kernel
theorem dX1_takesClause_94 : decode cX1_takesClause 94 = .ok (.iconst 5, 1) := by decide +kernel
theorem dX1_takesClause_95 : decode cX1_takesClause 95 = .ok (.bipush 15, 2) := by decide +kernel
theorem dX1_takesClause_97 : decode cX1_takesClause 97 = .ok (.iconst 3, 1) := by decide +kernel
theorem dX1_takesClause_98 : decode cX1_takesClause 98 = .ok (.aload_n 0, 1) := by decide +kernel
theorem dX1_takesClause_99 : decode cX1_takesClause 99 = .ok (.getfield 28, 3) := by decide +kernel
theorem dX1_takesClause_102 : decode cX1_takesClause 102 = .ok (.imul, 1) := by decide +kernel
theorem dX1_takesClause_103 : decode cX1_takesClause 103 = .ok (.iadd, 1) := by decide +kernel
theorem dX1_takesClause_104 : decode cX1_takesClause 104 = .ok (.invokevirtual 33, 3) := by decide +kernel
theorem dX1_takesClause_107 : decode cX1_takesClause 107 = .ok (.aload_n 0, 1) := by decide +kernel
theorem dX1_takesClause_108 : decode cX1_takesClause 108 = .ok (.dup, 1) := by decide +kernel
theorem dX1_takesClause_109 : decode cX1_takesClause 109 = .ok (.getfield 28, 3) := by decide +kernel
theorem dX1_takesClause_112 : decode cX1_takesClause 112 = .ok (.iconst 1, 1) := by decide +kernel
theorem dX1_takesClause_113 : decode cX1_takesClause 113 = .ok (.iadd, 1) := by decide +kernel
theorem dX1_takesClause_114 : decode cX1_takesClause 114 = .ok (.putfield 28, 3) := by decide +kernel
theorem dX1_takesClause_117 : decode cX1_takesClause 117 = .ok (.iconst 1, 1) := by decide +kernel
theorem dX1_takesClause_118 : decode cX1_takesClause 118 = .ok (.ireturn, 1) := by decide +kernel
theorem dX1_takesClause_119 : decode cX1_takesClause 119 = .ok (.iconst 0, 1) := by decide +kernel
theorem dX1_takesClause_120 : decode cX1_takesClause 120 = .ok (.ireturn, 1) := by decide +kernel
theorem dX1_begin_0 : decode cX1_begin 0 = .ok (.aload_n 0, 1) := by decide +kernel
theorem dX1_begin_1 : decode cX1_begin 1 = .ok (.aload_n 1, 1) := by decide +kernel
theorem dX1_begin_2 : decode cX1_begin 2 = .ok (.putfield 17, 3) := by decide +kernel
theorem dX1_begin_5 : decode cX1_begin 5 = .ok (.aload_n 0, 1) := by decide +kernel
theorem dX1_begin_6 : decode cX1_begin 6 = .ok (.iload_n 2, 1) := by decide +kernel
theorem dX1_begin_7 : decode cX1_begin 7 = .ok (.putfield 61, 3) := by decide +kernel
theorem dX1_begin_10 : decode cX1_begin 10 = .ok (.aload_n 0, 1) := by decide +kernel
theorem dX1_begin_11 : decode cX1_begin 11 = .ok (.iload_n 3, 1) := by decide +kernel
theorem dX1_begin_12 : decode cX1_begin 12 = .ok (.putfield 64, 3) := by decide +kernel
theorem dX1_begin_15 : decode cX1_begin 15 = .ok (.aload_n 0, 1) := by decide +kernel
theorem dX1_begin_16 : decode cX1_begin 16 = .ok (.iconst 0, 1) := by decide +kernel
theorem dX1_begin_17 : decode cX1_begin 17 = .ok (.putfield 67, 3) := by decide +kernel
theorem dX1_begin_20 : decode cX1_begin 20 = .ok (.aload_n 0, 1) := by decide +kernel
theorem dX1_begin_21 : decode cX1_begin 21 = .ok (.iconst 0, 1) := by decide +kernel
theorem dX1_begin_22 : decode cX1_begin 22 = .ok (.putfield 47, 3) := by decide +kernel
theorem dX1_begin_25 : decode cX1_begin 25 = .ok (.aload_n 0, 1) := by decide +kernel
theorem dX1_begin_26 : decode cX1_begin 26 = .ok (.iconst 1, 1) := by decide +kernel
theorem dX1_begin_27 : decode cX1_begin 27 = .ok (.putfield 37, 3) := by decide +kernel
theorem dX1_begin_30 : decode cX1_begin 30 = .ok (.iconst 0, 1) := by decide +kernel
theorem dX1_begin_31 : decode cX1_begin 31 = .ok (.istore 4, 2) := by decide +kernel
theorem dX1_begin_33 : decode cX1_begin 33 = .ok (.iload 4, 2) := by decide +kernel
theorem dX1_begin_35 : decode cX1_begin 35 = .ok (.aload_n 1, 1) := by decide +kernel
theorem dX1_begin_36 : decode cX1_begin 36 = .ok (.invokevirtual 70, 3) := by decide +kernel
theorem dX1_begin_39 : decode cX1_begin 39 = .ok (.if_icmp .ge 26, 3) := by decide +kernel
theorem dX1_begin_42 : decode cX1_begin 42 = .ok (.aload_n 0, 1) := by decide +kernel
theorem dX1_begin_43 : decode cX1_begin 43 = .ok (.getfield 11, 3) := by decide +kernel
theorem dX1_begin_46 : decode cX1_begin 46 = .ok (.iload_n 3, 1) := by decide +kernel
theorem dX1_begin_47 : decode cX1_begin 47 = .ok (.iload 4, 2) := by decide +kernel
theorem dX1_begin_49 : decode cX1_begin 49 = .ok (.iadd, 1) := by decide +kernel
theorem dX1_begin_50 : decode cX1_begin 50 = .ok (.getstatic 76, 3) := by decide +kernel
theorem dX1_begin_53 : decode cX1_begin 53 = .ok (.iload_n 2, 1) := by decide +kernel
theorem dX1_begin_54 : decode cX1_begin 54 = .ok (.iload 4, 2) := by decide +kernel
theorem dX1_begin_56 : decode cX1_begin 56 = .ok (.iadd, 1) := by decide +kernel
theorem dX1_begin_57 : decode cX1_begin 57 = .ok (.iaload, 1) := by decide +kernel
theorem dX1_begin_58 : decode cX1_begin 58 = .ok (.iastore, 1) := by decide +kernel
theorem dX1_begin_59 : decode cX1_begin 59 = .ok (.iinc 4 1, 3) := by decide +kernel
theorem dX1_begin_62 : decode cX1_begin 62 = .ok (.goto (-29), 3) := by decide +kernel
theorem dX1_begin_65 : decode cX1_begin 65 = .ok (.return_, 1) := by decide +kernel
theorem dX1_takesLetter_0 : decode cX1_takesLetter 0 = .ok (.aload_n 0, 1) := by decide +kernel
theorem dX1_takesLetter_1 : decode cX1_takesLetter 1 = .ok (.aload_n 0, 1) := by decide +kernel
theorem dX1_takesLetter_2 : decode cX1_takesLetter 2 = .ok (.getfield 17, 3) := by decide +kernel
theorem dX1_takesLetter_5 : decode cX1_takesLetter 5 = .ok (.iload_n 1, 1) := by decide +kernel
theorem dX1_takesLetter_6 : decode cX1_takesLetter 6 = .ok (.i2c, 1) := by decide +kernel
theorem dX1_takesLetter_7 : decode cX1_takesLetter 7 = .ok (.invokevirtual 79, 3) := by decide +kernel
theorem dX1_takesLetter_10 : decode cX1_takesLetter 10 = .ok (.putfield 83, 3) := by decide +kernel
theorem dX1_takesLetter_13 : decode cX1_takesLetter 13 = .ok (.aload_n 0, 1) := by decide +kernel
theorem dX1_takesLetter_14 : decode cX1_takesLetter 14 = .ok (.getfield 83, 3) := by decide +kernel
theorem dX1_takesLetter_17 : decode cX1_takesLetter 17 = .ok (.ifCond .lt 18, 3) := by decide +kernel
theorem dX1_takesLetter_20 : decode cX1_takesLetter 20 = .ok (.aload_n 0, 1) := by decide +kernel
theorem dX1_takesLetter_21 : decode cX1_takesLetter 21 = .ok (.getfield 67, 3) := by decide +kernel
theorem dX1_takesLetter_24 : decode cX1_takesLetter 24 = .ok (.aload_n 0, 1) := by decide +kernel
theorem dX1_takesLetter_25 : decode cX1_takesLetter 25 = .ok (.getfield 83, 3) := by decide +kernel
theorem dX1_takesLetter_28 : decode cX1_takesLetter 28 = .ok (.ishr, 1) := by decide +kernel
theorem dX1_takesLetter_29 : decode cX1_takesLetter 29 = .ok (.iconst 1, 1) := by decide +kernel
theorem dX1_takesLetter_30 : decode cX1_takesLetter 30 = .ok (.iand, 1) := by decide +kernel
theorem dX1_takesLetter_31 : decode cX1_takesLetter 31 = .ok (.iconst 1, 1) := by decide +kernel
theorem dX1_takesLetter_32 : decode cX1_takesLetter 32 = .ok (.if_icmp .ne 5, 3) := by decide +kernel
theorem dX1_takesLetter_35 : decode cX1_takesLetter 35 = .ok (.iconst 0, 1) := by decide +kernel
theorem dX1_takesLetter_36 : decode cX1_takesLetter 36 = .ok (.ireturn, 1) := by decide +kernel
theorem dX1_takesLetter_37 : decode cX1_takesLetter 37 = .ok (.aload_n 0, 1) := by decide +kernel
theorem dX1_takesLetter_38 : decode cX1_takesLetter 38 = .ok (.dup, 1) := by decide +kernel
theorem dX1_takesLetter_39 : decode cX1_takesLetter 39 = .ok (.getfield 67, 3) := by decide +kernel
theorem dX1_takesLetter_42 : decode cX1_takesLetter 42 = .ok (.iconst 1, 1) := by decide +kernel
theorem dX1_takesLetter_43 : decode cX1_takesLetter 43 = .ok (.aload_n 0, 1) := by decide +kernel
theorem dX1_takesLetter_44 : decode cX1_takesLetter 44 = .ok (.getfield 83, 3) := by decide +kernel
theorem dX1_takesLetter_47 : decode cX1_takesLetter 47 = .ok (.ishl, 1) := by decide +kernel
theorem dX1_takesLetter_48 : decode cX1_takesLetter 48 = .ok (.ior, 1) := by decide +kernel
theorem dX1_takesLetter_49 : decode cX1_takesLetter 49 = .ok (.putfield 67, 3) := by decide +kernel
theorem dX1_takesLetter_52 : decode cX1_takesLetter 52 = .ok (.aload_n 0, 1) := by decide +kernel
theorem dX1_takesLetter_53 : decode cX1_takesLetter 53 = .ok (.iconst 0, 1) := by decide +kernel
theorem dX1_takesLetter_54 : decode cX1_takesLetter 54 = .ok (.putfield 47, 3) := by decide +kernel
theorem dX1_takesLetter_57 : decode cX1_takesLetter 57 = .ok (.aload_n 0, 1) := by decide +kernel
theorem dX1_takesLetter_58 : decode cX1_takesLetter 58 = .ok (.iconst 0, 1) := by decide +kernel
theorem dX1_takesLetter_59 : decode cX1_takesLetter 59 = .ok (.putfield 86, 3) := by decide +kernel
theorem dX1_takesLetter_62 : decode cX1_takesLetter 62 = .ok (.aload_n 0, 1) := by decide +kernel
theorem dX1_takesLetter_63 : decode cX1_takesLetter 63 = .ok (.iconst 2, 1) := by decide +kernel
theorem dX1_takesLetter_64 : decode cX1_takesLetter 64 = .ok (.putfield 37, 3) := by decide +kernel
theorem dX1_takesLetter_67 : decode cX1_takesLetter 67 = .ok (.iconst 1, 1) := by decide +kernel
theorem dX1_takesLetter_68 : decode cX1_takesLetter 68 = .ok (.ireturn, 1) := by decide +kernel
theorem dX1_takesDigit_0 : decode cX1_takesDigit 0 = .ok (.aload_n 0, 1) := by decide +kernel
theorem dX1_takesDigit_1 : decode cX1_takesDigit 1 = .ok (.aload_n 0, 1) := by decide +kernel
theorem dX1_takesDigit_2 : decode cX1_takesDigit 2 = .ok (.getfield 86, 3) := by decide +kernel
theorem dX1_takesDigit_5 : decode cX1_takesDigit 5 = .ok (.bipush 10, 2) := by decide +kernel
theorem dX1_takesDigit_7 : decode cX1_takesDigit 7 = .ok (.imul, 1) := by decide +kernel
theorem dX1_takesDigit_8 : decode cX1_takesDigit 8 = .ok (.iload_n 1, 1) := by decide +kernel
theorem dX1_takesDigit_9 : decode cX1_takesDigit 9 = .ok (.iadd, 1) := by decide +kernel
theorem dX1_takesDigit_10 : decode cX1_takesDigit 10 = .ok (.bipush 48, 2) := by decide +kernel
theorem dX1_takesDigit_12 : decode cX1_takesDigit 12 = .ok (.isub, 1) := by decide +kernel
theorem dX1_takesDigit_13 : decode cX1_takesDigit 13 = .ok (.putfield 86, 3) := by decide +kernel
theorem dX1_takesDigit_16 : decode cX1_takesDigit 16 = .ok (.aload_n 0, 1) := by decide +kernel
theorem dX1_takesDigit_17 : decode cX1_takesDigit 17 = .ok (.dup, 1) := by decide +kernel
theorem dX1_takesDigit_18 : decode cX1_takesDigit 18 = .ok (.getfield 47, 3) := by decide +kernel
theorem dX1_takesDigit_21 : decode cX1_takesDigit 21 = .ok (.iconst 1, 1) := by decide +kernel
theorem dX1_takesDigit_22 : decode cX1_takesDigit 22 = .ok (.iadd, 1) := by decide +kernel
theorem dX1_takesDigit_23 : decode cX1_takesDigit 23 = .ok (.putfield 47, 3) := by decide +kernel
theorem dX1_takesDigit_26 : decode cX1_takesDigit 26 = .ok (.aload_n 0, 1) := by decide +kernel
theorem dX1_takesDigit_27 : decode cX1_takesDigit 27 = .ok (.iconst 1, 1) := by decide +kernel
theorem dX1_takesDigit_28 : decode cX1_takesDigit 28 = .ok (.putfield 37, 3) := by decide +kernel
theorem dX1_takesDigit_31 : decode cX1_takesDigit 31 = .ok (.iload_n 2, 1) := by decide +kernel
theorem dX1_takesDigit_32 : decode cX1_takesDigit 32 = .ok (.invokestatic 44, 3) := by decide +kernel
theorem dX1_takesDigit_35 : decode cX1_takesDigit 35 = .ok (.ifCond .eq 5, 3) := by decide +kernel
theorem dX1_takesDigit_38 : decode cX1_takesDigit 38 = .ok (.iconst 1, 1) := by decide +kernel
theorem dX1_takesDigit_39 : decode cX1_takesDigit 39 = .ok (.ireturn, 1) := by decide +kernel
theorem dX1_takesDigit_40 : decode cX1_takesDigit 40 = .ok (.aload_n 0, 1) := by decide +kernel
theorem dX1_takesDigit_41 : decode cX1_takesDigit 41 = .ok (.getfield 11, 3) := by decide +kernel
theorem dX1_takesDigit_44 : decode cX1_takesDigit 44 = .ok (.aload_n 0, 1) := by decide +kernel
theorem dX1_takesDigit_45 : decode cX1_takesDigit 45 = .ok (.getfield 64, 3) := by decide +kernel
theorem dX1_takesDigit_48 : decode cX1_takesDigit 48 = .ok (.aload_n 0, 1) := by decide +kernel
theorem dX1_takesDigit_49 : decode cX1_takesDigit 49 = .ok (.getfield 83, 3) := by decide +kernel
theorem dX1_takesDigit_52 : decode cX1_takesDigit 52 = .ok (.iadd, 1) := by decide +kernel
theorem dX1_takesDigit_53 : decode cX1_takesDigit 53 = .ok (.aload_n 0, 1) := by decide +kernel
theorem dX1_takesDigit_54 : decode cX1_takesDigit 54 = .ok (.getfield 86, 3) := by decide +kernel
theorem dX1_takesDigit_57 : decode cX1_takesDigit 57 = .ok (.iastore, 1) := by decide +kernel
theorem dX1_takesDigit_58 : decode cX1_takesDigit 58 = .ok (.aload_n 0, 1) := by decide +kernel
theorem dX1_takesDigit_59 : decode cX1_takesDigit 59 = .ok (.getfield 86, 3) := by decide +kernel
theorem dX1_takesDigit_62 : decode cX1_takesDigit 62 = .ok (.getstatic 89, 3) := by decide +kernel
theorem dX1_takesDigit_65 : decode cX1_takesDigit 65 = .ok (.aload_n 0, 1) := by decide +kernel
theorem dX1_takesDigit_66 : decode cX1_takesDigit 66 = .ok (.getfield 61, 3) := by decide +kernel
theorem dX1_takesDigit_69 : decode cX1_takesDigit 69 = .ok (.aload_n 0, 1) := by decide +kernel
theorem dX1_takesDigit_70 : decode cX1_takesDigit 70 = .ok (.getfield 83, 3) := by decide +kernel
theorem dX1_takesDigit_73 : decode cX1_takesDigit 73 = .ok (.iadd, 1) := by decide +kernel
theorem dX1_takesDigit_74 : decode cX1_takesDigit 74 = .ok (.iaload, 1) := by decide +kernel
theorem dX1_takesDigit_75 : decode cX1_takesDigit 75 = .ok (.if_icmp .gt 7, 3) := by decide +kernel
theorem dX1_takesDigit_78 : decode cX1_takesDigit 78 = .ok (.iconst 1, 1) := by decide +kernel
theorem dX1_takesDigit_79 : decode cX1_takesDigit 79 = .ok (.goto 4, 3) := by decide +kernel
theorem dX1_takesDigit_82 : decode cX1_takesDigit 82 = .ok (.iconst 0, 1) := by decide +kernel
theorem dX1_takesDigit_83 : decode cX1_takesDigit 83 = .ok (.ireturn, 1) := by decide +kernel
theorem dX1_closes_0 : decode cX1_closes 0 = .ok (.aload_n 0, 1) := by decide +kernel
theorem dX1_closes_1 : decode cX1_closes 1 = .ok (.getfield 37, 3) := by decide +kernel
theorem dX1_closes_4 : decode cX1_closes 4 = .ok (.iconst 1, 1) := by decide +kernel
theorem dX1_closes_5 : decode cX1_closes 5 = .ok (.if_icmp .ne 30, 3) := by decide +kernel
theorem dX1_closes_8 : decode cX1_closes 8 = .ok (.aload_n 0, 1) := by decide +kernel
theorem dX1_closes_9 : decode cX1_closes 9 = .ok (.getfield 25, 3) := by decide +kernel
theorem dX1_closes_12 : decode cX1_closes 12 = .ok (.iconst 2, 1) := by decide +kernel
theorem dX1_closes_13 : decode cX1_closes 13 = .ok (.if_icmp .lt 22, 3) := by decide +kernel
theorem dX1_closes_16 : decode cX1_closes 16 = .ok (.aload_n 0, 1) := by decide +kernel
theorem dX1_closes_17 : decode cX1_closes 17 = .ok (.getfield 28, 3) := by decide +kernel
theorem dX1_closes_20 : decode cX1_closes 20 = .ok (.iconst 1, 1) := by decide +kernel
theorem dX1_closes_21 : decode cX1_closes 21 = .ok (.if_icmp .lt 14, 3) := by decide +kernel
theorem dX1_closes_24 : decode cX1_closes 24 = .ok (.aload_n 0, 1) := by decide +kernel
theorem dX1_closes_25 : decode cX1_closes 25 = .ok (.invokevirtual 92, 3) := by decide +kernel
theorem dX1_closes_28 : decode cX1_closes 28 = .ok (.aload_n 0, 1) := by decide +kernel
theorem dX1_closes_29 : decode cX1_closes 29 = .ok (.getfield 25, 3) := by decide +kernel
theorem dX1_closes_32 : decode cX1_closes 32 = .ok (.if_icmp .lt 5, 3) := by decide +kernel
theorem dX1_closes_35 : decode cX1_closes 35 = .ok (.iconst 0, 1) := by decide +kernel
theorem dX1_closes_36 : decode cX1_closes 36 = .ok (.ireturn, 1) := by decide +kernel
theorem dX1_closes_37 : decode cX1_closes 37 = .ok (.iconst 0, 1) := by decide +kernel
theorem dX1_closes_38 : decode cX1_closes 38 = .ok (.istore_n 1, 1) := by decide +kernel
theorem dX1_closes_39 : decode cX1_closes 39 = .ok (.iload_n 1, 1) := by decide +kernel
theorem dX1_closes_40 : decode cX1_closes 40 = .ok (.aload_n 0, 1) := by decide +kernel
theorem dX1_closes_41 : decode cX1_closes 41 = .ok (.getfield 28, 3) := by decide +kernel
theorem dX1_closes_44 : decode cX1_closes 44 = .ok (.if_icmp .ge 23, 3) := by decide +kernel
theorem dX1_closes_47 : decode cX1_closes 47 = .ok (.aload_n 0, 1) := by decide +kernel
theorem dX1_closes_48 : decode cX1_closes 48 = .ok (.iload_n 1, 1) := by decide +kernel
theorem dX1_closes_49 : decode cX1_closes 49 = .ok (.invokevirtual 95, 3) := by decide +kernel
theorem dX1_closes_52 : decode cX1_closes 52 = .ok (.aload_n 0, 1) := by decide +kernel
theorem dX1_closes_53 : decode cX1_closes 53 = .ok (.getfield 25, 3) := by decide +kernel
theorem dX1_closes_56 : decode cX1_closes 56 = .ok (.if_icmp .lt 5, 3) := by decide +kernel
theorem dX1_closes_59 : decode cX1_closes 59 = .ok (.iconst 0, 1) := by decide +kernel
theorem dX1_closes_60 : decode cX1_closes 60 = .ok (.ireturn, 1) := by decide +kernel
theorem dX1_closes_61 : decode cX1_closes 61 = .ok (.iinc 1 1, 3) := by decide +kernel
theorem dX1_closes_64 : decode cX1_closes 64 = .ok (.goto (-25), 3) := by decide +kernel
theorem dX1_closes_67 : decode cX1_closes 67 = .ok (.iconst 1, 1) := by decide +kernel
theorem dX1_closes_68 : decode cX1_closes 68 = .ok (.ireturn, 1) := by decide +kernel
theorem dX1_bottleTold_0 : decode cX1_bottleTold 0 = .ok (.aload_n 0, 1) := by decide +kernel
theorem dX1_bottleTold_1 : decode cX1_bottleTold 1 = .ok (.getfield 11, 3) := by decide +kernel
theorem dX1_bottleTold_4 : decode cX1_bottleTold 4 = .ok (.iconst 0, 1) := by decide +kernel
theorem dX1_bottleTold_5 : decode cX1_bottleTold 5 = .ok (.iaload, 1) := by decide +kernel
theorem dX1_bottleTold_6 : decode cX1_bottleTold 6 = .ok (.ireturn, 1) := by decide +kernel
theorem dX1_wagesTold_0 : decode cX1_wagesTold 0 = .ok (.aload_n 0, 1) := by decide +kernel
theorem dX1_wagesTold_1 : decode cX1_wagesTold 1 = .ok (.getfield 11, 3) := by decide +kernel
theorem dX1_wagesTold_4 : decode cX1_wagesTold 4 = .ok (.iconst 1, 1) := by decide +kernel
theorem dX1_wagesTold_5 : decode cX1_wagesTold 5 = .ok (.iaload, 1) := by decide +kernel
theorem dX1_wagesTold_6 : decode cX1_wagesTold 6 = .ok (.ireturn, 1) := by decide +kernel
theorem dX1_moreTold_0 : decode cX1_moreTold 0 = .ok (.aload_n 0, 1) := by decide +kernel
theorem dX1_moreTold_1 : decode cX1_moreTold 1 = .ok (.getfield 11, 3) := by decide +kernel
theorem dX1_moreTold_4 : decode cX1_moreTold 4 = .ok (.iconst 2, 1) := by decide +kernel
theorem dX1_moreTold_5 : decode cX1_moreTold 5 = .ok (.iaload, 1) := by decide +kernel
theorem dX1_moreTold_6 : decode cX1_moreTold 6 = .ok (.ireturn, 1) := by decide +kernel
theorem dX1_qualityTold_0 : decode cX1_qualityTold 0 = .ok (.aload_n 0, 1) := by decide +kernel
theorem dX1_qualityTold_1 : decode cX1_qualityTold 1 = .ok (.getfield 11, 3) := by decide +kernel
theorem dX1_qualityTold_4 : decode cX1_qualityTold 4 = .ok (.iconst 3, 1) := by decide +kernel
theorem dX1_qualityTold_5 : decode cX1_qualityTold 5 = .ok (.iconst 2, 1) := by decide +kernel
theorem dX1_qualityTold_6 : decode cX1_qualityTold 6 = .ok (.iload_n 1, 1) := by decide +kernel
theorem dX1_qualityTold_7 : decode cX1_qualityTold 7 = .ok (.imul, 1) := by decide +kernel
theorem dX1_qualityTold_8 : decode cX1_qualityTold 8 = .ok (.iadd, 1) := by decide +kernel
theorem dX1_qualityTold_9 : decode cX1_qualityTold 9 = .ok (.iaload, 1) := by decide +kernel
theorem dX1_qualityTold_10 : decode cX1_qualityTold 10 = .ok (.ireturn, 1) := by decide +kernel
theorem dX1_priceTold_0 : decode cX1_priceTold 0 = .ok (.aload_n 0, 1) := by decide +kernel
theorem dX1_priceTold_1 : decode cX1_priceTold 1 = .ok (.getfield 11, 3) := by decide +kernel
theorem dX1_priceTold_4 : decode cX1_priceTold 4 = .ok (.iconst 3, 1) := by decide +kernel
theorem dX1_priceTold_5 : decode cX1_priceTold 5 = .ok (.iconst 2, 1) := by decide +kernel
theorem dX1_priceTold_6 : decode cX1_priceTold 6 = .ok (.iload_n 1, 1) := by decide +kernel
theorem dX1_priceTold_7 : decode cX1_priceTold 7 = .ok (.imul, 1) := by decide +kernel
theorem dX1_priceTold_8 : decode cX1_priceTold 8 = .ok (.iadd, 1) := by decide +kernel
theorem dX1_priceTold_9 : decode cX1_priceTold 9 = .ok (.iconst 1, 1) := by decide +kernel
theorem dX1_priceTold_10 : decode cX1_priceTold 10 = .ok (.iadd, 1) := by decide +kernel
theorem dX1_priceTold_11 : decode cX1_priceTold 11 = .ok (.iaload, 1) := by decide +kernel
theorem dX1_priceTold_12 : decode cX1_priceTold 12 = .ok (.ireturn, 1) := by decide +kernel
theorem dX1_likeTold_0 : decode cX1_likeTold 0 = .ok (.aload_n 0, 1) := by decide +kernel
theorem dX1_likeTold_1 : decode cX1_likeTold 1 = .ok (.getfield 11, 3) := by decide +kernel
theorem dX1_likeTold_4 : decode cX1_likeTold 4 = .ok (.bipush 15, 2) := by decide +kernel
theorem dX1_likeTold_6 : decode cX1_likeTold 6 = .ok (.iconst 3, 1) := by decide +kernel
theorem dX1_likeTold_7 : decode cX1_likeTold 7 = .ok (.iload_n 1, 1) := by decide +kernel
theorem dX1_likeTold_8 : decode cX1_likeTold 8 = .ok (.imul, 1) := by decide +kernel
theorem dX1_likeTold_9 : decode cX1_likeTold 9 = .ok (.iadd, 1) := by decide +kernel
theorem dX1_likeTold_10 : decode cX1_likeTold 10 = .ok (.iaload, 1) := by decide +kernel
theorem dX1_likeTold_11 : decode cX1_likeTold 11 = .ok (.ireturn, 1) := by decide +kernel
theorem dX1_moneyTold_0 : decode cX1_moneyTold 0 = .ok (.aload_n 0, 1) := by decide +kernel
theorem dX1_moneyTold_1 : decode cX1_moneyTold 1 = .ok (.getfield 11, 3) := by decide +kernel
theorem dX1_moneyTold_4 : decode cX1_moneyTold 4 = .ok (.bipush 15, 2) := by decide +kernel
theorem dX1_moneyTold_6 : decode cX1_moneyTold 6 = .ok (.iconst 3, 1) := by decide +kernel
theorem dX1_moneyTold_7 : decode cX1_moneyTold 7 = .ok (.iload_n 1, 1) := by decide +kernel
theorem dX1_moneyTold_8 : decode cX1_moneyTold 8 = .ok (.imul, 1) := by decide +kernel
theorem dX1_moneyTold_9 : decode cX1_moneyTold 9 = .ok (.iadd, 1) := by decide +kernel
theorem dX1_moneyTold_10 : decode cX1_moneyTold 10 = .ok (.iconst 1, 1) := by decide +kernel
theorem dX1_moneyTold_11 : decode cX1_moneyTold 11 = .ok (.iadd, 1) := by decide +kernel
theorem dX1_moneyTold_12 : decode cX1_moneyTold 12 = .ok (.iaload, 1) := by decide +kernel
theorem dX1_moneyTold_13 : decode cX1_moneyTold 13 = .ok (.ireturn, 1) := by decide +kernel
theorem dX1_moodTold_0 : decode cX1_moodTold 0 = .ok (.aload_n 0, 1) := by decide +kernel
theorem dX1_moodTold_1 : decode cX1_moodTold 1 = .ok (.getfield 11, 3) := by decide +kernel
theorem dX1_moodTold_4 : decode cX1_moodTold 4 = .ok (.bipush 15, 2) := by decide +kernel
theorem dX1_moodTold_6 : decode cX1_moodTold 6 = .ok (.iconst 3, 1) := by decide +kernel
theorem dX1_moodTold_7 : decode cX1_moodTold 7 = .ok (.iload_n 1, 1) := by decide +kernel
theorem dX1_moodTold_8 : decode cX1_moodTold 8 = .ok (.imul, 1) := by decide +kernel
theorem dX1_moodTold_9 : decode cX1_moodTold 9 = .ok (.iadd, 1) := by decide +kernel
theorem dX1_moodTold_10 : decode cX1_moodTold 10 = .ok (.iconst 2, 1) := by decide +kernel
theorem dX1_moodTold_11 : decode cX1_moodTold 11 = .ok (.iadd, 1) := by decide +kernel
theorem dX1_moodTold_12 : decode cX1_moodTold 12 = .ok (.iaload, 1) := by decide +kernel
theorem dX1_moodTold_13 : decode cX1_moodTold 13 = .ok (.ireturn, 1) := by decide +kernel
theorem dX2_init_0 : decode cX2_init 0 = .ok (.aload_n 0, 1) := by decide +kernel
theorem dX2_init_1 : decode cX2_init 1 = .ok (.invokespecial 3, 3) := by decide +kernel
theorem dX2_init_4 : decode cX2_init 4 = .ok (.aload_n 0, 1) := by decide +kernel
theorem dX2_init_5 : decode cX2_init 5 = .ok (.sipush 241, 3) := by decide +kernel
theorem dX2_init_8 : decode cX2_init 8 = .ok (.newarray .int, 2) := by decide +kernel
theorem dX2_init_10 : decode cX2_init 10 = .ok (.putfield 11, 3) := by decide +kernel
theorem dX2_init_13 : decode cX2_init 13 = .ok (.aload_n 0, 1) := by decide +kernel
theorem dX2_init_14 : decode cX2_init 14 = .ok (.bipush 64, 2) := by decide +kernel
theorem dX2_init_16 : decode cX2_init 16 = .ok (.newarray .int, 2) := by decide +kernel
theorem dX2_init_18 : decode cX2_init 18 = .ok (.putfield 17, 3) := by decide +kernel
theorem dX2_init_21 : decode cX2_init 21 = .ok (.return_, 1) := by decide +kernel
theorem dX2_start_0 : decode cX2_start 0 = .ok (.aload_n 0, 1) := by decide +kernel
theorem dX2_start_1 : decode cX2_start 1 = .ok (.iconst 0, 1) := by decide +kernel
theorem dX2_start_2 : decode cX2_start 2 = .ok (.putfield 20, 3) := by decide +kernel
theorem dX2_start_5 : decode cX2_start 5 = .ok (.aload_n 0, 1) := by decide +kernel
theorem dX2_start_6 : decode cX2_start 6 = .ok (.iconst 0, 1) := by decide +kernel
theorem dX2_start_7 : decode cX2_start 7 = .ok (.putfield 24, 3) := by decide +kernel
theorem dX2_start_10 : decode cX2_start 10 = .ok (.aload_n 0, 1) := by decide +kernel
theorem dX2_start_11 : decode cX2_start 11 = .ok (.iconst 0, 1) := by decide +kernel
theorem dX2_start_12 : decode cX2_start 12 = .ok (.putfield 27, 3) := by decide +kernel
theorem dX2_start_15 : decode cX2_start 15 = .ok (.aload_n 0, 1) := by decide +kernel
theorem dX2_start_16 : decode cX2_start 16 = .ok (.iconst 0, 1) := by decide +kernel
theorem dX2_start_17 : decode cX2_start 17 = .ok (.putfield 30, 3) := by decide +kernel
theorem dX2_start_20 : decode cX2_start 20 = .ok (.return_, 1) := by decide +kernel
theorem dX2_codeRead_0 : decode cX2_codeRead 0 = .ok (.aload_n 0, 1) := by decide +kernel
theorem dX2_codeRead_1 : decode cX2_codeRead 1 = .ok (.getfield 11, 3) := by decide +kernel
theorem dX2_codeRead_4 : decode cX2_codeRead 4 = .ok (.aload_n 0, 1) := by decide +kernel
theorem dX2_codeRead_5 : decode cX2_codeRead 5 = .ok (.getfield 20, 3) := by decide +kernel
theorem dX2_codeRead_8 : decode cX2_codeRead 8 = .ok (.invokestatic 33, 3) := by decide +kernel
theorem dX2_codeRead_11 : decode cX2_codeRead 11 = .ok (.areturn, 1) := by decide +kernel
theorem dX2_takes_0 : decode cX2_takes 0 = .ok (.aload_n 0, 1) := by decide +kernel
theorem dX2_takes_1 : decode cX2_takes 1 = .ok (.getfield 30, 3) := by decide +kernel
theorem dX2_takes_4 : decode cX2_takes 4 = .ok (.ifCond .ne 20, 3) := by decide +kernel
theorem dX2_takes_7 : decode cX2_takes 7 = .ok (.aload_n 0, 1) := by decide +kernel
theorem dX2_takes_8 : decode cX2_takes 8 = .ok (.iconst 1, 1) := by decide +kernel
theorem dX2_takes_9 : decode cX2_takes 9 = .ok (.putfield 30, 3) := by decide +kernel
theorem dX2_takes_12 : decode cX2_takes 12 = .ok (.iload_n 1, 1) := by decide +kernel
theorem dX2_takes_13 : decode cX2_takes 13 = .ok (.bipush 121, 2) := by decide +kernel
theorem dX2_takes_15 : decode cX2_takes 15 = .ok (.if_icmp .ne 7, 3) := by decide +kernel
theorem dX2_takes_18 : decode cX2_takes 18 = .ok (.iconst 1, 1) := by decide +kernel
theorem dX2_takes_19 : decode cX2_takes 19 = .ok (.goto 4, 3) := by decide +kernel
theorem dX2_takes_22 : decode cX2_takes 22 = .ok (.iconst 0, 1) := by decide +kernel
theorem dX2_takes_23 : decode cX2_takes 23 = .ok (.ireturn, 1) := by decide +kernel
theorem dX2_takes_24 : decode cX2_takes 24 = .ok (.aload_n 0, 1) := by decide +kernel
theorem dX2_takes_25 : decode cX2_takes 25 = .ok (.getfield 30, 3) := by decide +kernel
theorem dX2_takes_28 : decode cX2_takes 28 = .ok (.iconst 1, 1) := by decide +kernel
theorem dX2_takes_29 : decode cX2_takes 29 = .ok (.if_icmp .ne 30, 3) := by decide +kernel
theorem dX2_takes_32 : decode cX2_takes 32 = .ok (.aload_n 0, 1) := by decide +kernel
theorem dX2_takes_33 : decode cX2_takes 33 = .ok (.iconst 2, 1) := by decide +kernel
theorem dX2_takes_34 : decode cX2_takes 34 = .ok (.putfield 30, 3) := by decide +kernel
theorem dX2_takes_37 : decode cX2_takes 37 = .ok (.aload_n 0, 1) := by decide +kernel
theorem dX2_takes_38 : decode cX2_takes 38 = .ok (.iconst 0, 1) := by decide +kernel
theorem dX2_takes_39 : decode cX2_takes 39 = .ok (.putfield 39, 3) := by decide +kernel
theorem dX2_takes_42 : decode cX2_takes 42 = .ok (.aload_n 0, 1) := by decide +kernel
theorem dX2_takes_43 : decode cX2_takes 43 = .ok (.iconst 0, 1) := by decide +kernel
theorem dX2_takes_44 : decode cX2_takes 44 = .ok (.putfield 42, 3) := by decide +kernel
theorem dX2_takes_47 : decode cX2_takes 47 = .ok (.iload_n 1, 1) := by decide +kernel
theorem dX2_takes_48 : decode cX2_takes 48 = .ok (.bipush 58, 2) := by decide +kernel
theorem dX2_takes_50 : decode cX2_takes 50 = .ok (.if_icmp .ne 7, 3) := by decide +kernel
theorem dX2_takes_53 : decode cX2_takes 53 = .ok (.iconst 1, 1) := by decide +kernel
theorem dX2_takes_54 : decode cX2_takes 54 = .ok (.goto 4, 3) := by decide +kernel
theorem dX2_takes_57 : decode cX2_takes 57 = .ok (.iconst 0, 1) := by decide +kernel
theorem dX2_takes_58 : decode cX2_takes 58 = .ok (.ireturn, 1) := by decide +kernel
theorem dX2_takes_59 : decode cX2_takes 59 = .ok (.aload_n 0, 1) := by decide +kernel
theorem dX2_takes_60 : decode cX2_takes 60 = .ok (.getfield 30, 3) := by decide +kernel
theorem dX2_takes_63 : decode cX2_takes 63 = .ok (.iconst 2, 1) := by decide +kernel
theorem dX2_takes_64 : decode cX2_takes 64 = .ok (.if_icmp .eq 11, 3) := by decide +kernel
theorem dX2_takes_67 : decode cX2_takes 67 = .ok (.aload_n 0, 1) := by decide +kernel
theorem dX2_takes_68 : decode cX2_takes 68 = .ok (.getfield 30, 3) := by decide +kernel
theorem dX2_takes_71 : decode cX2_takes 71 = .ok (.iconst 3, 1) := by decide +kernel
theorem dX2_takes_72 : decode cX2_takes 72 = .ok (.if_icmp .ne 9, 3) := by decide +kernel
theorem dX2_takes_75 : decode cX2_takes 75 = .ok (.aload_n 0, 1) := by decide +kernel
theorem dX2_takes_76 : decode cX2_takes 76 = .ok (.iload_n 1, 1) := by decide +kernel
theorem dX2_takes_77 : decode cX2_takes 77 = .ok (.invokevirtual 46, 3) := by decide +kernel
theorem dX2_takes_80 : decode cX2_takes 80 = .ok (.ireturn, 1) := by decide +kernel
theorem dX2_takes_81 : decode cX2_takes 81 = .ok (.iload_n 1, 1) := by decide +kernel
theorem dX2_takes_82 : decode cX2_takes 82 = .ok (.invokestatic 50, 3) := by decide +kernel
theorem dX2_takes_85 : decode cX2_takes 85 = .ok (.ifCond .eq 21, 3) := by decide +kernel
theorem dX2_takes_88 : decode cX2_takes 88 = .ok (.iload_n 3, 1) := by decide +kernel
theorem dX2_takes_89 : decode cX2_takes 89 = .ok (.ifCond .eq 15, 3) := by decide +kernel
theorem dX2_takes_92 : decode cX2_takes 92 = .ok (.aload_n 0, 1) := by decide +kernel
theorem dX2_takes_93 : decode cX2_takes 93 = .ok (.iload_n 1, 1) := by decide +kernel
theorem dX2_takes_94 : decode cX2_takes 94 = .ok (.invokevirtual 53, 3) := by decide +kernel
theorem dX2_takes_97 : decode cX2_takes 97 = .ok (.ifCond .eq 7, 3) := by decide +kernel
theorem dX2_takes_100 : decode cX2_takes 100 = .ok (.iconst 1, 1) := by decide +kernel
theorem dX2_takes_101 : decode cX2_takes 101 = .ok (.goto 4, 3) := by decide +kernel
theorem dX2_takes_104 : decode cX2_takes 104 = .ok (.iconst 0, 1) := by decide +kernel
theorem dX2_takes_105 : decode cX2_takes 105 = .ok (.ireturn, 1) := by decide +kernel
theorem dX2_takes_106 : decode cX2_takes 106 = .ok (.aload_n 0, 1) := by decide +kernel
theorem dX2_takes_107 : decode cX2_takes 107 = .ok (.iload_n 1, 1) := by decide +kernel
theorem dX2_takes_108 : decode cX2_takes 108 = .ok (.invokevirtual 56, 3) := by decide +kernel
theorem dX2_takes_111 : decode cX2_takes 111 = .ok (.ireturn, 1) := by decide +kernel
theorem dX2_takesStart_0 : decode cX2_takesStart 0 = .ok (.ldc 61, 2) := by decide +kernel
theorem dX2_takesStart_2 : decode cX2_takesStart 2 = .ok (.iload_n 1, 1) := by decide +kernel
theorem dX2_takesStart_3 : decode cX2_takesStart 3 = .ok (.i2c, 1) := by decide +kernel
theorem dX2_takesStart_4 : decode cX2_takesStart 4 = .ok (.invokevirtual 63, 3) := by decide +kernel
theorem dX2_takesStart_7 : decode cX2_takesStart 7 = .ok (.istore_n 2, 1) := by decide +kernel
theorem dX2_takesStart_8 : decode cX2_takesStart 8 = .ok (.iload_n 2, 1) := by decide +kernel
theorem dX2_takesStart_9 : decode cX2_takesStart 9 = .ok (.ifCond .ge 10, 3) := by decide +kernel
theorem dX2_takesStart_12 : decode cX2_takesStart 12 = .ok (.iload_n 1, 1) := by decide +kernel
theorem dX2_takesStart_13 : decode cX2_takesStart 13 = .ok (.invokestatic 50, 3) := by decide +kernel
theorem dX2_takesStart_16 : decode cX2_takesStart 16 = .ok (.ifCond .eq 41, 3) := by decide +kernel
theorem dX2_takesStart_19 : decode cX2_takesStart 19 = .ok (.aload_n 0, 1) := by decide +kernel
theorem dX2_takesStart_20 : decode cX2_takesStart 20 = .ok (.iload_n 2, 1) := by decide +kernel
theorem dX2_takesStart_21 : decode cX2_takesStart 21 = .ok (.ifCond .lt 7, 3) := by decide +kernel
theorem dX2_takesStart_24 : decode cX2_takesStart 24 = .ok (.iconst 0, 1) := by decide +kernel
theorem dX2_takesStart_25 : decode cX2_takesStart 25 = .ok (.goto 4, 3) := by decide +kernel
theorem dX2_takesStart_28 : decode cX2_takesStart 28 = .ok (.iconst 1, 1) := by decide +kernel
theorem dX2_takesStart_29 : decode cX2_takesStart 29 = .ok (.putfield 69, 3) := by decide +kernel
theorem dX2_takesStart_32 : decode cX2_takesStart 32 = .ok (.aload_n 0, 1) := by decide +kernel
theorem dX2_takesStart_33 : decode cX2_takesStart 33 = .ok (.iload_n 2, 1) := by decide +kernel
theorem dX2_takesStart_34 : decode cX2_takesStart 34 = .ok (.ifCond .lt 9, 3) := by decide +kernel
theorem dX2_takesStart_37 : decode cX2_takesStart 37 = .ok (.iconst (-1), 1) := by decide +kernel
theorem dX2_takesStart_38 : decode cX2_takesStart 38 = .ok (.iload_n 2, 1) := by decide +kernel
theorem dX2_takesStart_39 : decode cX2_takesStart 39 = .ok (.isub, 1) := by decide +kernel
theorem dX2_takesStart_40 : decode cX2_takesStart 40 = .ok (.goto 7, 3) := by decide +kernel
theorem dX2_takesStart_43 : decode cX2_takesStart 43 = .ok (.iload_n 1, 1) := by decide +kernel
theorem dX2_takesStart_44 : decode cX2_takesStart 44 = .ok (.bipush 48, 2) := by decide +kernel
theorem dX2_takesStart_46 : decode cX2_takesStart 46 = .ok (.isub, 1) := by decide +kernel
theorem dX2_takesStart_47 : decode cX2_takesStart 47 = .ok (.invokevirtual 72, 3) := by decide +kernel
theorem dX2_takesStart_50 : decode cX2_takesStart 50 = .ok (.aload_n 0, 1) := by decide +kernel
theorem dX2_takesStart_51 : decode cX2_takesStart 51 = .ok (.iconst 4, 1) := by decide +kernel
theorem dX2_takesStart_52 : decode cX2_takesStart 52 = .ok (.putfield 30, 3) := by decide +kernel
theorem dX2_takesStart_55 : decode cX2_takesStart 55 = .ok (.iconst 1, 1) := by decide +kernel
theorem dX2_takesStart_56 : decode cX2_takesStart 56 = .ok (.ireturn, 1) := by decide +kernel
theorem dX2_takesStart_57 : decode cX2_takesStart 57 = .ok (.aload_n 0, 1) := by decide +kernel
theorem dX2_takesStart_58 : decode cX2_takesStart 58 = .ok (.getfield 30, 3) := by decide +kernel
theorem dX2_takesStart_61 : decode cX2_takesStart 61 = .ok (.iconst 2, 1) := by decide +kernel
theorem dX2_takesStart_62 : decode cX2_takesStart 62 = .ok (.if_icmp .ne 19, 3) := by decide +kernel
theorem dX2_takesStart_65 : decode cX2_takesStart 65 = .ok (.iload_n 1, 1) := by decide +kernel
theorem dX2_takesStart_66 : decode cX2_takesStart 66 = .ok (.bipush 33, 2) := by decide +kernel
theorem dX2_takesStart_68 : decode cX2_takesStart 68 = .ok (.if_icmp .eq 9, 3) := by decide +kernel
theorem dX2_takesStart_71 : decode cX2_takesStart 71 = .ok (.iload_n 1, 1) := by decide +kernel
theorem dX2_takesStart_72 : decode cX2_takesStart 72 = .ok (.bipush 40, 2) := by decide +kernel
theorem dX2_takesStart_74 : decode cX2_takesStart 74 = .ok (.if_icmp .ne 7, 3) := by decide +kernel
theorem dX2_takesStart_77 : decode cX2_takesStart 77 = .ok (.iconst 1, 1) := by decide +kernel
theorem dX2_takesStart_78 : decode cX2_takesStart 78 = .ok (.goto 4, 3) := by decide +kernel
theorem dX2_takesStart_81 : decode cX2_takesStart 81 = .ok (.iconst 0, 1) := by decide +kernel
theorem dX2_takesStart_82 : decode cX2_takesStart 82 = .ok (.istore_n 3, 1) := by decide +kernel
theorem dX2_takesStart_83 : decode cX2_takesStart 83 = .ok (.iload_n 3, 1) := by decide +kernel
theorem dX2_takesStart_84 : decode cX2_takesStart 84 = .ok (.ifCond .ne 9, 3) := by decide +kernel
theorem dX2_takesStart_87 : decode cX2_takesStart 87 = .ok (.iload_n 1, 1) := by decide +kernel
theorem dX2_takesStart_88 : decode cX2_takesStart 88 = .ok (.bipush 91, 2) := by decide +kernel
theorem dX2_takesStart_90 : decode cX2_takesStart 90 = .ok (.if_icmp .ne 12, 3) := by decide +kernel
theorem dX2_takesStart_93 : decode cX2_takesStart 93 = .ok (.aload_n 0, 1) := by decide +kernel
theorem dX2_takesStart_94 : decode cX2_takesStart 94 = .ok (.getfield 27, 3) := by decide +kernel
theorem dX2_takesStart_97 : decode cX2_takesStart 97 = .ok (.bipush 6, 2) := by decide +kernel
theorem dX2_takesStart_99 : decode cX2_takesStart 99 = .ok (.if_icmp .lt 5, 3) := by decide +kernel
theorem dX2_takesStart_102 : decode cX2_takesStart 102 = .ok (.iconst 0, 1) := by decide +kernel
theorem dX2_takesStart_103 : decode cX2_takesStart 103 = .ok (.ireturn, 1) := by decide +kernel
theorem dX2_takesStart_104 : decode cX2_takesStart 104 = .ok (.iload_n 3, 1) := by decide +kernel
theorem dX2_takesStart_105 : decode cX2_takesStart 105 = .ok (.ifCond .eq 8, 3) := by decide +kernel
theorem dX2_takesStart_108 : decode cX2_takesStart 108 = .ok (.aload_n 0, 1) := by decide +kernel
theorem dX2_takesStart_109 : decode cX2_takesStart 109 = .ok (.iconst 1, 1) := by decide +kernel
theorem dX2_takesStart_110 : decode cX2_takesStart 110 = .ok (.putfield 39, 3) := by decide +kernel
theorem dX2_takesStart_113 : decode cX2_takesStart 113 = .ok (.aload_n 0, 1) := by decide +kernel
theorem dX2_takesStart_114 : decode cX2_takesStart 114 = .ok (.iload_n 3, 1) := by decide +kernel
theorem dX2_takesStart_115 : decode cX2_takesStart 115 = .ok (.ifCond .eq 7, 3) := by decide +kernel
theorem dX2_takesStart_118 : decode cX2_takesStart 118 = .ok (.iconst 2, 1) := by decide +kernel
theorem dX2_takesStart_119 : decode cX2_takesStart 119 = .ok (.goto 4, 3) := by decide +kernel
theorem dX2_takesStart_122 : decode cX2_takesStart 122 = .ok (.iconst 3, 1) := by decide +kernel
theorem dX2_takesStart_123 : decode cX2_takesStart 123 = .ok (.putfield 30, 3) := by decide +kernel
theorem dX2_takesStart_126 : decode cX2_takesStart 126 = .ok (.aload_n 0, 1) := by decide +kernel
theorem dX2_takesStart_127 : decode cX2_takesStart 127 = .ok (.dup, 1) := by decide +kernel
theorem dX2_takesStart_128 : decode cX2_takesStart 128 = .ok (.getfield 27, 3) := by decide +kernel
theorem dX2_takesStart_131 : decode cX2_takesStart 131 = .ok (.iconst 1, 1) := by decide +kernel
theorem dX2_takesStart_132 : decode cX2_takesStart 132 = .ok (.iadd, 1) := by decide +kernel
theorem dX2_takesStart_133 : decode cX2_takesStart 133 = .ok (.putfield 27, 3) := by decide +kernel
theorem dX2_takesStart_136 : decode cX2_takesStart 136 = .ok (.aload_n 0, 1) := by decide +kernel
theorem dX2_takesStart_137 : decode cX2_takesStart 137 = .ok (.iload_n 1, 1) := by decide +kernel
theorem dX2_takesStart_138 : decode cX2_takesStart 138 = .ok (.invokevirtual 76, 3) := by decide +kernel
theorem dX2_takesStart_141 : decode cX2_takesStart 141 = .ok (.iconst 1, 1) := by decide +kernel
theorem dX2_takesStart_142 : decode cX2_takesStart 142 = .ok (.ireturn, 1) := by decide +kernel
theorem dX2_takesDigit_0 : decode cX2_takesDigit 0 = .ok (.aload_n 0, 1) := by decide +kernel
theorem dX2_takesDigit_1 : decode cX2_takesDigit 1 = .ok (.getfield 69, 3) := by decide +kernel
theorem dX2_takesDigit_4 : decode cX2_takesDigit 4 = .ok (.iconst 1, 1) := by decide +kernel
theorem dX2_takesDigit_5 : decode cX2_takesDigit 5 = .ok (.if_icmp .lt 19, 3) := by decide +kernel
theorem dX2_takesDigit_8 : decode cX2_takesDigit 8 = .ok (.aload_n 0, 1) := by decide +kernel
theorem dX2_takesDigit_9 : decode cX2_takesDigit 9 = .ok (.getfield 69, 3) := by decide +kernel
theorem dX2_takesDigit_12 : decode cX2_takesDigit 12 = .ok (.iconst 4, 1) := by decide +kernel
theorem dX2_takesDigit_13 : decode cX2_takesDigit 13 = .ok (.if_icmp .ge 11, 3) := by decide +kernel
theorem dX2_takesDigit_16 : decode cX2_takesDigit 16 = .ok (.aload_n 0, 1) := by decide +kernel
theorem dX2_takesDigit_17 : decode cX2_takesDigit 17 = .ok (.getfield 20, 3) := by decide +kernel
theorem dX2_takesDigit_20 : decode cX2_takesDigit 20 = .ok (.iconst 1, 1) := by decide +kernel
theorem dX2_takesDigit_21 : decode cX2_takesDigit 21 = .ok (.if_icmp .ge 5, 3) := by decide +kernel
theorem dX2_takesDigit_24 : decode cX2_takesDigit 24 = .ok (.iconst 0, 1) := by decide +kernel
theorem dX2_takesDigit_25 : decode cX2_takesDigit 25 = .ok (.ireturn, 1) := by decide +kernel
theorem dX2_takesDigit_26 : decode cX2_takesDigit 26 = .ok (.aload_n 0, 1) := by decide +kernel
theorem dX2_takesDigit_27 : decode cX2_takesDigit 27 = .ok (.dup, 1) := by decide +kernel
theorem dX2_takesDigit_28 : decode cX2_takesDigit 28 = .ok (.getfield 69, 3) := by decide +kernel
theorem dX2_takesDigit_31 : decode cX2_takesDigit 31 = .ok (.iconst 1, 1) := by decide +kernel
theorem dX2_takesDigit_32 : decode cX2_takesDigit 32 = .ok (.iadd, 1) := by decide +kernel
theorem dX2_takesDigit_33 : decode cX2_takesDigit 33 = .ok (.putfield 69, 3) := by decide +kernel
theorem dX2_takesDigit_36 : decode cX2_takesDigit 36 = .ok (.aload_n 0, 1) := by decide +kernel
theorem dX2_takesDigit_37 : decode cX2_takesDigit 37 = .ok (.getfield 11, 3) := by decide +kernel
theorem dX2_takesDigit_40 : decode cX2_takesDigit 40 = .ok (.aload_n 0, 1) := by decide +kernel
theorem dX2_takesDigit_41 : decode cX2_takesDigit 41 = .ok (.getfield 20, 3) := by decide +kernel
theorem dX2_takesDigit_44 : decode cX2_takesDigit 44 = .ok (.iconst 1, 1) := by decide +kernel
theorem dX2_takesDigit_45 : decode cX2_takesDigit 45 = .ok (.isub, 1) := by decide +kernel
theorem dX2_takesDigit_46 : decode cX2_takesDigit 46 = .ok (.aload_n 0, 1) := by decide +kernel
theorem dX2_takesDigit_47 : decode cX2_takesDigit 47 = .ok (.getfield 11, 3) := by decide +kernel
theorem dX2_takesDigit_50 : decode cX2_takesDigit 50 = .ok (.aload_n 0, 1) := by decide +kernel
theorem dX2_takesDigit_51 : decode cX2_takesDigit 51 = .ok (.getfield 20, 3) := by decide +kernel
theorem dX2_takesDigit_54 : decode cX2_takesDigit 54 = .ok (.iconst 1, 1) := by decide +kernel
theorem dX2_takesDigit_55 : decode cX2_takesDigit 55 = .ok (.isub, 1) := by decide +kernel
theorem dX2_takesDigit_56 : decode cX2_takesDigit 56 = .ok (.iaload, 1) := by decide +kernel
theorem dX2_takesDigit_57 : decode cX2_takesDigit 57 = .ok (.bipush 10, 2) := by decide +kernel
theorem dX2_takesDigit_59 : decode cX2_takesDigit 59 = .ok (.imul, 1) := by decide +kernel
theorem dX2_takesDigit_60 : decode cX2_takesDigit 60 = .ok (.iload_n 1, 1) := by decide +kernel
theorem dX2_takesDigit_61 : decode cX2_takesDigit 61 = .ok (.iadd, 1) := by decide +kernel
theorem dX2_takesDigit_62 : decode cX2_takesDigit 62 = .ok (.bipush 48, 2) := by decide +kernel
theorem dX2_takesDigit_64 : decode cX2_takesDigit 64 = .ok (.isub, 1) := by decide +kernel
theorem dX2_takesDigit_65 : decode cX2_takesDigit 65 = .ok (.iastore, 1) := by decide +kernel
theorem dX2_takesDigit_66 : decode cX2_takesDigit 66 = .ok (.iconst 1, 1) := by decide +kernel
theorem dX2_takesDigit_67 : decode cX2_takesDigit 67 = .ok (.ireturn, 1) := by decide +kernel
theorem dX2_takesBehind_0 : decode cX2_takesBehind 0 = .ok (.aload_n 0, 1) := by decide +kernel
theorem dX2_takesBehind_1 : decode cX2_takesBehind 1 = .ok (.iconst 0, 1) := by decide +kernel
theorem dX2_takesBehind_2 : decode cX2_takesBehind 2 = .ok (.putfield 69, 3) := by decide +kernel
theorem dX2_takesBehind_5 : decode cX2_takesBehind 5 = .ok (.aload_n 0, 1) := by decide +kernel
theorem dX2_takesBehind_6 : decode cX2_takesBehind 6 = .ok (.invokevirtual 79, 3) := by decide +kernel
theorem dX2_takesBehind_9 : decode cX2_takesBehind 9 = .ok (.istore_n 2, 1) := by decide +kernel
theorem dX2_takesBehind_10 : decode cX2_takesBehind 10 = .ok (.iload_n 1, 1) := by decide +kernel
theorem dX2_takesBehind_11 : decode cX2_takesBehind 11 = .ok (.lookupswitch 289 #[(38, 164), (41, 211), (42, 113), (43, 113), (45, 113), (47, 113), (59, 263), (60, 136), (61, 136), (62, 136), (63, 238), (93, 191), (124, 164)], 113) := by decide +kernel
theorem dX2_takesBehind_124 : decode cX2_takesBehind 124 = .ok (.aload_n 0, 1) := by decide +kernel
theorem dX2_takesBehind_125 : decode cX2_takesBehind 125 = .ok (.getfield 30, 3) := by decide +kernel
theorem dX2_takesBehind_128 : decode cX2_takesBehind 128 = .ok (.iconst 4, 1) := by decide +kernel
theorem dX2_takesBehind_129 : decode cX2_takesBehind 129 = .ok (.if_icmp .ne 16, 3) := by decide +kernel
theorem dX2_takesBehind_132 : decode cX2_takesBehind 132 = .ok (.aload_n 0, 1) := by decide +kernel
theorem dX2_takesBehind_133 : decode cX2_takesBehind 133 = .ok (.iload_n 1, 1) := by decide +kernel
theorem dX2_takesBehind_134 : decode cX2_takesBehind 134 = .ok (.iconst 3, 1) := by decide +kernel
theorem dX2_takesBehind_135 : decode cX2_takesBehind 135 = .ok (.invokevirtual 83, 3) := by decide +kernel
theorem dX2_takesBehind_138 : decode cX2_takesBehind 138 = .ok (.ifCond .eq 7, 3) := by decide +kernel
theorem dX2_takesBehind_141 : decode cX2_takesBehind 141 = .ok (.iconst 1, 1) := by decide +kernel
theorem dX2_takesBehind_142 : decode cX2_takesBehind 142 = .ok (.goto 4, 3) := by decide +kernel
theorem dX2_takesBehind_145 : decode cX2_takesBehind 145 = .ok (.iconst 0, 1) := by decide +kernel
theorem dX2_takesBehind_146 : decode cX2_takesBehind 146 = .ok (.ireturn, 1) := by decide +kernel
theorem dX2_takesBehind_147 : decode cX2_takesBehind 147 = .ok (.aload_n 0, 1) := by decide +kernel
theorem dX2_takesBehind_148 : decode cX2_takesBehind 148 = .ok (.getfield 30, 3) := by decide +kernel
theorem dX2_takesBehind_151 : decode cX2_takesBehind 151 = .ok (.iconst 4, 1) := by decide +kernel
theorem dX2_takesBehind_152 : decode cX2_takesBehind 152 = .ok (.if_icmp .ne 21, 3) := by decide +kernel
theorem dX2_takesBehind_155 : decode cX2_takesBehind 155 = .ok (.iload_n 2, 1) := by decide +kernel
theorem dX2_takesBehind_156 : decode cX2_takesBehind 156 = .ok (.bipush 91, 2) := by decide +kernel
theorem dX2_takesBehind_158 : decode cX2_takesBehind 158 = .ok (.if_icmp .eq 15, 3) := by decide +kernel
theorem dX2_takesBehind_161 : decode cX2_takesBehind 161 = .ok (.aload_n 0, 1) := by decide +kernel
theorem dX2_takesBehind_162 : decode cX2_takesBehind 162 = .ok (.iload_n 1, 1) := by decide +kernel
theorem dX2_takesBehind_163 : decode cX2_takesBehind 163 = .ok (.invokevirtual 87, 3) := by decide +kernel
theorem dX2_takesBehind_166 : decode cX2_takesBehind 166 = .ok (.ifCond .eq 7, 3) := by decide +kernel
theorem dX2_takesBehind_169 : decode cX2_takesBehind 169 = .ok (.iconst 1, 1) := by decide +kernel
theorem dX2_takesBehind_170 : decode cX2_takesBehind 170 = .ok (.goto 4, 3) := by decide +kernel
theorem dX2_takesBehind_173 : decode cX2_takesBehind 173 = .ok (.iconst 0, 1) := by decide +kernel
theorem dX2_takesBehind_174 : decode cX2_takesBehind 174 = .ok (.ireturn, 1) := by decide +kernel
theorem dX2_takesBehind_175 : decode cX2_takesBehind 175 = .ok (.aload_n 0, 1) := by decide +kernel
theorem dX2_takesBehind_176 : decode cX2_takesBehind 176 = .ok (.getfield 42, 3) := by decide +kernel
theorem dX2_takesBehind_179 : decode cX2_takesBehind 179 = .ok (.ifCond .eq 21, 3) := by decide +kernel
theorem dX2_takesBehind_182 : decode cX2_takesBehind 182 = .ok (.iload_n 2, 1) := by decide +kernel
theorem dX2_takesBehind_183 : decode cX2_takesBehind 183 = .ok (.bipush 91, 2) := by decide +kernel
theorem dX2_takesBehind_185 : decode cX2_takesBehind 185 = .ok (.if_icmp .eq 15, 3) := by decide +kernel
theorem dX2_takesBehind_188 : decode cX2_takesBehind 188 = .ok (.aload_n 0, 1) := by decide +kernel
theorem dX2_takesBehind_189 : decode cX2_takesBehind 189 = .ok (.iload_n 1, 1) := by decide +kernel
theorem dX2_takesBehind_190 : decode cX2_takesBehind 190 = .ok (.invokevirtual 90, 3) := by decide +kernel
theorem dX2_takesBehind_193 : decode cX2_takesBehind 193 = .ok (.ifCond .eq 7, 3) := by decide +kernel
theorem dX2_takesBehind_196 : decode cX2_takesBehind 196 = .ok (.iconst 1, 1) := by decide +kernel
theorem dX2_takesBehind_197 : decode cX2_takesBehind 197 = .ok (.goto 4, 3) := by decide +kernel
theorem dX2_takesBehind_200 : decode cX2_takesBehind 200 = .ok (.iconst 0, 1) := by decide +kernel
theorem dX2_takesBehind_201 : decode cX2_takesBehind 201 = .ok (.ireturn, 1) := by decide +kernel
theorem dX2_takesBehind_202 : decode cX2_takesBehind 202 = .ok (.iload_n 2, 1) := by decide +kernel
theorem dX2_takesBehind_203 : decode cX2_takesBehind 203 = .ok (.bipush 91, 2) := by decide +kernel
theorem dX2_takesBehind_205 : decode cX2_takesBehind 205 = .ok (.if_icmp .ne 15, 3) := by decide +kernel
theorem dX2_takesBehind_208 : decode cX2_takesBehind 208 = .ok (.aload_n 0, 1) := by decide +kernel
theorem dX2_takesBehind_209 : decode cX2_takesBehind 209 = .ok (.iconst 4, 1) := by decide +kernel
theorem dX2_takesBehind_210 : decode cX2_takesBehind 210 = .ok (.invokevirtual 93, 3) := by decide +kernel
theorem dX2_takesBehind_213 : decode cX2_takesBehind 213 = .ok (.ifCond .eq 7, 3) := by decide +kernel
theorem dX2_takesBehind_216 : decode cX2_takesBehind 216 = .ok (.iconst 1, 1) := by decide +kernel
theorem dX2_takesBehind_217 : decode cX2_takesBehind 217 = .ok (.goto 4, 3) := by decide +kernel
theorem dX2_takesBehind_220 : decode cX2_takesBehind 220 = .ok (.iconst 0, 1) := by decide +kernel
theorem dX2_takesBehind_221 : decode cX2_takesBehind 221 = .ok (.ireturn, 1) := by decide +kernel
theorem dX2_takesBehind_222 : decode cX2_takesBehind 222 = .ok (.iload_n 2, 1) := by decide +kernel
theorem dX2_takesBehind_223 : decode cX2_takesBehind 223 = .ok (.bipush 40, 2) := by decide +kernel
theorem dX2_takesBehind_225 : decode cX2_takesBehind 225 = .ok (.if_icmp .ne 22, 3) := by decide +kernel
theorem dX2_takesBehind_228 : decode cX2_takesBehind 228 = .ok (.aload_n 0, 1) := by decide +kernel
theorem dX2_takesBehind_229 : decode cX2_takesBehind 229 = .ok (.getfield 42, 3) := by decide +kernel
theorem dX2_takesBehind_232 : decode cX2_takesBehind 232 = .ok (.ifCond .eq 15, 3) := by decide +kernel
theorem dX2_takesBehind_235 : decode cX2_takesBehind 235 = .ok (.aload_n 0, 1) := by decide +kernel
theorem dX2_takesBehind_236 : decode cX2_takesBehind 236 = .ok (.iconst 5, 1) := by decide +kernel
theorem dX2_takesBehind_237 : decode cX2_takesBehind 237 = .ok (.invokevirtual 93, 3) := by decide +kernel
theorem dX2_takesBehind_240 : decode cX2_takesBehind 240 = .ok (.ifCond .eq 7, 3) := by decide +kernel
theorem dX2_takesBehind_243 : decode cX2_takesBehind 243 = .ok (.iconst 1, 1) := by decide +kernel
theorem dX2_takesBehind_244 : decode cX2_takesBehind 244 = .ok (.goto 4, 3) := by decide +kernel
theorem dX2_takesBehind_247 : decode cX2_takesBehind 247 = .ok (.iconst 0, 1) := by decide +kernel
theorem dX2_takesBehind_248 : decode cX2_takesBehind 248 = .ok (.ireturn, 1) := by decide +kernel
theorem dX2_takesBehind_249 : decode cX2_takesBehind 249 = .ok (.iload_n 2, 1) := by decide +kernel
theorem dX2_takesBehind_250 : decode cX2_takesBehind 250 = .ok (.iconst (-1), 1) := by decide +kernel
theorem dX2_takesBehind_251 : decode cX2_takesBehind 251 = .ok (.if_icmp .ne 21, 3) := by decide +kernel
theorem dX2_takesBehind_254 : decode cX2_takesBehind 254 = .ok (.aload_n 0, 1) := by decide +kernel
theorem dX2_takesBehind_255 : decode cX2_takesBehind 255 = .ok (.getfield 42, 3) := by decide +kernel
theorem dX2_takesBehind_258 : decode cX2_takesBehind 258 = .ok (.ifCond .eq 14, 3) := by decide +kernel
theorem dX2_takesBehind_261 : decode cX2_takesBehind 261 = .ok (.aload_n 0, 1) := by decide +kernel
theorem dX2_takesBehind_262 : decode cX2_takesBehind 262 = .ok (.invokevirtual 96, 3) := by decide +kernel
theorem dX2_takesBehind_265 : decode cX2_takesBehind 265 = .ok (.ifCond .eq 7, 3) := by decide +kernel
theorem dX2_takesBehind_268 : decode cX2_takesBehind 268 = .ok (.iconst 1, 1) := by decide +kernel
theorem dX2_takesBehind_269 : decode cX2_takesBehind 269 = .ok (.goto 4, 3) := by decide +kernel
theorem dX2_takesBehind_272 : decode cX2_takesBehind 272 = .ok (.iconst 0, 1) := by decide +kernel
theorem dX2_takesBehind_273 : decode cX2_takesBehind 273 = .ok (.ireturn, 1) := by decide +kernel
theorem dX2_takesBehind_274 : decode cX2_takesBehind 274 = .ok (.iload_n 2, 1) := by decide +kernel
theorem dX2_takesBehind_275 : decode cX2_takesBehind 275 = .ok (.iconst (-1), 1) := by decide +kernel
theorem dX2_takesBehind_276 : decode cX2_takesBehind 276 = .ok (.if_icmp .ne 22, 3) := by decide +kernel
theorem dX2_takesBehind_279 : decode cX2_takesBehind 279 = .ok (.aload_n 0, 1) := by decide +kernel
theorem dX2_takesBehind_280 : decode cX2_takesBehind 280 = .ok (.getfield 39, 3) := by decide +kernel
theorem dX2_takesBehind_283 : decode cX2_takesBehind 283 = .ok (.iconst 1, 1) := by decide +kernel
theorem dX2_takesBehind_284 : decode cX2_takesBehind 284 = .ok (.if_icmp .eq 14, 3) := by decide +kernel
theorem dX2_takesBehind_287 : decode cX2_takesBehind 287 = .ok (.aload_n 0, 1) := by decide +kernel
theorem dX2_takesBehind_288 : decode cX2_takesBehind 288 = .ok (.invokevirtual 100, 3) := by decide +kernel
theorem dX2_takesBehind_291 : decode cX2_takesBehind 291 = .ok (.ifCond .eq 7, 3) := by decide +kernel
theorem dX2_takesBehind_294 : decode cX2_takesBehind 294 = .ok (.iconst 1, 1) := by decide +kernel
theorem dX2_takesBehind_295 : decode cX2_takesBehind 295 = .ok (.goto 4, 3) := by decide +kernel
theorem dX2_takesBehind_298 : decode cX2_takesBehind 298 = .ok (.iconst 0, 1) := by decide +kernel
theorem dX2_takesBehind_299 : decode cX2_takesBehind 299 = .ok (.ireturn, 1) := by decide +kernel
theorem dX2_takesBehind_300 : decode cX2_takesBehind 300 = .ok (.iconst 0, 1) := by decide +kernel
theorem dX2_takesBehind_301 : decode cX2_takesBehind 301 = .ok (.ireturn, 1) := by decide +kernel
theorem dX2_goesOn_0 : decode cX2_goesOn 0 = .ok (.aload_n 0, 1) := by decide +kernel
theorem dX2_goesOn_1 : decode cX2_goesOn 1 = .ok (.iload_n 1, 1) := by decide +kernel
theorem dX2_goesOn_2 : decode cX2_goesOn 2 = .ok (.invokestatic 103, 3) := by decide +kernel
theorem dX2_goesOn_5 : decode cX2_goesOn 5 = .ok (.invokevirtual 106, 3) := by decide +kernel
theorem dX2_goesOn_8 : decode cX2_goesOn 8 = .ok (.aload_n 0, 1) := by decide +kernel
theorem dX2_goesOn_9 : decode cX2_goesOn 9 = .ok (.iload_n 1, 1) := by decide +kernel
theorem dX2_goesOn_10 : decode cX2_goesOn 10 = .ok (.invokevirtual 76, 3) := by decide +kernel
theorem dX2_goesOn_13 : decode cX2_goesOn 13 = .ok (.aload_n 0, 1) := by decide +kernel
theorem dX2_goesOn_14 : decode cX2_goesOn 14 = .ok (.iload_n 2, 1) := by decide +kernel
theorem dX2_goesOn_15 : decode cX2_goesOn 15 = .ok (.putfield 30, 3) := by decide +kernel
theorem dX2_goesOn_18 : decode cX2_goesOn 18 = .ok (.iconst 1, 1) := by decide +kernel
theorem dX2_goesOn_19 : decode cX2_goesOn 19 = .ok (.ireturn, 1) := by decide +kernel
theorem dX2_takesComparison_0 : decode cX2_takesComparison 0 = .ok (.aload_n 0, 1) := by decide +kernel
theorem dX2_takesComparison_1 : decode cX2_takesComparison 1 = .ok (.getfield 42, 3) := by decide +kernel
theorem dX2_takesComparison_4 : decode cX2_takesComparison 4 = .ok (.ifCond .ne 11, 3) := by decide +kernel
theorem dX2_takesComparison_7 : decode cX2_takesComparison 7 = .ok (.aload_n 0, 1) := by decide +kernel
theorem dX2_takesComparison_8 : decode cX2_takesComparison 8 = .ok (.getfield 39, 3) := by decide +kernel
theorem dX2_takesComparison_11 : decode cX2_takesComparison 11 = .ok (.iconst 2, 1) := by decide +kernel
theorem dX2_takesComparison_12 : decode cX2_takesComparison 12 = .ok (.if_icmp .ne 5, 3) := by decide +kernel
theorem dX2_takesComparison_15 : decode cX2_takesComparison 15 = .ok (.iconst 0, 1) := by decide +kernel
theorem dX2_takesComparison_16 : decode cX2_takesComparison 16 = .ok (.ireturn, 1) := by decide +kernel
theorem dX2_takesComparison_17 : decode cX2_takesComparison 17 = .ok (.aload_n 0, 1) := by decide +kernel
theorem dX2_takesComparison_18 : decode cX2_takesComparison 18 = .ok (.iconst 1, 1) := by decide +kernel
theorem dX2_takesComparison_19 : decode cX2_takesComparison 19 = .ok (.putfield 39, 3) := by decide +kernel
theorem dX2_takesComparison_22 : decode cX2_takesComparison 22 = .ok (.aload_n 0, 1) := by decide +kernel
theorem dX2_takesComparison_23 : decode cX2_takesComparison 23 = .ok (.iconst 1, 1) := by decide +kernel
theorem dX2_takesComparison_24 : decode cX2_takesComparison 24 = .ok (.putfield 42, 3) := by decide +kernel
theorem dX2_takesComparison_27 : decode cX2_takesComparison 27 = .ok (.aload_n 0, 1) := by decide +kernel
theorem dX2_takesComparison_28 : decode cX2_takesComparison 28 = .ok (.iload_n 1, 1) := by decide +kernel
theorem dX2_takesComparison_29 : decode cX2_takesComparison 29 = .ok (.iconst 3, 1) := by decide +kernel
theorem dX2_takesComparison_30 : decode cX2_takesComparison 30 = .ok (.invokevirtual 83, 3) := by decide +kernel
theorem dX2_takesComparison_33 : decode cX2_takesComparison 33 = .ok (.ireturn, 1) := by decide +kernel
theorem dX2_takesJoint_0 : decode cX2_takesJoint 0 = .ok (.aload_n 0, 1) := by decide +kernel
theorem dX2_takesJoint_1 : decode cX2_takesJoint 1 = .ok (.iconst 0, 1) := by decide +kernel
theorem dX2_takesJoint_2 : decode cX2_takesJoint 2 = .ok (.putfield 42, 3) := by decide +kernel
theorem dX2_takesJoint_5 : decode cX2_takesJoint 5 = .ok (.aload_n 0, 1) := by decide +kernel
theorem dX2_takesJoint_6 : decode cX2_takesJoint 6 = .ok (.iload_n 1, 1) := by decide +kernel
theorem dX2_takesJoint_7 : decode cX2_takesJoint 7 = .ok (.iconst 2, 1) := by decide +kernel
theorem dX2_takesJoint_8 : decode cX2_takesJoint 8 = .ok (.invokevirtual 83, 3) := by decide +kernel
theorem dX2_takesJoint_11 : decode cX2_takesJoint 11 = .ok (.ireturn, 1) := by decide +kernel
theorem dX2_closesBracket_0 : decode cX2_closesBracket 0 = .ok (.aload_n 0, 1) := by decide +kernel
theorem dX2_closesBracket_1 : decode cX2_closesBracket 1 = .ok (.iconst 1, 1) := by decide +kernel
theorem dX2_closesBracket_2 : decode cX2_closesBracket 2 = .ok (.invokevirtual 106, 3) := by decide +kernel
theorem dX2_closesBracket_5 : decode cX2_closesBracket 5 = .ok (.aload_n 0, 1) := by decide +kernel
theorem dX2_closesBracket_6 : decode cX2_closesBracket 6 = .ok (.getfield 24, 3) := by decide +kernel
theorem dX2_closesBracket_9 : decode cX2_closesBracket 9 = .ok (.ifCond .le 23, 3) := by decide +kernel
theorem dX2_closesBracket_12 : decode cX2_closesBracket 12 = .ok (.aload_n 0, 1) := by decide +kernel
theorem dX2_closesBracket_13 : decode cX2_closesBracket 13 = .ok (.dup, 1) := by decide +kernel
theorem dX2_closesBracket_14 : decode cX2_closesBracket 14 = .ok (.getfield 24, 3) := by decide +kernel
theorem dX2_closesBracket_17 : decode cX2_closesBracket 17 = .ok (.iconst 1, 1) := by decide +kernel
theorem dX2_closesBracket_18 : decode cX2_closesBracket 18 = .ok (.isub, 1) := by decide +kernel
theorem dX2_closesBracket_19 : decode cX2_closesBracket 19 = .ok (.putfield 24, 3) := by decide +kernel
theorem dX2_closesBracket_22 : decode cX2_closesBracket 22 = .ok (.aload_n 0, 1) := by decide +kernel
theorem dX2_closesBracket_23 : decode cX2_closesBracket 23 = .ok (.dup, 1) := by decide +kernel
theorem dX2_closesBracket_24 : decode cX2_closesBracket 24 = .ok (.getfield 27, 3) := by decide +kernel
theorem dX2_closesBracket_27 : decode cX2_closesBracket 27 = .ok (.iconst 1, 1) := by decide +kernel
theorem dX2_closesBracket_28 : decode cX2_closesBracket 28 = .ok (.isub, 1) := by decide +kernel
theorem dX2_closesBracket_29 : decode cX2_closesBracket 29 = .ok (.putfield 27, 3) := by decide +kernel
theorem dX2_closesBracket_32 : decode cX2_closesBracket 32 = .ok (.aload_n 0, 1) := by decide +kernel
theorem dX2_closesBracket_33 : decode cX2_closesBracket 33 = .ok (.iload_n 1, 1) := by decide +kernel
theorem dX2_closesBracket_34 : decode cX2_closesBracket 34 = .ok (.putfield 30, 3) := by decide +kernel
theorem dX2_closesBracket_37 : decode cX2_closesBracket 37 = .ok (.iconst 1, 1) := by decide +kernel
theorem dX2_closesBracket_38 : decode cX2_closesBracket 38 = .ok (.ireturn, 1) := by decide +kernel
theorem dX2_endsCondition_0 : decode cX2_endsCondition 0 = .ok (.aload_n 0, 1) := by decide +kernel
theorem dX2_endsCondition_1 : decode cX2_endsCondition 1 = .ok (.iconst 1, 1) := by decide +kernel
theorem dX2_endsCondition_2 : decode cX2_endsCondition 2 = .ok (.invokevirtual 106, 3) := by decide +kernel
theorem dX2_endsCondition_5 : decode cX2_endsCondition 5 = .ok (.aload_n 0, 1) := by decide +kernel
theorem dX2_endsCondition_6 : decode cX2_endsCondition 6 = .ok (.bipush (-63), 2) := by decide +kernel
theorem dX2_endsCondition_8 : decode cX2_endsCondition 8 = .ok (.invokevirtual 72, 3) := by decide +kernel
theorem dX2_endsCondition_11 : decode cX2_endsCondition 11 = .ok (.aload_n 0, 1) := by decide +kernel
theorem dX2_endsCondition_12 : decode cX2_endsCondition 12 = .ok (.iconst 2, 1) := by decide +kernel
theorem dX2_endsCondition_13 : decode cX2_endsCondition 13 = .ok (.putfield 39, 3) := by decide +kernel
theorem dX2_endsCondition_16 : decode cX2_endsCondition 16 = .ok (.aload_n 0, 1) := by decide +kernel
theorem dX2_endsCondition_17 : decode cX2_endsCondition 17 = .ok (.iconst 0, 1) := by decide +kernel
theorem dX2_endsCondition_18 : decode cX2_endsCondition 18 = .ok (.putfield 42, 3) := by decide +kernel
theorem dX2_endsCondition_21 : decode cX2_endsCondition 21 = .ok (.aload_n 0, 1) := by decide +kernel
theorem dX2_endsCondition_22 : decode cX2_endsCondition 22 = .ok (.iconst 3, 1) := by decide +kernel
theorem dX2_endsCondition_23 : decode cX2_endsCondition 23 = .ok (.putfield 30, 3) := by decide +kernel
theorem dX2_endsCondition_26 : decode cX2_endsCondition 26 = .ok (.iconst 1, 1) := by decide +kernel
theorem dX2_endsCondition_27 : decode cX2_endsCondition 27 = .ok (.ireturn, 1) := by decide +kernel
theorem dX2_endsSum_0 : decode cX2_endsSum 0 = .ok (.aload_n 0, 1) := by decide +kernel
theorem dX2_endsSum_1 : decode cX2_endsSum 1 = .ok (.iconst 1, 1) := by decide +kernel
theorem dX2_endsSum_2 : decode cX2_endsSum 2 = .ok (.invokevirtual 106, 3) := by decide +kernel
theorem dX2_endsSum_5 : decode cX2_endsSum 5 = .ok (.aload_n 0, 1) := by decide +kernel
theorem dX2_endsSum_6 : decode cX2_endsSum 6 = .ok (.bipush (-59), 2) := by decide +kernel
theorem dX2_endsSum_8 : decode cX2_endsSum 8 = .ok (.invokevirtual 72, 3) := by decide +kernel
theorem dX2_endsSum_11 : decode cX2_endsSum 11 = .ok (.aload_n 0, 1) := by decide +kernel
theorem dX2_endsSum_12 : decode cX2_endsSum 12 = .ok (.iconst 0, 1) := by decide +kernel
theorem dX2_endsSum_13 : decode cX2_endsSum 13 = .ok (.putfield 30, 3) := by decide +kernel
theorem dX2_endsSum_16 : decode cX2_endsSum 16 = .ok (.iconst 1, 1) := by decide +kernel
theorem dX2_endsSum_17 : decode cX2_endsSum 17 = .ok (.ireturn, 1) := by decide +kernel
theorem dX2_closes_0 : decode cX2_closes 0 = .ok (.aload_n 0, 1) := by decide +kernel
theorem dX2_closes_1 : decode cX2_closes 1 = .ok (.getfield 30, 3) := by decide +kernel
theorem dX2_closes_4 : decode cX2_closes 4 = .ok (.iconst 4, 1) := by decide +kernel
theorem dX2_closes_5 : decode cX2_closes 5 = .ok (.if_icmp .ne 30, 3) := by decide +kernel
theorem dX2_closes_8 : decode cX2_closes 8 = .ok (.aload_n 0, 1) := by decide +kernel
theorem dX2_closes_9 : decode cX2_closes 9 = .ok (.getfield 39, 3) := by decide +kernel
theorem dX2_closes_12 : decode cX2_closes 12 = .ok (.iconst 1, 1) := by decide +kernel
theorem dX2_closes_13 : decode cX2_closes 13 = .ok (.if_icmp .eq 22, 3) := by decide +kernel
theorem dX2_closes_16 : decode cX2_closes 16 = .ok (.aload_n 0, 1) := by decide +kernel
theorem dX2_closes_17 : decode cX2_closes 17 = .ok (.invokevirtual 79, 3) := by decide +kernel
theorem dX2_closes_20 : decode cX2_closes 20 = .ok (.iconst (-1), 1) := by decide +kernel
theorem dX2_closes_21 : decode cX2_closes 21 = .ok (.if_icmp .ne 14, 3) := by decide +kernel
theorem dX2_closes_24 : decode cX2_closes 24 = .ok (.aload_n 0, 1) := by decide +kernel
theorem dX2_closes_25 : decode cX2_closes 25 = .ok (.invokevirtual 100, 3) := by decide +kernel
theorem dX2_closes_28 : decode cX2_closes 28 = .ok (.ifCond .eq 7, 3) := by decide +kernel
theorem dX2_closes_31 : decode cX2_closes 31 = .ok (.iconst 1, 1) := by decide +kernel
theorem dX2_closes_32 : decode cX2_closes 32 = .ok (.goto 4, 3) := by decide +kernel
theorem dX2_closes_35 : decode cX2_closes 35 = .ok (.iconst 0, 1) := by decide +kernel
theorem dX2_closes_36 : decode cX2_closes 36 = .ok (.ireturn, 1) := by decide +kernel
theorem dX2_enclosing_0 : decode cX2_enclosing 0 = .ok (.aload_n 0, 1) := by decide +kernel
theorem dX2_enclosing_1 : decode cX2_enclosing 1 = .ok (.getfield 24, 3) := by decide +kernel
theorem dX2_enclosing_4 : decode cX2_enclosing 4 = .ok (.iconst 1, 1) := by decide +kernel
theorem dX2_enclosing_5 : decode cX2_enclosing 5 = .ok (.isub, 1) := by decide +kernel
theorem dX2_enclosing_6 : decode cX2_enclosing 6 = .ok (.istore_n 1, 1) := by decide +kernel
theorem dX2_enclosing_7 : decode cX2_enclosing 7 = .ok (.iload_n 1, 1) := by decide +kernel
theorem dX2_enclosing_8 : decode cX2_enclosing 8 = .ok (.ifCond .lt 38, 3) := by decide +kernel
theorem dX2_enclosing_11 : decode cX2_enclosing 11 = .ok (.aload_n 0, 1) := by decide +kernel
theorem dX2_enclosing_12 : decode cX2_enclosing 12 = .ok (.getfield 17, 3) := by decide +kernel
theorem dX2_enclosing_15 : decode cX2_enclosing 15 = .ok (.iload_n 1, 1) := by decide +kernel
theorem dX2_enclosing_16 : decode cX2_enclosing 16 = .ok (.iaload, 1) := by decide +kernel
theorem dX2_enclosing_17 : decode cX2_enclosing 17 = .ok (.bipush 40, 2) := by decide +kernel
theorem dX2_enclosing_19 : decode cX2_enclosing 19 = .ok (.if_icmp .eq 14, 3) := by decide +kernel
theorem dX2_enclosing_22 : decode cX2_enclosing 22 = .ok (.aload_n 0, 1) := by decide +kernel
theorem dX2_enclosing_23 : decode cX2_enclosing 23 = .ok (.getfield 17, 3) := by decide +kernel
theorem dX2_enclosing_26 : decode cX2_enclosing 26 = .ok (.iload_n 1, 1) := by decide +kernel
theorem dX2_enclosing_27 : decode cX2_enclosing 27 = .ok (.iaload, 1) := by decide +kernel
theorem dX2_enclosing_28 : decode cX2_enclosing 28 = .ok (.bipush 91, 2) := by decide +kernel
theorem dX2_enclosing_30 : decode cX2_enclosing 30 = .ok (.if_icmp .ne 10, 3) := by decide +kernel
theorem dX2_enclosing_33 : decode cX2_enclosing 33 = .ok (.aload_n 0, 1) := by decide +kernel
theorem dX2_enclosing_34 : decode cX2_enclosing 34 = .ok (.getfield 17, 3) := by decide +kernel
theorem dX2_enclosing_37 : decode cX2_enclosing 37 = .ok (.iload_n 1, 1) := by decide +kernel
theorem dX2_enclosing_38 : decode cX2_enclosing 38 = .ok (.iaload, 1) := by decide +kernel
theorem dX2_enclosing_39 : decode cX2_enclosing 39 = .ok (.ireturn, 1) := by decide +kernel
theorem dX2_enclosing_40 : decode cX2_enclosing 40 = .ok (.iinc 1 (-1), 3) := by decide +kernel
theorem dX2_enclosing_43 : decode cX2_enclosing 43 = .ok (.goto (-36), 3) := by decide +kernel
theorem dX2_enclosing_46 : decode cX2_enclosing 46 = .ok (.iconst (-1), 1) := by decide +kernel
theorem dX2_enclosing_47 : decode cX2_enclosing 47 = .ok (.ireturn, 1) := by decide +kernel
theorem dX2_writeWaiting_0 : decode cX2_writeWaiting 0 = .ok (.aload_n 0, 1) := by decide +kernel
theorem dX2_writeWaiting_1 : decode cX2_writeWaiting 1 = .ok (.getfield 24, 3) := by decide +kernel
theorem dX2_writeWaiting_4 : decode cX2_writeWaiting 4 = .ok (.ifCond .le 72, 3) := by decide +kernel
theorem dX2_writeWaiting_7 : decode cX2_writeWaiting 7 = .ok (.aload_n 0, 1) := by decide +kernel
theorem dX2_writeWaiting_8 : decode cX2_writeWaiting 8 = .ok (.getfield 17, 3) := by decide +kernel
theorem dX2_writeWaiting_11 : decode cX2_writeWaiting 11 = .ok (.aload_n 0, 1) := by decide +kernel
theorem dX2_writeWaiting_12 : decode cX2_writeWaiting 12 = .ok (.getfield 24, 3) := by decide +kernel
theorem dX2_writeWaiting_15 : decode cX2_writeWaiting 15 = .ok (.iconst 1, 1) := by decide +kernel
theorem dX2_writeWaiting_16 : decode cX2_writeWaiting 16 = .ok (.isub, 1) := by decide +kernel
theorem dX2_writeWaiting_17 : decode cX2_writeWaiting 17 = .ok (.iaload, 1) := by decide +kernel
theorem dX2_writeWaiting_18 : decode cX2_writeWaiting 18 = .ok (.invokestatic 103, 3) := by decide +kernel
theorem dX2_writeWaiting_21 : decode cX2_writeWaiting 21 = .ok (.iload_n 1, 1) := by decide +kernel
theorem dX2_writeWaiting_22 : decode cX2_writeWaiting 22 = .ok (.if_icmp .lt 54, 3) := by decide +kernel
theorem dX2_writeWaiting_25 : decode cX2_writeWaiting 25 = .ok (.aload_n 0, 1) := by decide +kernel
theorem dX2_writeWaiting_26 : decode cX2_writeWaiting 26 = .ok (.dup, 1) := by decide +kernel
theorem dX2_writeWaiting_27 : decode cX2_writeWaiting 27 = .ok (.getfield 24, 3) := by decide +kernel
theorem dX2_writeWaiting_30 : decode cX2_writeWaiting 30 = .ok (.iconst 1, 1) := by decide +kernel
theorem dX2_writeWaiting_31 : decode cX2_writeWaiting 31 = .ok (.isub, 1) := by decide +kernel
theorem dX2_writeWaiting_32 : decode cX2_writeWaiting 32 = .ok (.putfield 24, 3) := by decide +kernel
theorem dX2_writeWaiting_35 : decode cX2_writeWaiting 35 = .ok (.aload_n 0, 1) := by decide +kernel
theorem dX2_writeWaiting_36 : decode cX2_writeWaiting 36 = .ok (.getfield 17, 3) := by decide +kernel
theorem dX2_writeWaiting_39 : decode cX2_writeWaiting 39 = .ok (.aload_n 0, 1) := by decide +kernel
theorem dX2_writeWaiting_40 : decode cX2_writeWaiting 40 = .ok (.getfield 24, 3) := by decide +kernel
theorem dX2_writeWaiting_43 : decode cX2_writeWaiting 43 = .ok (.iaload, 1) := by decide +kernel
theorem dX2_writeWaiting_44 : decode cX2_writeWaiting 44 = .ok (.bipush 33, 2) := by decide +kernel
theorem dX2_writeWaiting_46 : decode cX2_writeWaiting 46 = .ok (.if_icmp .ne 13, 3) := by decide +kernel
theorem dX2_writeWaiting_49 : decode cX2_writeWaiting 49 = .ok (.aload_n 0, 1) := by decide +kernel
theorem dX2_writeWaiting_50 : decode cX2_writeWaiting 50 = .ok (.dup, 1) := by decide +kernel
theorem dX2_writeWaiting_51 : decode cX2_writeWaiting 51 = .ok (.getfield 27, 3) := by decide +kernel
theorem dX2_writeWaiting_54 : decode cX2_writeWaiting 54 = .ok (.iconst 1, 1) := by decide +kernel
theorem dX2_writeWaiting_55 : decode cX2_writeWaiting 55 = .ok (.isub, 1) := by decide +kernel
theorem dX2_writeWaiting_56 : decode cX2_writeWaiting 56 = .ok (.putfield 27, 3) := by decide +kernel
theorem dX2_writeWaiting_59 : decode cX2_writeWaiting 59 = .ok (.aload_n 0, 1) := by decide +kernel
theorem dX2_writeWaiting_60 : decode cX2_writeWaiting 60 = .ok (.aload_n 0, 1) := by decide +kernel
theorem dX2_writeWaiting_61 : decode cX2_writeWaiting 61 = .ok (.getfield 17, 3) := by decide +kernel
theorem dX2_writeWaiting_64 : decode cX2_writeWaiting 64 = .ok (.aload_n 0, 1) := by decide +kernel
theorem dX2_writeWaiting_65 : decode cX2_writeWaiting 65 = .ok (.getfield 24, 3) := by decide +kernel
theorem dX2_writeWaiting_68 : decode cX2_writeWaiting 68 = .ok (.iaload, 1) := by decide +kernel
theorem dX2_writeWaiting_69 : decode cX2_writeWaiting 69 = .ok (.ineg, 1) := by decide +kernel
theorem dX2_writeWaiting_70 : decode cX2_writeWaiting 70 = .ok (.invokevirtual 72, 3) := by decide +kernel
theorem dX2_writeWaiting_73 : decode cX2_writeWaiting 73 = .ok (.goto (-73), 3) := by decide +kernel
theorem dX2_writeWaiting_76 : decode cX2_writeWaiting 76 = .ok (.return_, 1) := by decide +kernel
theorem dX2_await_0 : decode cX2_await 0 = .ok (.aload_n 0, 1) := by decide +kernel
theorem dX2_await_1 : decode cX2_await 1 = .ok (.getfield 24, 3) := by decide +kernel
theorem dX2_await_4 : decode cX2_await 4 = .ok (.aload_n 0, 1) := by decide +kernel
theorem dX2_await_5 : decode cX2_await 5 = .ok (.getfield 17, 3) := by decide +kernel
theorem dX2_await_8 : decode cX2_await 8 = .ok (.arraylength, 1) := by decide +kernel
theorem dX2_await_9 : decode cX2_await 9 = .ok (.if_icmp .ge 23, 3) := by decide +kernel
theorem dX2_await_12 : decode cX2_await 12 = .ok (.aload_n 0, 1) := by decide +kernel
theorem dX2_await_13 : decode cX2_await 13 = .ok (.getfield 17, 3) := by decide +kernel
theorem dX2_await_16 : decode cX2_await 16 = .ok (.aload_n 0, 1) := by decide +kernel
theorem dX2_await_17 : decode cX2_await 17 = .ok (.getfield 24, 3) := by decide +kernel
theorem dX2_await_20 : decode cX2_await 20 = .ok (.iload_n 1, 1) := by decide +kernel
theorem dX2_await_21 : decode cX2_await 21 = .ok (.iastore, 1) := by decide +kernel
theorem dX2_await_22 : decode cX2_await 22 = .ok (.aload_n 0, 1) := by decide +kernel
theorem dX2_await_23 : decode cX2_await 23 = .ok (.dup, 1) := by decide +kernel
theorem dX2_await_24 : decode cX2_await 24 = .ok (.getfield 24, 3) := by decide +kernel
theorem dX2_await_27 : decode cX2_await 27 = .ok (.iconst 1, 1) := by decide +kernel
theorem dX2_await_28 : decode cX2_await 28 = .ok (.iadd, 1) := by decide +kernel
theorem dX2_await_29 : decode cX2_await 29 = .ok (.putfield 24, 3) := by decide +kernel
theorem dX2_await_32 : decode cX2_await 32 = .ok (.return_, 1) := by decide +kernel
theorem dX2_write_0 : decode cX2_write 0 = .ok (.aload_n 0, 1) := by decide +kernel
theorem dX2_write_1 : decode cX2_write 1 = .ok (.getfield 20, 3) := by decide +kernel
theorem dX2_write_4 : decode cX2_write 4 = .ok (.aload_n 0, 1) := by decide +kernel
theorem dX2_write_5 : decode cX2_write 5 = .ok (.getfield 11, 3) := by decide +kernel
theorem dX2_write_8 : decode cX2_write 8 = .ok (.arraylength, 1) := by decide +kernel
theorem dX2_write_9 : decode cX2_write 9 = .ok (.if_icmp .ge 23, 3) := by decide +kernel
theorem dX2_write_12 : decode cX2_write 12 = .ok (.aload_n 0, 1) := by decide +kernel
theorem dX2_write_13 : decode cX2_write 13 = .ok (.getfield 11, 3) := by decide +kernel
theorem dX2_write_16 : decode cX2_write 16 = .ok (.aload_n 0, 1) := by decide +kernel
theorem dX2_write_17 : decode cX2_write 17 = .ok (.getfield 20, 3) := by decide +kernel
theorem dX2_write_20 : decode cX2_write 20 = .ok (.iload_n 1, 1) := by decide +kernel
theorem dX2_write_21 : decode cX2_write 21 = .ok (.iastore, 1) := by decide +kernel
theorem dX2_write_22 : decode cX2_write 22 = .ok (.aload_n 0, 1) := by decide +kernel
theorem dX2_write_23 : decode cX2_write 23 = .ok (.dup, 1) := by decide +kernel
theorem dX2_write_24 : decode cX2_write 24 = .ok (.getfield 20, 3) := by decide +kernel
theorem dX2_write_27 : decode cX2_write 27 = .ok (.iconst 1, 1) := by decide +kernel
theorem dX2_write_28 : decode cX2_write 28 = .ok (.iadd, 1) := by decide +kernel
theorem dX2_write_29 : decode cX2_write 29 = .ok (.putfield 20, 3) := by decide +kernel
theorem dX2_write_32 : decode cX2_write 32 = .ok (.return_, 1) := by decide +kernel
theorem dX2_rank_0 : decode cX2_rank 0 = .ok (.iload_n 0, 1) := by decide +kernel
theorem dX2_rank_1 : decode cX2_rank 1 = .ok (.lookupswitch 104 #[(33, 98), (38, 100), (42, 91), (43, 94), (45, 94), (47, 91), (60, 96), (61, 96), (62, 96), (124, 102)], 91) := by decide +kernel
theorem dX2_rank_92 : decode cX2_rank 92 = .ok (.bipush 6, 2) := by decide +kernel
theorem dX2_rank_94 : decode cX2_rank 94 = .ok (.ireturn, 1) := by decide +kernel
theorem dX2_rank_95 : decode cX2_rank 95 = .ok (.iconst 5, 1) := by decide +kernel
theorem dX2_rank_96 : decode cX2_rank 96 = .ok (.ireturn, 1) := by decide +kernel
theorem dX2_rank_97 : decode cX2_rank 97 = .ok (.iconst 4, 1) := by decide +kernel
theorem dX2_rank_98 : decode cX2_rank 98 = .ok (.ireturn, 1) := by decide +kernel
theorem dX2_rank_99 : decode cX2_rank 99 = .ok (.iconst 3, 1) := by decide +kernel
theorem dX2_rank_100 : decode cX2_rank 100 = .ok (.ireturn, 1) := by decide +kernel
theorem dX2_rank_101 : decode cX2_rank 101 = .ok (.iconst 2, 1) := by decide +kernel
theorem dX2_rank_102 : decode cX2_rank 102 = .ok (.ireturn, 1) := by decide +kernel
theorem dX2_rank_103 : decode cX2_rank 103 = .ok (.iconst 1, 1) := by decide +kernel
theorem dX2_rank_104 : decode cX2_rank 104 = .ok (.ireturn, 1) := by decide +kernel
theorem dX2_rank_105 : decode cX2_rank 105 = .ok (.iconst 0, 1) := by decide +kernel
theorem dX2_rank_106 : decode cX2_rank 106 = .ok (.ireturn, 1) := by decide +kernel
theorem dX3_init_0 : decode cX3_init 0 = .ok (.aload_n 0, 1) := by decide +kernel
theorem dX3_init_1 : decode cX3_init 1 = .ok (.invokespecial 3, 3) := by decide +kernel
theorem dX3_init_4 : decode cX3_init 4 = .ok (.aload_n 0, 1) := by decide +kernel
theorem dX3_init_5 : decode cX3_init 5 = .ok (.iconst 4, 1) := by decide +kernel
theorem dX3_init_6 : decode cX3_init 6 = .ok (.iconst 0, 1) := by decide +kernel
theorem dX3_init_7 : decode cX3_init 7 = .ok (.multianewarray 9 2, 4) := by decide +kernel
theorem dX3_init_11 : decode cX3_init 11 = .ok (.putfield 11, 3) := by decide +kernel
theorem dX3_init_14 : decode cX3_init 14 = .ok (.aload_n 0, 1) := by decide +kernel
theorem dX3_init_15 : decode cX3_init 15 = .ok (.ldc 16, 2) := by decide +kernel
theorem dX3_init_17 : decode cX3_init 17 = .ok (.invokevirtual 18, 3) := by decide +kernel
theorem dX3_init_20 : decode cX3_init 20 = .ok (.newarray .int, 2) := by decide +kernel
theorem dX3_init_22 : decode cX3_init 22 = .ok (.putfield 24, 3) := by decide +kernel
theorem dX3_init_25 : decode cX3_init 25 = .ok (.aload_n 0, 1) := by decide +kernel
theorem dX3_init_26 : decode cX3_init 26 = .ok (.bipush 64, 2) := by decide +kernel
theorem dX3_init_28 : decode cX3_init 28 = .ok (.newarray .int, 2) := by decide +kernel
theorem dX3_init_30 : decode cX3_init 30 = .ok (.putfield 28, 3) := by decide +kernel
theorem dX3_init_33 : decode cX3_init 33 = .ok (.aload_n 0, 1) := by decide +kernel
theorem dX3_init_34 : decode cX3_init 34 = .ok (.iconst (-1), 1) := by decide +kernel
theorem dX3_init_35 : decode cX3_init 35 = .ok (.putfield 31, 3) := by decide +kernel
theorem dX3_init_38 : decode cX3_init 38 = .ok (.return_, 1) := by decide +kernel
theorem dX3_add_0 : decode cX3_add 0 = .ok (.aload_n 0, 1) := by decide +kernel
theorem dX3_add_1 : decode cX3_add 1 = .ok (.getfield 35, 3) := by decide +kernel
theorem dX3_add_4 : decode cX3_add 4 = .ok (.iconst 4, 1) := by decide +kernel
theorem dX3_add_5 : decode cX3_add 5 = .ok (.if_icmp .lt 5, 3) := by decide +kernel
theorem dX3_add_8 : decode cX3_add 8 = .ok (.iconst (-1), 1) := by decide +kernel
theorem dX3_add_9 : decode cX3_add 9 = .ok (.ireturn, 1) := by decide +kernel
theorem dX3_add_10 : decode cX3_add 10 = .ok (.aload_n 0, 1) := by decide +kernel
theorem dX3_add_11 : decode cX3_add 11 = .ok (.getfield 11, 3) := by decide +kernel
theorem dX3_add_14 : decode cX3_add 14 = .ok (.aload_n 0, 1) := by decide +kernel
theorem dX3_add_15 : decode cX3_add 15 = .ok (.getfield 35, 3) := by decide +kernel
theorem dX3_add_18 : decode cX3_add 18 = .ok (.aload_n 1, 1) := by decide +kernel
theorem dX3_add_19 : decode cX3_add 19 = .ok (.invokevirtual 38, 3) := by decide +kernel
theorem dX3_add_22 : decode cX3_add 22 = .ok (.aastore, 1) := by decide +kernel
theorem dX3_add_23 : decode cX3_add 23 = .ok (.aload_n 0, 1) := by decide +kernel
theorem dX3_add_24 : decode cX3_add 24 = .ok (.dup, 1) := by decide +kernel
theorem dX3_add_25 : decode cX3_add 25 = .ok (.getfield 35, 3) := by decide +kernel
theorem dX3_add_28 : decode cX3_add 28 = .ok (.iconst 1, 1) := by decide +kernel
theorem dX3_add_29 : decode cX3_add 29 = .ok (.iadd, 1) := by decide +kernel
theorem dX3_add_30 : decode cX3_add 30 = .ok (.putfield 35, 3) := by decide +kernel
theorem dX3_add_33 : decode cX3_add 33 = .ok (.aload_n 0, 1) := by decide +kernel
theorem dX3_add_34 : decode cX3_add 34 = .ok (.getfield 35, 3) := by decide +kernel
theorem dX3_add_37 : decode cX3_add 37 = .ok (.iconst 1, 1) := by decide +kernel
theorem dX3_add_38 : decode cX3_add 38 = .ok (.isub, 1) := by decide +kernel
theorem dX3_add_39 : decode cX3_add 39 = .ok (.ireturn, 1) := by decide +kernel
theorem dX3_hear_0 : decode cX3_hear 0 = .ok (.aload_n 0, 1) := by decide +kernel
theorem dX3_hear_1 : decode cX3_hear 1 = .ok (.getfield 24, 3) := by decide +kernel
theorem dX3_hear_4 : decode cX3_hear 4 = .ok (.iconst 0, 1) := by decide +kernel
theorem dX3_hear_5 : decode cX3_hear 5 = .ok (.iload_n 1, 1) := by decide +kernel
theorem dX3_hear_6 : decode cX3_hear 6 = .ok (.iastore, 1) := by decide +kernel
theorem dX3_hear_7 : decode cX3_hear 7 = .ok (.aload_n 0, 1) := by decide +kernel
theorem dX3_hear_8 : decode cX3_hear 8 = .ok (.getfield 24, 3) := by decide +kernel
theorem dX3_hear_11 : decode cX3_hear 11 = .ok (.iconst 1, 1) := by decide +kernel
theorem dX3_hear_12 : decode cX3_hear 12 = .ok (.iload_n 2, 1) := by decide +kernel
theorem dX3_hear_13 : decode cX3_hear 13 = .ok (.iastore, 1) := by decide +kernel
theorem dX3_hear_14 : decode cX3_hear 14 = .ok (.aload_n 0, 1) := by decide +kernel
theorem dX3_hear_15 : decode cX3_hear 15 = .ok (.getfield 24, 3) := by decide +kernel
theorem dX3_hear_18 : decode cX3_hear 18 = .ok (.iconst 2, 1) := by decide +kernel
theorem dX3_hear_19 : decode cX3_hear 19 = .ok (.iload_n 3, 1) := by decide +kernel
theorem dX3_hear_20 : decode cX3_hear 20 = .ok (.iastore, 1) := by decide +kernel
theorem dX3_hear_21 : decode cX3_hear 21 = .ok (.aload_n 0, 1) := by decide +kernel
theorem dX3_hear_22 : decode cX3_hear 22 = .ok (.getfield 24, 3) := by decide +kernel
theorem dX3_hear_25 : decode cX3_hear 25 = .ok (.iconst 3, 1) := by decide +kernel
theorem dX3_hear_26 : decode cX3_hear 26 = .ok (.iload 4, 2) := by decide +kernel
theorem dX3_hear_28 : decode cX3_hear 28 = .ok (.iastore, 1) := by decide +kernel
theorem dX3_hear_29 : decode cX3_hear 29 = .ok (.aload_n 0, 1) := by decide +kernel
theorem dX3_hear_30 : decode cX3_hear 30 = .ok (.getfield 24, 3) := by decide +kernel
theorem dX3_hear_33 : decode cX3_hear 33 = .ok (.iconst 4, 1) := by decide +kernel
theorem dX3_hear_34 : decode cX3_hear 34 = .ok (.iload 5, 2) := by decide +kernel
theorem dX3_hear_36 : decode cX3_hear 36 = .ok (.iastore, 1) := by decide +kernel
theorem dX3_hear_37 : decode cX3_hear 37 = .ok (.aload_n 0, 1) := by decide +kernel
theorem dX3_hear_38 : decode cX3_hear 38 = .ok (.getfield 24, 3) := by decide +kernel
theorem dX3_hear_41 : decode cX3_hear 41 = .ok (.iconst 5, 1) := by decide +kernel
theorem dX3_hear_42 : decode cX3_hear 42 = .ok (.iload 6, 2) := by decide +kernel
theorem dX3_hear_44 : decode cX3_hear 44 = .ok (.iastore, 1) := by decide +kernel
theorem dX3_hear_45 : decode cX3_hear 45 = .ok (.return_, 1) := by decide +kernel
theorem dX3_worth_0 : decode cX3_worth 0 = .ok (.aload_n 0, 1) := by decide +kernel
theorem dX3_worth_1 : decode cX3_worth 1 = .ok (.getfield 31, 3) := by decide +kernel
theorem dX3_worth_4 : decode cX3_worth 4 = .ok (.ifCond .lt 14, 3) := by decide +kernel
theorem dX3_worth_7 : decode cX3_worth 7 = .ok (.aload_n 0, 1) := by decide +kernel
theorem dX3_worth_8 : decode cX3_worth 8 = .ok (.getfield 31, 3) := by decide +kernel
theorem dX3_worth_11 : decode cX3_worth 11 = .ok (.aload_n 0, 1) := by decide +kernel
theorem dX3_worth_12 : decode cX3_worth 12 = .ok (.getfield 35, 3) := by decide +kernel
theorem dX3_worth_15 : decode cX3_worth 15 = .ok (.if_icmp .lt 5, 3) := by decide +kernel
theorem dX3_worth_18 : decode cX3_worth 18 = .ok (.iconst 0, 1) := by decide +kernel
theorem dX3_worth_19 : decode cX3_worth 19 = .ok (.ireturn, 1) := by decide +kernel
theorem dX3_worth_20 : decode cX3_worth 20 = .ok (.aload_n 0, 1) := by decide +kernel
theorem dX3_worth_21 : decode cX3_worth 21 = .ok (.getfield 11, 3) := by decide +kernel
theorem dX3_worth_24 : decode cX3_worth 24 = .ok (.aload_n 0, 1) := by decide +kernel
theorem dX3_worth_25 : decode cX3_worth 25 = .ok (.getfield 31, 3) := by decide +kernel
theorem dX3_worth_28 : decode cX3_worth 28 = .ok (.aaload, 1) := by decide +kernel
theorem dX3_worth_29 : decode cX3_worth 29 = .ok (.astore_n 1, 1) := by decide +kernel
theorem dX3_worth_30 : decode cX3_worth 30 = .ok (.iconst 0, 1) := by decide +kernel
theorem dX3_worth_31 : decode cX3_worth 31 = .ok (.istore_n 2, 1) := by decide +kernel
theorem dX3_worth_32 : decode cX3_worth 32 = .ok (.iconst 0, 1) := by decide +kernel
theorem dX3_worth_33 : decode cX3_worth 33 = .ok (.istore_n 3, 1) := by decide +kernel
theorem dX3_worth_34 : decode cX3_worth 34 = .ok (.iconst 0, 1) := by decide +kernel
theorem dX3_worth_35 : decode cX3_worth 35 = .ok (.istore 4, 2) := by decide +kernel
theorem dX3_worth_37 : decode cX3_worth 37 = .ok (.iload 4, 2) := by decide +kernel
theorem dX3_worth_39 : decode cX3_worth 39 = .ok (.aload_n 1, 1) := by decide +kernel
theorem dX3_worth_40 : decode cX3_worth 40 = .ok (.arraylength, 1) := by decide +kernel
theorem dX3_worth_41 : decode cX3_worth 41 = .ok (.if_icmp .ge 205, 3) := by decide +kernel
theorem dX3_worth_44 : decode cX3_worth 44 = .ok (.aload_n 1, 1) := by decide +kernel
theorem dX3_worth_45 : decode cX3_worth 45 = .ok (.iload 4, 2) := by decide +kernel
theorem dX3_worth_47 : decode cX3_worth 47 = .ok (.iaload, 1) := by decide +kernel
theorem dX3_worth_48 : decode cX3_worth 48 = .ok (.istore 5, 2) := by decide +kernel
theorem dX3_worth_50 : decode cX3_worth 50 = .ok (.iload_n 3, 1) := by decide +kernel
theorem dX3_worth_51 : decode cX3_worth 51 = .ok (.ifCond .eq 19, 3) := by decide +kernel
theorem dX3_worth_54 : decode cX3_worth 54 = .ok (.iload 5, 2) := by decide +kernel
theorem dX3_worth_56 : decode cX3_worth 56 = .ok (.bipush (-59), 2) := by decide +kernel
theorem dX3_worth_58 : decode cX3_worth 58 = .ok (.if_icmp .eq 7, 3) := by decide +kernel
theorem dX3_worth_61 : decode cX3_worth 61 = .ok (.iconst 1, 1) := by decide +kernel
theorem dX3_worth_62 : decode cX3_worth 62 = .ok (.goto 4, 3) := by decide +kernel
theorem dX3_worth_65 : decode cX3_worth 65 = .ok (.iconst 0, 1) := by decide +kernel
theorem dX3_worth_66 : decode cX3_worth 66 = .ok (.istore_n 3, 1) := by decide +kernel
theorem dX3_worth_67 : decode cX3_worth 67 = .ok (.goto 173, 3) := by decide +kernel
theorem dX3_worth_70 : decode cX3_worth 70 = .ok (.iload 5, 2) := by decide +kernel
theorem dX3_worth_72 : decode cX3_worth 72 = .ok (.aload_n 0, 1) := by decide +kernel
theorem dX3_worth_73 : decode cX3_worth 73 = .ok (.getfield 24, 3) := by decide +kernel
theorem dX3_worth_76 : decode cX3_worth 76 = .ok (.arraylength, 1) := by decide +kernel
theorem dX3_worth_77 : decode cX3_worth 77 = .ok (.ineg, 1) := by decide +kernel
theorem dX3_worth_78 : decode cX3_worth 78 = .ok (.if_icmp .lt 40, 3) := by decide +kernel
theorem dX3_worth_81 : decode cX3_worth 81 = .ok (.iload_n 2, 1) := by decide +kernel
theorem dX3_worth_82 : decode cX3_worth 82 = .ok (.bipush 64, 2) := by decide +kernel
theorem dX3_worth_84 : decode cX3_worth 84 = .ok (.if_icmp .ge 156, 3) := by decide +kernel
theorem dX3_worth_87 : decode cX3_worth 87 = .ok (.aload_n 0, 1) := by decide +kernel
theorem dX3_worth_88 : decode cX3_worth 88 = .ok (.getfield 28, 3) := by decide +kernel
theorem dX3_worth_91 : decode cX3_worth 91 = .ok (.iload_n 2, 1) := by decide +kernel
theorem dX3_worth_92 : decode cX3_worth 92 = .ok (.iload 5, 2) := by decide +kernel
theorem dX3_worth_94 : decode cX3_worth 94 = .ok (.ifCond .lt 8, 3) := by decide +kernel
theorem dX3_worth_97 : decode cX3_worth 97 = .ok (.iload 5, 2) := by decide +kernel
theorem dX3_worth_99 : decode cX3_worth 99 = .ok (.goto 12, 3) := by decide +kernel
theorem dX3_worth_102 : decode cX3_worth 102 = .ok (.aload_n 0, 1) := by decide +kernel
theorem dX3_worth_103 : decode cX3_worth 103 = .ok (.getfield 24, 3) := by decide +kernel
theorem dX3_worth_106 : decode cX3_worth 106 = .ok (.iconst (-1), 1) := by decide +kernel
theorem dX3_worth_107 : decode cX3_worth 107 = .ok (.iload 5, 2) := by decide +kernel
theorem dX3_worth_109 : decode cX3_worth 109 = .ok (.isub, 1) := by decide +kernel
theorem dX3_worth_110 : decode cX3_worth 110 = .ok (.iaload, 1) := by decide +kernel
theorem dX3_worth_111 : decode cX3_worth 111 = .ok (.iastore, 1) := by decide +kernel
theorem dX3_worth_112 : decode cX3_worth 112 = .ok (.iinc 2 1, 3) := by decide +kernel
theorem dX3_worth_115 : decode cX3_worth 115 = .ok (.goto 125, 3) := by decide +kernel
theorem dX3_worth_118 : decode cX3_worth 118 = .ok (.iload 5, 2) := by decide +kernel
theorem dX3_worth_120 : decode cX3_worth 120 = .ok (.bipush (-59), 2) := by decide +kernel
theorem dX3_worth_122 : decode cX3_worth 122 = .ok (.if_icmp .eq 8, 3) := by decide +kernel
theorem dX3_worth_125 : decode cX3_worth 125 = .ok (.iload_n 2, 1) := by decide +kernel
theorem dX3_worth_126 : decode cX3_worth 126 = .ok (.iconst 1, 1) := by decide +kernel
theorem dX3_worth_127 : decode cX3_worth 127 = .ok (.if_icmp .ge 21, 3) := by decide +kernel
theorem dX3_worth_130 : decode cX3_worth 130 = .ok (.iload_n 2, 1) := by decide +kernel
theorem dX3_worth_131 : decode cX3_worth 131 = .ok (.iconst 1, 1) := by decide +kernel
theorem dX3_worth_132 : decode cX3_worth 132 = .ok (.if_icmp .ge 7, 3) := by decide +kernel
theorem dX3_worth_135 : decode cX3_worth 135 = .ok (.iconst 0, 1) := by decide +kernel
theorem dX3_worth_136 : decode cX3_worth 136 = .ok (.goto 11, 3) := by decide +kernel
theorem dX3_worth_139 : decode cX3_worth 139 = .ok (.aload_n 0, 1) := by decide +kernel
theorem dX3_worth_140 : decode cX3_worth 140 = .ok (.getfield 28, 3) := by decide +kernel
theorem dX3_worth_143 : decode cX3_worth 143 = .ok (.iload_n 2, 1) := by decide +kernel
theorem dX3_worth_144 : decode cX3_worth 144 = .ok (.iconst 1, 1) := by decide +kernel
theorem dX3_worth_145 : decode cX3_worth 145 = .ok (.isub, 1) := by decide +kernel
theorem dX3_worth_146 : decode cX3_worth 146 = .ok (.iaload, 1) := by decide +kernel
theorem dX3_worth_147 : decode cX3_worth 147 = .ok (.ireturn, 1) := by decide +kernel
theorem dX3_worth_148 : decode cX3_worth 148 = .ok (.iload 5, 2) := by decide +kernel
theorem dX3_worth_150 : decode cX3_worth 150 = .ok (.bipush (-33), 2) := by decide +kernel
theorem dX3_worth_152 : decode cX3_worth 152 = .ok (.if_icmp .ne 24, 3) := by decide +kernel
theorem dX3_worth_155 : decode cX3_worth 155 = .ok (.aload_n 0, 1) := by decide +kernel
theorem dX3_worth_156 : decode cX3_worth 156 = .ok (.getfield 28, 3) := by decide +kernel
theorem dX3_worth_159 : decode cX3_worth 159 = .ok (.iload_n 2, 1) := by decide +kernel
theorem dX3_worth_160 : decode cX3_worth 160 = .ok (.iconst 1, 1) := by decide +kernel
theorem dX3_worth_161 : decode cX3_worth 161 = .ok (.isub, 1) := by decide +kernel
theorem dX3_worth_162 : decode cX3_worth 162 = .ok (.iconst 1, 1) := by decide +kernel
theorem dX3_worth_163 : decode cX3_worth 163 = .ok (.aload_n 0, 1) := by decide +kernel
theorem dX3_worth_164 : decode cX3_worth 164 = .ok (.getfield 28, 3) := by decide +kernel
theorem dX3_worth_167 : decode cX3_worth 167 = .ok (.iload_n 2, 1) := by decide +kernel
theorem dX3_worth_168 : decode cX3_worth 168 = .ok (.iconst 1, 1) := by decide +kernel
theorem dX3_worth_169 : decode cX3_worth 169 = .ok (.isub, 1) := by decide +kernel
theorem dX3_worth_170 : decode cX3_worth 170 = .ok (.iaload, 1) := by decide +kernel
theorem dX3_worth_171 : decode cX3_worth 171 = .ok (.isub, 1) := by decide +kernel
theorem dX3_worth_172 : decode cX3_worth 172 = .ok (.iastore, 1) := by decide +kernel
theorem dX3_worth_173 : decode cX3_worth 173 = .ok (.goto 67, 3) := by decide +kernel
theorem dX3_worth_176 : decode cX3_worth 176 = .ok (.iload 5, 2) := by decide +kernel
theorem dX3_worth_178 : decode cX3_worth 178 = .ok (.bipush (-63), 2) := by decide +kernel
theorem dX3_worth_180 : decode cX3_worth 180 = .ok (.if_icmp .ne 24, 3) := by decide +kernel
theorem dX3_worth_183 : decode cX3_worth 183 = .ok (.iinc 2 (-1), 3) := by decide +kernel
theorem dX3_worth_186 : decode cX3_worth 186 = .ok (.aload_n 0, 1) := by decide +kernel
theorem dX3_worth_187 : decode cX3_worth 187 = .ok (.getfield 28, 3) := by decide +kernel
theorem dX3_worth_190 : decode cX3_worth 190 = .ok (.iload_n 2, 1) := by decide +kernel
theorem dX3_worth_191 : decode cX3_worth 191 = .ok (.iaload, 1) := by decide +kernel
theorem dX3_worth_192 : decode cX3_worth 192 = .ok (.ifCond .ne 7, 3) := by decide +kernel
theorem dX3_worth_195 : decode cX3_worth 195 = .ok (.iconst 1, 1) := by decide +kernel
theorem dX3_worth_196 : decode cX3_worth 196 = .ok (.goto 4, 3) := by decide +kernel
theorem dX3_worth_199 : decode cX3_worth 199 = .ok (.iconst 0, 1) := by decide +kernel
theorem dX3_worth_200 : decode cX3_worth 200 = .ok (.istore_n 3, 1) := by decide +kernel
theorem dX3_worth_201 : decode cX3_worth 201 = .ok (.goto 39, 3) := by decide +kernel
theorem dX3_worth_204 : decode cX3_worth 204 = .ok (.iload_n 2, 1) := by decide +kernel
theorem dX3_worth_205 : decode cX3_worth 205 = .ok (.iconst 1, 1) := by decide +kernel
theorem dX3_worth_206 : decode cX3_worth 206 = .ok (.if_icmp .le 34, 3) := by decide +kernel
theorem dX3_worth_209 : decode cX3_worth 209 = .ok (.iinc 2 (-1), 3) := by decide +kernel
theorem dX3_worth_212 : decode cX3_worth 212 = .ok (.aload_n 0, 1) := by decide +kernel
theorem dX3_worth_213 : decode cX3_worth 213 = .ok (.getfield 28, 3) := by decide +kernel
theorem dX3_worth_216 : decode cX3_worth 216 = .ok (.iload_n 2, 1) := by decide +kernel
theorem dX3_worth_217 : decode cX3_worth 217 = .ok (.iconst 1, 1) := by decide +kernel
theorem dX3_worth_218 : decode cX3_worth 218 = .ok (.isub, 1) := by decide +kernel
theorem dX3_worth_219 : decode cX3_worth 219 = .ok (.iload 5, 2) := by decide +kernel
theorem dX3_worth_221 : decode cX3_worth 221 = .ok (.ineg, 1) := by decide +kernel
theorem dX3_worth_222 : decode cX3_worth 222 = .ok (.aload_n 0, 1) := by decide +kernel
theorem dX3_worth_223 : decode cX3_worth 223 = .ok (.getfield 28, 3) := by decide +kernel
theorem dX3_worth_226 : decode cX3_worth 226 = .ok (.iload_n 2, 1) := by decide +kernel
theorem dX3_worth_227 : decode cX3_worth 227 = .ok (.iconst 1, 1) := by decide +kernel
theorem dX3_worth_228 : decode cX3_worth 228 = .ok (.isub, 1) := by decide +kernel
theorem dX3_worth_229 : decode cX3_worth 229 = .ok (.iaload, 1) := by decide +kernel
theorem dX3_worth_230 : decode cX3_worth 230 = .ok (.aload_n 0, 1) := by decide +kernel
theorem dX3_worth_231 : decode cX3_worth 231 = .ok (.getfield 28, 3) := by decide +kernel
theorem dX3_worth_234 : decode cX3_worth 234 = .ok (.iload_n 2, 1) := by decide +kernel
theorem dX3_worth_235 : decode cX3_worth 235 = .ok (.iaload, 1) := by decide +kernel
theorem dX3_worth_236 : decode cX3_worth 236 = .ok (.invokestatic 44, 3) := by decide +kernel
theorem dX3_worth_239 : decode cX3_worth 239 = .ok (.iastore, 1) := by decide +kernel
theorem dX3_worth_240 : decode cX3_worth 240 = .ok (.iinc 4 1, 3) := by decide +kernel
theorem dX3_worth_243 : decode cX3_worth 243 = .ok (.goto (-206), 3) := by decide +kernel
theorem dX3_worth_246 : decode cX3_worth 246 = .ok (.iconst 0, 1) := by decide +kernel
theorem dX3_worth_247 : decode cX3_worth 247 = .ok (.ireturn, 1) := by decide +kernel
theorem dX3_joined_0 : decode cX3_joined 0 = .ok (.iload_n 0, 1) := by decide +kernel
theorem dX3_joined_1 : decode cX3_joined 1 = .ok (.tableswitch 208 38 62 #[200, 208, 208, 208, 133, 115, 208, 124, 208, 142, 208, 208, 208, 208, 208, 208, 208, 208, 208, 208, 208, 208, 172, 158, 186], 115) := by decide +kernel
theorem dX3_joined_116 : decode cX3_joined 116 = .ok (.iload_n 1, 1) := by decide +kernel
theorem dX3_joined_117 : decode cX3_joined 117 = .ok (.i2l, 1) := by decide +kernel
theorem dX3_joined_118 : decode cX3_joined 118 = .ok (.iload_n 2, 1) := by decide +kernel
theorem dX3_joined_119 : decode cX3_joined 119 = .ok (.i2l, 1) := by decide +kernel
theorem dX3_joined_120 : decode cX3_joined 120 = .ok (.ladd, 1) := by decide +kernel
theorem dX3_joined_121 : decode cX3_joined 121 = .ok (.lstore_n 3, 1) := by decide +kernel
theorem dX3_joined_122 : decode cX3_joined 122 = .ok (.goto 92, 3) := by decide +kernel
theorem dX3_joined_125 : decode cX3_joined 125 = .ok (.iload_n 1, 1) := by decide +kernel
theorem dX3_joined_126 : decode cX3_joined 126 = .ok (.i2l, 1) := by decide +kernel
theorem dX3_joined_127 : decode cX3_joined 127 = .ok (.iload_n 2, 1) := by decide +kernel
theorem dX3_joined_128 : decode cX3_joined 128 = .ok (.i2l, 1) := by decide +kernel
theorem dX3_joined_129 : decode cX3_joined 129 = .ok (.lsub, 1) := by decide +kernel
theorem dX3_joined_130 : decode cX3_joined 130 = .ok (.lstore_n 3, 1) := by decide +kernel
theorem dX3_joined_131 : decode cX3_joined 131 = .ok (.goto 83, 3) := by decide +kernel
theorem dX3_joined_134 : decode cX3_joined 134 = .ok (.iload_n 1, 1) := by decide +kernel
theorem dX3_joined_135 : decode cX3_joined 135 = .ok (.i2l, 1) := by decide +kernel
theorem dX3_joined_136 : decode cX3_joined 136 = .ok (.iload_n 2, 1) := by decide +kernel
theorem dX3_joined_137 : decode cX3_joined 137 = .ok (.i2l, 1) := by decide +kernel
theorem dX3_joined_138 : decode cX3_joined 138 = .ok (.lmul, 1) := by decide +kernel
theorem dX3_joined_139 : decode cX3_joined 139 = .ok (.lstore_n 3, 1) := by decide +kernel
theorem dX3_joined_140 : decode cX3_joined 140 = .ok (.goto 74, 3) := by decide +kernel
theorem dX3_joined_143 : decode cX3_joined 143 = .ok (.iload_n 2, 1) := by decide +kernel
theorem dX3_joined_144 : decode cX3_joined 144 = .ok (.ifCond .ne 7, 3) := by decide +kernel
theorem dX3_joined_147 : decode cX3_joined 147 = .ok (.lconst 0, 1) := by decide +kernel
theorem dX3_joined_148 : decode cX3_joined 148 = .ok (.goto 7, 3) := by decide +kernel
theorem dX3_joined_151 : decode cX3_joined 151 = .ok (.iload_n 1, 1) := by decide +kernel
theorem dX3_joined_152 : decode cX3_joined 152 = .ok (.iload_n 2, 1) := by decide +kernel
theorem dX3_joined_153 : decode cX3_joined 153 = .ok (.idiv, 1) := by decide +kernel
theorem dX3_joined_154 : decode cX3_joined 154 = .ok (.i2l, 1) := by decide +kernel
theorem dX3_joined_155 : decode cX3_joined 155 = .ok (.lstore_n 3, 1) := by decide +kernel
theorem dX3_joined_156 : decode cX3_joined 156 = .ok (.goto 58, 3) := by decide +kernel
theorem dX3_joined_159 : decode cX3_joined 159 = .ok (.iload_n 1, 1) := by decide +kernel
theorem dX3_joined_160 : decode cX3_joined 160 = .ok (.iload_n 2, 1) := by decide +kernel
theorem dX3_joined_161 : decode cX3_joined 161 = .ok (.if_icmp .ne 7, 3) := by decide +kernel
theorem dX3_joined_164 : decode cX3_joined 164 = .ok (.lconst 1, 1) := by decide +kernel
theorem dX3_joined_165 : decode cX3_joined 165 = .ok (.goto 4, 3) := by decide +kernel
theorem dX3_joined_168 : decode cX3_joined 168 = .ok (.lconst 0, 1) := by decide +kernel
theorem dX3_joined_169 : decode cX3_joined 169 = .ok (.lstore_n 3, 1) := by decide +kernel
theorem dX3_joined_170 : decode cX3_joined 170 = .ok (.goto 44, 3) := by decide +kernel
theorem dX3_joined_173 : decode cX3_joined 173 = .ok (.iload_n 1, 1) := by decide +kernel
theorem dX3_joined_174 : decode cX3_joined 174 = .ok (.iload_n 2, 1) := by decide +kernel
theorem dX3_joined_175 : decode cX3_joined 175 = .ok (.if_icmp .ge 7, 3) := by decide +kernel
theorem dX3_joined_178 : decode cX3_joined 178 = .ok (.lconst 1, 1) := by decide +kernel
theorem dX3_joined_179 : decode cX3_joined 179 = .ok (.goto 4, 3) := by decide +kernel
theorem dX3_joined_182 : decode cX3_joined 182 = .ok (.lconst 0, 1) := by decide +kernel
theorem dX3_joined_183 : decode cX3_joined 183 = .ok (.lstore_n 3, 1) := by decide +kernel
theorem dX3_joined_184 : decode cX3_joined 184 = .ok (.goto 30, 3) := by decide +kernel
theorem dX3_joined_187 : decode cX3_joined 187 = .ok (.iload_n 1, 1) := by decide +kernel
theorem dX3_joined_188 : decode cX3_joined 188 = .ok (.iload_n 2, 1) := by decide +kernel
theorem dX3_joined_189 : decode cX3_joined 189 = .ok (.if_icmp .le 7, 3) := by decide +kernel
theorem dX3_joined_192 : decode cX3_joined 192 = .ok (.lconst 1, 1) := by decide +kernel
theorem dX3_joined_193 : decode cX3_joined 193 = .ok (.goto 4, 3) := by decide +kernel
theorem dX3_joined_196 : decode cX3_joined 196 = .ok (.lconst 0, 1) := by decide +kernel
theorem dX3_joined_197 : decode cX3_joined 197 = .ok (.lstore_n 3, 1) := by decide +kernel
theorem dX3_joined_198 : decode cX3_joined 198 = .ok (.goto 16, 3) := by decide +kernel
theorem dX3_joined_201 : decode cX3_joined 201 = .ok (.iload_n 1, 1) := by decide +kernel
theorem dX3_joined_202 : decode cX3_joined 202 = .ok (.iload_n 2, 1) := by decide +kernel
theorem dX3_joined_203 : decode cX3_joined 203 = .ok (.iand, 1) := by decide +kernel
theorem dX3_joined_204 : decode cX3_joined 204 = .ok (.i2l, 1) := by decide +kernel
theorem dX3_joined_205 : decode cX3_joined 205 = .ok (.lstore_n 3, 1) := by decide +kernel
theorem dX3_joined_206 : decode cX3_joined 206 = .ok (.goto 8, 3) := by decide +kernel
theorem dX3_joined_209 : decode cX3_joined 209 = .ok (.iload_n 1, 1) := by decide +kernel
theorem dX3_joined_210 : decode cX3_joined 210 = .ok (.iload_n 2, 1) := by decide +kernel
theorem dX3_joined_211 : decode cX3_joined 211 = .ok (.ior, 1) := by decide +kernel
theorem dX3_joined_212 : decode cX3_joined 212 = .ok (.i2l, 1) := by decide +kernel
theorem dX3_joined_213 : decode cX3_joined 213 = .ok (.lstore_n 3, 1) := by decide +kernel
theorem dX3_joined_214 : decode cX3_joined 214 = .ok (.lload_n 3, 1) := by decide +kernel
theorem dX3_joined_215 : decode cX3_joined 215 = .ok (.ldc2_w 48, 3) := by decide +kernel
theorem dX3_joined_218 : decode cX3_joined 218 = .ok (.lcmp, 1) := by decide +kernel
theorem dX3_joined_219 : decode cX3_joined 219 = .ok (.ifCond .le 6, 3) := by decide +kernel
theorem dX3_joined_222 : decode cX3_joined 222 = .ok (.ldc 50, 2) := by decide +kernel
theorem dX3_joined_224 : decode cX3_joined 224 = .ok (.ireturn, 1) := by decide +kernel
theorem dX3_joined_225 : decode cX3_joined 225 = .ok (.lload_n 3, 1) := by decide +kernel
theorem dX3_joined_226 : decode cX3_joined 226 = .ok (.ldc2_w 51, 3) := by decide +kernel
theorem dX3_joined_229 : decode cX3_joined 229 = .ok (.lcmp, 1) := by decide +kernel
theorem dX3_joined_230 : decode cX3_joined 230 = .ok (.ifCond .ge 8, 3) := by decide +kernel
theorem dX3_joined_233 : decode cX3_joined 233 = .ok (.ldc 53, 2) := by decide +kernel
theorem dX3_joined_235 : decode cX3_joined 235 = .ok (.goto 5, 3) := by decide +kernel
theorem dX3_joined_238 : decode cX3_joined 238 = .ok (.lload_n 3, 1) := by decide +kernel
theorem dX3_joined_239 : decode cX3_joined 239 = .ok (.l2i, 1) := by decide +kernel
theorem dX3_joined_240 : decode cX3_joined 240 = .ok (.ireturn, 1) := by decide +kernel
theorem dX4_init_0 : decode cX4_init 0 = .ok (.aload_n 0, 1) := by decide +kernel
theorem dX4_init_1 : decode cX4_init 1 = .ok (.invokespecial 3, 3) := by decide +kernel
theorem dX4_init_4 : decode cX4_init 4 = .ok (.aload_n 0, 1) := by decide +kernel
theorem dX4_init_5 : decode cX4_init 5 = .ok (.sipush 1120, 3) := by decide +kernel
theorem dX4_init_8 : decode cX4_init 8 = .ok (.newarray .int, 2) := by decide +kernel
theorem dX4_init_10 : decode cX4_init 10 = .ok (.putfield 11, 3) := by decide +kernel
theorem dX4_init_13 : decode cX4_init 13 = .ok (.aload_n 0, 1) := by decide +kernel
theorem dX4_init_14 : decode cX4_init 14 = .ok (.sipush 400, 3) := by decide +kernel
theorem dX4_init_17 : decode cX4_init 17 = .ok (.newarray .int, 2) := by decide +kernel
theorem dX4_init_19 : decode cX4_init 19 = .ok (.putfield 15, 3) := by decide +kernel
theorem dX4_init_22 : decode cX4_init 22 = .ok (.aload_n 0, 1) := by decide +kernel
theorem dX4_init_23 : decode cX4_init 23 = .ok (.bipush 28, 2) := by decide +kernel
theorem dX4_init_25 : decode cX4_init 25 = .ok (.newarray .int, 2) := by decide +kernel
theorem dX4_init_27 : decode cX4_init 27 = .ok (.putfield 18, 3) := by decide +kernel
theorem dX4_init_30 : decode cX4_init 30 = .ok (.aload_n 0, 1) := by decide +kernel
theorem dX4_init_31 : decode cX4_init 31 = .ok (.sipush 400, 3) := by decide +kernel
theorem dX4_init_34 : decode cX4_init 34 = .ok (.newarray .int, 2) := by decide +kernel
theorem dX4_init_36 : decode cX4_init 36 = .ok (.putfield 21, 3) := by decide +kernel
theorem dX4_init_39 : decode cX4_init 39 = .ok (.return_, 1) := by decide +kernel
theorem dX4_forgetAll_0 : decode cX4_forgetAll 0 = .ok (.aload_n 0, 1) := by decide +kernel
theorem dX4_forgetAll_1 : decode cX4_forgetAll 1 = .ok (.iconst 0, 1) := by decide +kernel
theorem dX4_forgetAll_2 : decode cX4_forgetAll 2 = .ok (.putfield 24, 3) := by decide +kernel
theorem dX4_forgetAll_5 : decode cX4_forgetAll 5 = .ok (.aload_n 0, 1) := by decide +kernel
theorem dX4_forgetAll_6 : decode cX4_forgetAll 6 = .ok (.iconst 0, 1) := by decide +kernel
theorem dX4_forgetAll_7 : decode cX4_forgetAll 7 = .ok (.putfield 28, 3) := by decide +kernel
theorem dX4_forgetAll_10 : decode cX4_forgetAll 10 = .ok (.return_, 1) := by decide +kernel
theorem dX4_keep_0 : decode cX4_keep 0 = .ok (.aload_n 1, 1) := by decide +kernel
theorem dX4_keep_1 : decode cX4_keep 1 = .ok (.iconst 0, 1) := by decide +kernel
theorem dX4_keep_2 : decode cX4_keep 2 = .ok (.aload_n 0, 1) := by decide +kernel
theorem dX4_keep_3 : decode cX4_keep 3 = .ok (.getfield 11, 3) := by decide +kernel
theorem dX4_keep_6 : decode cX4_keep 6 = .ok (.aload_n 0, 1) := by decide +kernel
theorem dX4_keep_7 : decode cX4_keep 7 = .ok (.getfield 32, 3) := by decide +kernel
theorem dX4_keep_10 : decode cX4_keep 10 = .ok (.bipush 28, 2) := by decide +kernel
theorem dX4_keep_12 : decode cX4_keep 12 = .ok (.imul, 1) := by decide +kernel
theorem dX4_keep_13 : decode cX4_keep 13 = .ok (.bipush 28, 2) := by decide +kernel
theorem dX4_keep_15 : decode cX4_keep 15 = .ok (.invokestatic 35, 3) := by decide +kernel
theorem dX4_keep_18 : decode cX4_keep 18 = .ok (.aload_n 0, 1) := by decide +kernel
theorem dX4_keep_19 : decode cX4_keep 19 = .ok (.aload_n 0, 1) := by decide +kernel
theorem dX4_keep_20 : decode cX4_keep 20 = .ok (.getfield 32, 3) := by decide +kernel
theorem dX4_keep_23 : decode cX4_keep 23 = .ok (.iconst 1, 1) := by decide +kernel
theorem dX4_keep_24 : decode cX4_keep 24 = .ok (.iadd, 1) := by decide +kernel
theorem dX4_keep_25 : decode cX4_keep 25 = .ok (.bipush 40, 2) := by decide +kernel
theorem dX4_keep_27 : decode cX4_keep 27 = .ok (.irem, 1) := by decide +kernel
theorem dX4_keep_28 : decode cX4_keep 28 = .ok (.putfield 32, 3) := by decide +kernel
theorem dX4_keep_31 : decode cX4_keep 31 = .ok (.aload_n 0, 1) := by decide +kernel
theorem dX4_keep_32 : decode cX4_keep 32 = .ok (.bipush 40, 2) := by decide +kernel
theorem dX4_keep_34 : decode cX4_keep 34 = .ok (.aload_n 0, 1) := by decide +kernel
theorem dX4_keep_35 : decode cX4_keep 35 = .ok (.getfield 24, 3) := by decide +kernel
theorem dX4_keep_38 : decode cX4_keep 38 = .ok (.iconst 1, 1) := by decide +kernel
theorem dX4_keep_39 : decode cX4_keep 39 = .ok (.iadd, 1) := by decide +kernel
theorem dX4_keep_40 : decode cX4_keep 40 = .ok (.invokestatic 41, 3) := by decide +kernel
theorem dX4_keep_43 : decode cX4_keep 43 = .ok (.putfield 24, 3) := by decide +kernel
theorem dX4_keep_46 : decode cX4_keep 46 = .ok (.return_, 1) := by decide +kernel
theorem dX4_takeBack_0 : decode cX4_takeBack 0 = .ok (.aload_n 0, 1) := by decide +kernel
theorem dX4_takeBack_1 : decode cX4_takeBack 1 = .ok (.getfield 24, 3) := by decide +kernel
theorem dX4_takeBack_4 : decode cX4_takeBack 4 = .ok (.iconst 1, 1) := by decide +kernel
theorem dX4_takeBack_5 : decode cX4_takeBack 5 = .ok (.if_icmp .ge 5, 3) := by decide +kernel
theorem dX4_takeBack_8 : decode cX4_takeBack 8 = .ok (.iconst 0, 1) := by decide +kernel
theorem dX4_takeBack_9 : decode cX4_takeBack 9 = .ok (.ireturn, 1) := by decide +kernel
theorem dX4_takeBack_10 : decode cX4_takeBack 10 = .ok (.aload_n 0, 1) := by decide +kernel
theorem dX4_takeBack_11 : decode cX4_takeBack 11 = .ok (.dup, 1) := by decide +kernel
theorem dX4_takeBack_12 : decode cX4_takeBack 12 = .ok (.getfield 24, 3) := by decide +kernel
theorem dX4_takeBack_15 : decode cX4_takeBack 15 = .ok (.iconst 1, 1) := by decide +kernel
theorem dX4_takeBack_16 : decode cX4_takeBack 16 = .ok (.isub, 1) := by decide +kernel
theorem dX4_takeBack_17 : decode cX4_takeBack 17 = .ok (.putfield 24, 3) := by decide +kernel
theorem dX4_takeBack_20 : decode cX4_takeBack 20 = .ok (.aload_n 0, 1) := by decide +kernel
theorem dX4_takeBack_21 : decode cX4_takeBack 21 = .ok (.aload_n 0, 1) := by decide +kernel
theorem dX4_takeBack_22 : decode cX4_takeBack 22 = .ok (.getfield 32, 3) := by decide +kernel
theorem dX4_takeBack_25 : decode cX4_takeBack 25 = .ok (.bipush 40, 2) := by decide +kernel
theorem dX4_takeBack_27 : decode cX4_takeBack 27 = .ok (.iadd, 1) := by decide +kernel
theorem dX4_takeBack_28 : decode cX4_takeBack 28 = .ok (.iconst 1, 1) := by decide +kernel
theorem dX4_takeBack_29 : decode cX4_takeBack 29 = .ok (.isub, 1) := by decide +kernel
theorem dX4_takeBack_30 : decode cX4_takeBack 30 = .ok (.bipush 40, 2) := by decide +kernel
theorem dX4_takeBack_32 : decode cX4_takeBack 32 = .ok (.irem, 1) := by decide +kernel
theorem dX4_takeBack_33 : decode cX4_takeBack 33 = .ok (.putfield 32, 3) := by decide +kernel
theorem dX4_takeBack_36 : decode cX4_takeBack 36 = .ok (.aload_n 0, 1) := by decide +kernel
theorem dX4_takeBack_37 : decode cX4_takeBack 37 = .ok (.getfield 11, 3) := by decide +kernel
theorem dX4_takeBack_40 : decode cX4_takeBack 40 = .ok (.aload_n 0, 1) := by decide +kernel
theorem dX4_takeBack_41 : decode cX4_takeBack 41 = .ok (.getfield 32, 3) := by decide +kernel
theorem dX4_takeBack_44 : decode cX4_takeBack 44 = .ok (.bipush 28, 2) := by decide +kernel
theorem dX4_takeBack_46 : decode cX4_takeBack 46 = .ok (.imul, 1) := by decide +kernel
theorem dX4_takeBack_47 : decode cX4_takeBack 47 = .ok (.aload_n 1, 1) := by decide +kernel
theorem dX4_takeBack_48 : decode cX4_takeBack 48 = .ok (.iconst 0, 1) := by decide +kernel
theorem dX4_takeBack_49 : decode cX4_takeBack 49 = .ok (.bipush 28, 2) := by decide +kernel
theorem dX4_takeBack_51 : decode cX4_takeBack 51 = .ok (.invokestatic 35, 3) := by decide +kernel
theorem dX4_takeBack_54 : decode cX4_takeBack 54 = .ok (.iconst 1, 1) := by decide +kernel
theorem dX4_takeBack_55 : decode cX4_takeBack 55 = .ok (.ireturn, 1) := by decide +kernel
theorem dX4_takeImage_0 : decode cX4_takeImage 0 = .ok (.aload_n 1, 1) := by decide +kernel
theorem dX4_takeImage_1 : decode cX4_takeImage 1 = .ok (.iconst 0, 1) := by decide +kernel
theorem dX4_takeImage_2 : decode cX4_takeImage 2 = .ok (.aload_n 0, 1) := by decide +kernel
theorem dX4_takeImage_3 : decode cX4_takeImage 3 = .ok (.getfield 18, 3) := by decide +kernel
theorem dX4_takeImage_6 : decode cX4_takeImage 6 = .ok (.iconst 0, 1) := by decide +kernel
theorem dX4_takeImage_7 : decode cX4_takeImage 7 = .ok (.bipush 28, 2) := by decide +kernel
theorem dX4_takeImage_9 : decode cX4_takeImage 9 = .ok (.invokestatic 35, 3) := by decide +kernel
theorem dX4_takeImage_12 : decode cX4_takeImage 12 = .ok (.aload_n 0, 1) := by decide +kernel
theorem dX4_takeImage_13 : decode cX4_takeImage 13 = .ok (.getfield 15, 3) := by decide +kernel
theorem dX4_takeImage_16 : decode cX4_takeImage 16 = .ok (.iconst 0, 1) := by decide +kernel
theorem dX4_takeImage_17 : decode cX4_takeImage 17 = .ok (.aload_n 0, 1) := by decide +kernel
theorem dX4_takeImage_18 : decode cX4_takeImage 18 = .ok (.getfield 21, 3) := by decide +kernel
theorem dX4_takeImage_21 : decode cX4_takeImage 21 = .ok (.iconst 0, 1) := by decide +kernel
theorem dX4_takeImage_22 : decode cX4_takeImage 22 = .ok (.aload_n 0, 1) := by decide +kernel
theorem dX4_takeImage_23 : decode cX4_takeImage 23 = .ok (.getfield 15, 3) := by decide +kernel
theorem dX4_takeImage_26 : decode cX4_takeImage 26 = .ok (.arraylength, 1) := by decide +kernel
theorem dX4_takeImage_27 : decode cX4_takeImage 27 = .ok (.invokestatic 35, 3) := by decide +kernel
theorem dX4_takeImage_30 : decode cX4_takeImage 30 = .ok (.aload_n 0, 1) := by decide +kernel
theorem dX4_takeImage_31 : decode cX4_takeImage 31 = .ok (.iconst 1, 1) := by decide +kernel
theorem dX4_takeImage_32 : decode cX4_takeImage 32 = .ok (.putfield 28, 3) := by decide +kernel
theorem dX4_takeImage_35 : decode cX4_takeImage 35 = .ok (.return_, 1) := by decide +kernel
theorem dX4_goBack_0 : decode cX4_goBack 0 = .ok (.aload_n 0, 1) := by decide +kernel
theorem dX4_goBack_1 : decode cX4_goBack 1 = .ok (.getfield 28, 3) := by decide +kernel
theorem dX4_goBack_4 : decode cX4_goBack 4 = .ok (.ifCond .ne 5, 3) := by decide +kernel
theorem dX4_goBack_7 : decode cX4_goBack 7 = .ok (.iconst 0, 1) := by decide +kernel
theorem dX4_goBack_8 : decode cX4_goBack 8 = .ok (.ireturn, 1) := by decide +kernel
theorem dX4_goBack_9 : decode cX4_goBack 9 = .ok (.aload_n 0, 1) := by decide +kernel
theorem dX4_goBack_10 : decode cX4_goBack 10 = .ok (.getfield 18, 3) := by decide +kernel
theorem dX4_goBack_13 : decode cX4_goBack 13 = .ok (.iconst 0, 1) := by decide +kernel
theorem dX4_goBack_14 : decode cX4_goBack 14 = .ok (.aload_n 1, 1) := by decide +kernel
theorem dX4_goBack_15 : decode cX4_goBack 15 = .ok (.iconst 0, 1) := by decide +kernel
theorem dX4_goBack_16 : decode cX4_goBack 16 = .ok (.bipush 28, 2) := by decide +kernel
theorem dX4_goBack_18 : decode cX4_goBack 18 = .ok (.invokestatic 35, 3) := by decide +kernel
theorem dX4_goBack_21 : decode cX4_goBack 21 = .ok (.aload_n 0, 1) := by decide +kernel
theorem dX4_goBack_22 : decode cX4_goBack 22 = .ok (.getfield 21, 3) := by decide +kernel
theorem dX4_goBack_25 : decode cX4_goBack 25 = .ok (.iconst 0, 1) := by decide +kernel
theorem dX4_goBack_26 : decode cX4_goBack 26 = .ok (.aload_n 0, 1) := by decide +kernel
theorem dX4_goBack_27 : decode cX4_goBack 27 = .ok (.getfield 15, 3) := by decide +kernel
theorem dX4_goBack_30 : decode cX4_goBack 30 = .ok (.iconst 0, 1) := by decide +kernel
theorem dX4_goBack_31 : decode cX4_goBack 31 = .ok (.aload_n 0, 1) := by decide +kernel
theorem dX4_goBack_32 : decode cX4_goBack 32 = .ok (.getfield 15, 3) := by decide +kernel
theorem dX4_goBack_35 : decode cX4_goBack 35 = .ok (.arraylength, 1) := by decide +kernel
theorem dX4_goBack_36 : decode cX4_goBack 36 = .ok (.invokestatic 35, 3) := by decide +kernel
theorem dX4_goBack_39 : decode cX4_goBack 39 = .ok (.aload_n 0, 1) := by decide +kernel
theorem dX4_goBack_40 : decode cX4_goBack 40 = .ok (.iconst 0, 1) := by decide +kernel
theorem dX4_goBack_41 : decode cX4_goBack 41 = .ok (.putfield 24, 3) := by decide +kernel
theorem dX4_goBack_44 : decode cX4_goBack 44 = .ok (.iconst 1, 1) := by decide +kernel
theorem dX4_goBack_45 : decode cX4_goBack 45 = .ok (.ireturn, 1) := by decide +kernel
theorem dX4_bookLength_0 : decode cX4_bookLength 0 = .ok (.bipush 60, 2) := by decide +kernel
theorem dX4_bookLength_2 : decode cX4_bookLength 2 = .ok (.iload_n 0, 1) := by decide +kernel
theorem dX4_bookLength_3 : decode cX4_bookLength 3 = .ok (.invokestatic 41, 3) := by decide +kernel
theorem dX4_bookLength_6 : decode cX4_bookLength 6 = .ok (.ireturn, 1) := by decide +kernel
theorem dX4_write_0 : decode cX4_write 0 = .ok (.iload_n 1, 1) := by decide +kernel
theorem dX4_write_1 : decode cX4_write 1 = .ok (.invokestatic 47, 3) := by decide +kernel
theorem dX4_write_4 : decode cX4_write 4 = .ok (.istore 6, 2) := by decide +kernel
theorem dX4_write_6 : decode cX4_write 6 = .ok (.aload_n 0, 1) := by decide +kernel
theorem dX4_write_7 : decode cX4_write 7 = .ok (.getfield 15, 3) := by decide +kernel
theorem dX4_write_10 : decode cX4_write 10 = .ok (.iload 6, 2) := by decide +kernel
theorem dX4_write_12 : decode cX4_write 12 = .ok (.iload_n 2, 1) := by decide +kernel
theorem dX4_write_13 : decode cX4_write 13 = .ok (.iastore, 1) := by decide +kernel
theorem dX4_write_14 : decode cX4_write 14 = .ok (.aload_n 0, 1) := by decide +kernel
theorem dX4_write_15 : decode cX4_write 15 = .ok (.getfield 15, 3) := by decide +kernel
theorem dX4_write_18 : decode cX4_write 18 = .ok (.iload 6, 2) := by decide +kernel
theorem dX4_write_20 : decode cX4_write 20 = .ok (.iconst 1, 1) := by decide +kernel
theorem dX4_write_21 : decode cX4_write 21 = .ok (.iadd, 1) := by decide +kernel
theorem dX4_write_22 : decode cX4_write 22 = .ok (.iload_n 3, 1) := by decide +kernel
theorem dX4_write_23 : decode cX4_write 23 = .ok (.iastore, 1) := by decide +kernel
theorem dX4_write_24 : decode cX4_write 24 = .ok (.aload_n 0, 1) := by decide +kernel
theorem dX4_write_25 : decode cX4_write 25 = .ok (.getfield 15, 3) := by decide +kernel
theorem dX4_write_28 : decode cX4_write 28 = .ok (.iload 6, 2) := by decide +kernel
theorem dX4_write_30 : decode cX4_write 30 = .ok (.iconst 2, 1) := by decide +kernel
theorem dX4_write_31 : decode cX4_write 31 = .ok (.iadd, 1) := by decide +kernel
theorem dX4_write_32 : decode cX4_write 32 = .ok (.iload 4, 2) := by decide +kernel
theorem dX4_write_34 : decode cX4_write 34 = .ok (.iastore, 1) := by decide +kernel
theorem dX4_write_35 : decode cX4_write 35 = .ok (.aload_n 0, 1) := by decide +kernel
theorem dX4_write_36 : decode cX4_write 36 = .ok (.getfield 15, 3) := by decide +kernel
theorem dX4_write_39 : decode cX4_write 39 = .ok (.iload 6, 2) := by decide +kernel
theorem dX4_write_41 : decode cX4_write 41 = .ok (.iconst 3, 1) := by decide +kernel
theorem dX4_write_42 : decode cX4_write 42 = .ok (.iadd, 1) := by decide +kernel
theorem dX4_write_43 : decode cX4_write 43 = .ok (.iload 5, 2) := by decide +kernel
theorem dX4_write_45 : decode cX4_write 45 = .ok (.iastore, 1) := by decide +kernel
theorem dX4_write_46 : decode cX4_write 46 = .ok (.return_, 1) := by decide +kernel
theorem dX4_line_0 : decode cX4_line 0 = .ok (.aload_n 0, 1) := by decide +kernel
theorem dX4_line_1 : decode cX4_line 1 = .ok (.getfield 15, 3) := by decide +kernel
theorem dX4_line_4 : decode cX4_line 4 = .ok (.iload_n 1, 1) := by decide +kernel
theorem dX4_line_5 : decode cX4_line 5 = .ok (.invokestatic 47, 3) := by decide +kernel
theorem dX4_line_8 : decode cX4_line 8 = .ok (.iload_n 2, 1) := by decide +kernel
theorem dX4_line_9 : decode cX4_line 9 = .ok (.iadd, 1) := by decide +kernel
theorem dX4_line_10 : decode cX4_line 10 = .ok (.iaload, 1) := by decide +kernel
theorem dX4_line_11 : decode cX4_line 11 = .ok (.ireturn, 1) := by decide +kernel
theorem dX4_placeOf_0 : decode cX4_placeOf 0 = .ok (.iload_n 0, 1) := by decide +kernel
theorem dX4_placeOf_1 : decode cX4_placeOf 1 = .ok (.bipush 100, 2) := by decide +kernel
theorem dX4_placeOf_3 : decode cX4_placeOf 3 = .ok (.invokestatic 51, 3) := by decide +kernel
theorem dX4_placeOf_6 : decode cX4_placeOf 6 = .ok (.iconst 4, 1) := by decide +kernel
theorem dX4_placeOf_7 : decode cX4_placeOf 7 = .ok (.imul, 1) := by decide +kernel
theorem dX4_placeOf_8 : decode cX4_placeOf 8 = .ok (.ireturn, 1) := by decide +kernel
theorem dX4_timesBrought_0 : decode cX4_timesBrought 0 = .ok (.iconst 0, 1) := by decide +kernel
theorem dX4_timesBrought_1 : decode cX4_timesBrought 1 = .ok (.istore_n 3, 1) := by decide +kernel
theorem dX4_timesBrought_2 : decode cX4_timesBrought 2 = .ok (.iconst 0, 1) := by decide +kernel
theorem dX4_timesBrought_3 : decode cX4_timesBrought 3 = .ok (.istore 4, 2) := by decide +kernel
theorem dX4_timesBrought_5 : decode cX4_timesBrought 5 = .ok (.iload 4, 2) := by decide +kernel
theorem dX4_timesBrought_7 : decode cX4_timesBrought 7 = .ok (.iload_n 1, 1) := by decide +kernel
theorem dX4_timesBrought_8 : decode cX4_timesBrought 8 = .ok (.invokestatic 54, 3) := by decide +kernel
theorem dX4_timesBrought_11 : decode cX4_timesBrought 11 = .ok (.if_icmp .ge 25, 3) := by decide +kernel
theorem dX4_timesBrought_14 : decode cX4_timesBrought 14 = .ok (.aload_n 0, 1) := by decide +kernel
theorem dX4_timesBrought_15 : decode cX4_timesBrought 15 = .ok (.iload_n 1, 1) := by decide +kernel
theorem dX4_timesBrought_16 : decode cX4_timesBrought 16 = .ok (.iload 4, 2) := by decide +kernel
theorem dX4_timesBrought_18 : decode cX4_timesBrought 18 = .ok (.isub, 1) := by decide +kernel
theorem dX4_timesBrought_19 : decode cX4_timesBrought 19 = .ok (.iconst 2, 1) := by decide +kernel
theorem dX4_timesBrought_20 : decode cX4_timesBrought 20 = .ok (.invokevirtual 57, 3) := by decide +kernel
theorem dX4_timesBrought_23 : decode cX4_timesBrought 23 = .ok (.iload_n 2, 1) := by decide +kernel
theorem dX4_timesBrought_24 : decode cX4_timesBrought 24 = .ok (.if_icmp .ne 6, 3) := by decide +kernel
theorem dX4_timesBrought_27 : decode cX4_timesBrought 27 = .ok (.iinc 3 1, 3) := by decide +kernel
theorem dX4_timesBrought_30 : decode cX4_timesBrought 30 = .ok (.iinc 4 1, 3) := by decide +kernel
theorem dX4_timesBrought_33 : decode cX4_timesBrought 33 = .ok (.goto (-28), 3) := by decide +kernel
theorem dX4_timesBrought_36 : decode cX4_timesBrought 36 = .ok (.iload_n 3, 1) := by decide +kernel
theorem dX4_timesBrought_37 : decode cX4_timesBrought 37 = .ok (.ireturn, 1) := by decide +kernel
theorem dX4_middle_0 : decode cX4_middle 0 = .ok (.iload_n 1, 1) := by decide +kernel
theorem dX4_middle_1 : decode cX4_middle 1 = .ok (.invokestatic 54, 3) := by decide +kernel
theorem dX4_middle_4 : decode cX4_middle 4 = .ok (.istore_n 3, 1) := by decide +kernel
theorem dX4_middle_5 : decode cX4_middle 5 = .ok (.iconst 0, 1) := by decide +kernel
theorem dX4_middle_6 : decode cX4_middle 6 = .ok (.istore 4, 2) := by decide +kernel
theorem dX4_middle_8 : decode cX4_middle 8 = .ok (.iconst 0, 1) := by decide +kernel
theorem dX4_middle_9 : decode cX4_middle 9 = .ok (.istore 5, 2) := by decide +kernel
theorem dX4_middle_11 : decode cX4_middle 11 = .ok (.iload 5, 2) := by decide +kernel
theorem dX4_middle_13 : decode cX4_middle 13 = .ok (.iload_n 3, 1) := by decide +kernel
theorem dX4_middle_14 : decode cX4_middle 14 = .ok (.if_icmp .ge 28, 3) := by decide +kernel
theorem dX4_middle_17 : decode cX4_middle 17 = .ok (.iload 4, 2) := by decide +kernel
theorem dX4_middle_19 : decode cX4_middle 19 = .ok (.aload_n 2, 1) := by decide +kernel
theorem dX4_middle_20 : decode cX4_middle 20 = .ok (.getfield 60, 3) := by decide +kernel
theorem dX4_middle_23 : decode cX4_middle 23 = .ok (.aload_n 0, 1) := by decide +kernel
theorem dX4_middle_24 : decode cX4_middle 24 = .ok (.iload_n 1, 1) := by decide +kernel
theorem dX4_middle_25 : decode cX4_middle 25 = .ok (.iload 5, 2) := by decide +kernel
theorem dX4_middle_27 : decode cX4_middle 27 = .ok (.isub, 1) := by decide +kernel
theorem dX4_middle_28 : decode cX4_middle 28 = .ok (.iconst 1, 1) := by decide +kernel
theorem dX4_middle_29 : decode cX4_middle 29 = .ok (.invokevirtual 57, 3) := by decide +kernel
theorem dX4_middle_32 : decode cX4_middle 32 = .ok (.iaload, 1) := by decide +kernel
theorem dX4_middle_33 : decode cX4_middle 33 = .ok (.iadd, 1) := by decide +kernel
theorem dX4_middle_34 : decode cX4_middle 34 = .ok (.istore 4, 2) := by decide +kernel
theorem dX4_middle_36 : decode cX4_middle 36 = .ok (.iinc 5 1, 3) := by decide +kernel
theorem dX4_middle_39 : decode cX4_middle 39 = .ok (.goto (-28), 3) := by decide +kernel
theorem dX4_middle_42 : decode cX4_middle 42 = .ok (.iload_n 3, 1) := by decide +kernel
theorem dX4_middle_43 : decode cX4_middle 43 = .ok (.iconst 1, 1) := by decide +kernel
theorem dX4_middle_44 : decode cX4_middle 44 = .ok (.if_icmp .ge 7, 3) := by decide +kernel
theorem dX4_middle_47 : decode cX4_middle 47 = .ok (.iconst 0, 1) := by decide +kernel
theorem dX4_middle_48 : decode cX4_middle 48 = .ok (.goto 7, 3) := by decide +kernel
theorem dX4_middle_51 : decode cX4_middle 51 = .ok (.iload 4, 2) := by decide +kernel
theorem dX4_middle_53 : decode cX4_middle 53 = .ok (.iload_n 3, 1) := by decide +kernel
theorem dX4_middle_54 : decode cX4_middle 54 = .ok (.idiv, 1) := by decide +kernel
theorem dX4_middle_55 : decode cX4_middle 55 = .ok (.ireturn, 1) := by decide +kernel
theorem dX5_init_0 : decode cX5_init 0 = .ok (.aload_n 0, 1) := by decide +kernel
theorem dX5_init_1 : decode cX5_init 1 = .ok (.invokespecial 3, 3) := by decide +kernel
theorem dX5_init_4 : decode cX5_init 4 = .ok (.return_, 1) := by decide +kernel
theorem dX5_faultOf_0 : decode cX5_faultOf 0 = .ok (.aload_n 0, 1) := by decide +kernel
theorem dX5_faultOf_1 : decode cX5_faultOf 1 = .ok (.invokevirtual 9, 3) := by decide +kernel
theorem dX5_faultOf_4 : decode cX5_faultOf 4 = .ok (.iconst 0, 1) := by decide +kernel
theorem dX5_faultOf_5 : decode cX5_faultOf 5 = .ok (.istore_n 2, 1) := by decide +kernel
theorem dX5_faultOf_6 : decode cX5_faultOf 6 = .ok (.iconst 0, 1) := by decide +kernel
theorem dX5_faultOf_7 : decode cX5_faultOf 7 = .ok (.istore_n 3, 1) := by decide +kernel
theorem dX5_faultOf_8 : decode cX5_faultOf 8 = .ok (.iload_n 3, 1) := by decide +kernel
theorem dX5_faultOf_9 : decode cX5_faultOf 9 = .ok (.aload_n 1, 1) := by decide +kernel
theorem dX5_faultOf_10 : decode cX5_faultOf 10 = .ok (.getfield 14, 3) := by decide +kernel
theorem dX5_faultOf_13 : decode cX5_faultOf 13 = .ok (.if_icmp .ge 55, 3) := by decide +kernel
theorem dX5_faultOf_16 : decode cX5_faultOf 16 = .ok (.aload_n 1, 1) := by decide +kernel
theorem dX5_faultOf_17 : decode cX5_faultOf 17 = .ok (.iload_n 3, 1) := by decide +kernel
theorem dX5_faultOf_18 : decode cX5_faultOf 18 = .ok (.invokevirtual 20, 3) := by decide +kernel
theorem dX5_faultOf_21 : decode cX5_faultOf 21 = .ok (.istore 4, 2) := by decide +kernel
theorem dX5_faultOf_23 : decode cX5_faultOf 23 = .ok (.iload 4, 2) := by decide +kernel
theorem dX5_faultOf_25 : decode cX5_faultOf 25 = .ok (.bipush 32, 2) := by decide +kernel
theorem dX5_faultOf_27 : decode cX5_faultOf 27 = .ok (.if_icmp .eq 22, 3) := by decide +kernel
theorem dX5_faultOf_30 : decode cX5_faultOf 30 = .ok (.aload_n 0, 1) := by decide +kernel
theorem dX5_faultOf_31 : decode cX5_faultOf 31 = .ok (.iload 4, 2) := by decide +kernel
theorem dX5_faultOf_33 : decode cX5_faultOf 33 = .ok (.aload_n 1, 1) := by decide +kernel
theorem dX5_faultOf_34 : decode cX5_faultOf 34 = .ok (.iload_n 3, 1) := by decide +kernel
theorem dX5_faultOf_35 : decode cX5_faultOf 35 = .ok (.iconst 1, 1) := by decide +kernel
theorem dX5_faultOf_36 : decode cX5_faultOf 36 = .ok (.iadd, 1) := by decide +kernel
theorem dX5_faultOf_37 : decode cX5_faultOf 37 = .ok (.invokevirtual 20, 3) := by decide +kernel
theorem dX5_faultOf_40 : decode cX5_faultOf 40 = .ok (.iload_n 2, 1) := by decide +kernel
theorem dX5_faultOf_41 : decode cX5_faultOf 41 = .ok (.invokevirtual 24, 3) := by decide +kernel
theorem dX5_faultOf_44 : decode cX5_faultOf 44 = .ok (.ifCond .ne 5, 3) := by decide +kernel
theorem dX5_faultOf_47 : decode cX5_faultOf 47 = .ok (.iload_n 3, 1) := by decide +kernel
theorem dX5_faultOf_48 : decode cX5_faultOf 48 = .ok (.ireturn, 1) := by decide +kernel
theorem dX5_faultOf_49 : decode cX5_faultOf 49 = .ok (.iload 4, 2) := by decide +kernel
theorem dX5_faultOf_51 : decode cX5_faultOf 51 = .ok (.bipush 32, 2) := by decide +kernel
theorem dX5_faultOf_53 : decode cX5_faultOf 53 = .ok (.if_icmp .eq 7, 3) := by decide +kernel
theorem dX5_faultOf_56 : decode cX5_faultOf 56 = .ok (.iconst 1, 1) := by decide +kernel
theorem dX5_faultOf_57 : decode cX5_faultOf 57 = .ok (.goto 4, 3) := by decide +kernel
theorem dX5_faultOf_60 : decode cX5_faultOf 60 = .ok (.iconst 0, 1) := by decide +kernel
theorem dX5_faultOf_61 : decode cX5_faultOf 61 = .ok (.istore_n 2, 1) := by decide +kernel
theorem dX5_faultOf_62 : decode cX5_faultOf 62 = .ok (.iinc 3 1, 3) := by decide +kernel
theorem dX5_faultOf_65 : decode cX5_faultOf 65 = .ok (.goto (-57), 3) := by decide +kernel
theorem dX5_faultOf_68 : decode cX5_faultOf 68 = .ok (.aload_n 0, 1) := by decide +kernel
theorem dX5_faultOf_69 : decode cX5_faultOf 69 = .ok (.invokevirtual 28, 3) := by decide +kernel
theorem dX5_faultOf_72 : decode cX5_faultOf 72 = .ok (.ifCond .eq 7, 3) := by decide +kernel
theorem dX5_faultOf_75 : decode cX5_faultOf 75 = .ok (.iconst (-1), 1) := by decide +kernel
theorem dX5_faultOf_76 : decode cX5_faultOf 76 = .ok (.goto 7, 3) := by decide +kernel
theorem dX5_faultOf_79 : decode cX5_faultOf 79 = .ok (.aload_n 1, 1) := by decide +kernel
theorem dX5_faultOf_80 : decode cX5_faultOf 80 = .ok (.getfield 14, 3) := by decide +kernel
theorem dX5_faultOf_83 : decode cX5_faultOf 83 = .ok (.ireturn, 1) := by decide +kernel
theorem dX5_isDigit_0 : decode cX5_isDigit 0 = .ok (.iload_n 0, 1) := by decide +kernel
theorem dX5_isDigit_1 : decode cX5_isDigit 1 = .ok (.bipush 48, 2) := by decide +kernel
theorem dX5_isDigit_3 : decode cX5_isDigit 3 = .ok (.if_icmp .lt 13, 3) := by decide +kernel
theorem dX5_isDigit_6 : decode cX5_isDigit 6 = .ok (.iload_n 0, 1) := by decide +kernel
theorem dX5_isDigit_7 : decode cX5_isDigit 7 = .ok (.bipush 57, 2) := by decide +kernel
theorem dX5_isDigit_9 : decode cX5_isDigit 9 = .ok (.if_icmp .gt 7, 3) := by decide +kernel
theorem dX5_isDigit_12 : decode cX5_isDigit 12 = .ok (.iconst 1, 1) := by decide +kernel
theorem dX5_isDigit_13 : decode cX5_isDigit 13 = .ok (.goto 4, 3) := by decide +kernel
theorem dX5_isDigit_16 : decode cX5_isDigit 16 = .ok (.iconst 0, 1) := by decide +kernel
theorem dX5_isDigit_17 : decode cX5_isDigit 17 = .ok (.ireturn, 1) := by decide +kernel
theorem dX6_init_0 : decode cX6_init 0 = .ok (.aload_n 0, 1) := by decide +kernel
theorem dX6_init_1 : decode cX6_init 1 = .ok (.invokespecial 3, 3) := by decide +kernel
theorem dX6_init_4 : decode cX6_init 4 = .ok (.aload_n 0, 1) := by decide +kernel
theorem dX6_init_5 : decode cX6_init 5 = .ok (.iconst (-1), 1) := by decide +kernel
theorem dX6_init_6 : decode cX6_init 6 = .ok (.putfield 9, 3) := by decide +kernel
theorem dX6_init_9 : decode cX6_init 9 = .ok (.aload_n 0, 1) := by decide +kernel
theorem dX6_init_10 : decode cX6_init 10 = .ok (.iconst (-1), 1) := by decide +kernel
theorem dX6_init_11 : decode cX6_init 11 = .ok (.putfield 15, 3) := by decide +kernel
theorem dX6_init_14 : decode cX6_init 14 = .ok (.aload_n 0, 1) := by decide +kernel
theorem dX6_init_15 : decode cX6_init 15 = .ok (.aload_n 1, 1) := by decide +kernel
theorem dX6_init_16 : decode cX6_init 16 = .ok (.putfield 18, 3) := by decide +kernel
theorem dX6_init_19 : decode cX6_init 19 = .ok (.aload_n 0, 1) := by decide +kernel
theorem dX6_init_20 : decode cX6_init 20 = .ok (.aload_n 2, 1) := by decide +kernel
theorem dX6_init_21 : decode cX6_init 21 = .ok (.putfield 22, 3) := by decide +kernel
theorem dX6_init_24 : decode cX6_init 24 = .ok (.aload_n 0, 1) := by decide +kernel
theorem dX6_init_25 : decode cX6_init 25 = .ok (.aload_n 3, 1) := by decide +kernel
theorem dX6_init_26 : decode cX6_init 26 = .ok (.putfield 26, 3) := by decide +kernel
theorem dX6_init_29 : decode cX6_init 29 = .ok (.return_, 1) := by decide +kernel
theorem dX6_aim_0 : decode cX6_aim 0 = .ok (.aload_n 0, 1) := by decide +kernel
theorem dX6_aim_1 : decode cX6_aim 1 = .ok (.iload_n 1, 1) := by decide +kernel
theorem dX6_aim_2 : decode cX6_aim 2 = .ok (.putfield 9, 3) := by decide +kernel
theorem dX6_aim_5 : decode cX6_aim 5 = .ok (.aload_n 0, 1) := by decide +kernel
theorem dX6_aim_6 : decode cX6_aim 6 = .ok (.iload_n 2, 1) := by decide +kernel
theorem dX6_aim_7 : decode cX6_aim 7 = .ok (.putfield 29, 3) := by decide +kernel
theorem dX6_aim_10 : decode cX6_aim 10 = .ok (.aload_n 0, 1) := by decide +kernel
theorem dX6_aim_11 : decode cX6_aim 11 = .ok (.iload_n 3, 1) := by decide +kernel
theorem dX6_aim_12 : decode cX6_aim 12 = .ok (.putfield 15, 3) := by decide +kernel
theorem dX6_aim_15 : decode cX6_aim 15 = .ok (.return_, 1) := by decide +kernel
theorem dX6_search_0 : decode cX6_search 0 = .ok (.aload_n 0, 1) := by decide +kernel
theorem dX6_search_1 : decode cX6_search 1 = .ok (.invokevirtual 33, 3) := by decide +kernel
theorem dX6_search_4 : decode cX6_search 4 = .ok (.aload_n 0, 1) := by decide +kernel
theorem dX6_search_5 : decode cX6_search 5 = .ok (.iload_n 2, 1) := by decide +kernel
theorem dX6_search_6 : decode cX6_search 6 = .ok (.putfield 36, 3) := by decide +kernel
theorem dX6_search_9 : decode cX6_search 9 = .ok (.aload_n 0, 1) := by decide +kernel
theorem dX6_search_10 : decode cX6_search 10 = .ok (.getfield 26, 3) := by decide +kernel
theorem dX6_search_13 : decode cX6_search 13 = .ok (.aload_n 0, 1) := by decide +kernel
theorem dX6_search_14 : decode cX6_search 14 = .ok (.getfield 22, 3) := by decide +kernel
theorem dX6_search_17 : decode cX6_search 17 = .ok (.invokevirtual 39, 3) := by decide +kernel
theorem dX6_search_20 : decode cX6_search 20 = .ok (.aload_n 0, 1) := by decide +kernel
theorem dX6_search_21 : decode cX6_search 21 = .ok (.iload_n 1, 1) := by decide +kernel
theorem dX6_search_22 : decode cX6_search 22 = .ok (.iconst 0, 1) := by decide +kernel
theorem dX6_search_23 : decode cX6_search 23 = .ok (.iconst 0, 1) := by decide +kernel
theorem dX6_search_24 : decode cX6_search 24 = .ok (.ldc 45, 2) := by decide +kernel
theorem dX6_search_26 : decode cX6_search 26 = .ok (.iconst 0, 1) := by decide +kernel
theorem dX6_search_27 : decode cX6_search 27 = .ok (.invokevirtual 46, 3) := by decide +kernel
theorem dX6_search_30 : decode cX6_search 30 = .ok (.return_, 1) := by decide +kernel
theorem dX6_searchDeals_0 : decode cX6_searchDeals 0 = .ok (.aload_n 0, 1) := by decide +kernel
theorem dX6_searchDeals_1 : decode cX6_searchDeals 1 = .ok (.invokevirtual 33, 3) := by decide +kernel
theorem dX6_searchDeals_4 : decode cX6_searchDeals 4 = .ok (.aload_n 0, 1) := by decide +kernel
theorem dX6_searchDeals_5 : decode cX6_searchDeals 5 = .ok (.iconst 0, 1) := by decide +kernel
theorem dX6_searchDeals_6 : decode cX6_searchDeals 6 = .ok (.iconst 0, 1) := by decide +kernel
theorem dX6_searchDeals_7 : decode cX6_searchDeals 7 = .ok (.iconst 0, 1) := by decide +kernel
theorem dX6_searchDeals_8 : decode cX6_searchDeals 8 = .ok (.iconst 0, 1) := by decide +kernel
theorem dX6_searchDeals_9 : decode cX6_searchDeals 9 = .ok (.invokevirtual 50, 3) := by decide +kernel
theorem dX6_searchDeals_12 : decode cX6_searchDeals 12 = .ok (.return_, 1) := by decide +kernel
theorem dX6_forget_0 : decode cX6_forget 0 = .ok (.aload_n 0, 1) := by decide +kernel
theorem dX6_forget_1 : decode cX6_forget 1 = .ok (.iconst 0, 1) := by decide +kernel
theorem dX6_forget_2 : decode cX6_forget 2 = .ok (.putfield 54, 3) := by decide +kernel
theorem dX6_forget_5 : decode cX6_forget 5 = .ok (.aload_n 0, 1) := by decide +kernel
theorem dX6_forget_6 : decode cX6_forget 6 = .ok (.iconst (-1), 1) := by decide +kernel
theorem dX6_forget_7 : decode cX6_forget 7 = .ok (.putfield 57, 3) := by decide +kernel
theorem dX6_forget_10 : decode cX6_forget 10 = .ok (.aload_n 0, 1) := by decide +kernel
theorem dX6_forget_11 : decode cX6_forget 11 = .ok (.iconst 0, 1) := by decide +kernel
theorem dX6_forget_12 : decode cX6_forget 12 = .ok (.putfield 60, 3) := by decide +kernel
theorem dX6_forget_15 : decode cX6_forget 15 = .ok (.aload_n 0, 1) := by decide +kernel
theorem dX6_forget_16 : decode cX6_forget 16 = .ok (.iconst 0, 1) := by decide +kernel
theorem dX6_forget_17 : decode cX6_forget 17 = .ok (.putfield 63, 3) := by decide +kernel
theorem dX6_forget_20 : decode cX6_forget 20 = .ok (.aload_n 0, 1) := by decide +kernel
theorem dX6_forget_21 : decode cX6_forget 21 = .ok (.iconst 0, 1) := by decide +kernel
theorem dX6_forget_22 : decode cX6_forget 22 = .ok (.putfield 66, 3) := by decide +kernel
theorem dX6_forget_25 : decode cX6_forget 25 = .ok (.return_, 1) := by decide +kernel
theorem dX6_goVisits_0 : decode cX6_goVisits 0 = .ok (.iload_n 1, 1) := by decide +kernel
theorem dX6_goVisits_1 : decode cX6_goVisits 1 = .ok (.iconst 1, 1) := by decide +kernel
theorem dX6_goVisits_2 : decode cX6_goVisits 2 = .ok (.if_icmp .lt 14, 3) := by decide +kernel
theorem dX6_goVisits_5 : decode cX6_goVisits 5 = .ok (.aload_n 0, 1) := by decide +kernel
theorem dX6_goVisits_6 : decode cX6_goVisits 6 = .ok (.getfield 18, 3) := by decide +kernel
theorem dX6_goVisits_9 : decode cX6_goVisits 9 = .ok (.getfield 69, 3) := by decide +kernel
theorem dX6_goVisits_12 : decode cX6_goVisits 12 = .ok (.iconst 1, 1) := by decide +kernel
theorem dX6_goVisits_13 : decode cX6_goVisits 13 = .ok (.if_icmp .ge 17, 3) := by decide +kernel
theorem dX6_goVisits_16 : decode cX6_goVisits 16 = .ok (.aload_n 0, 1) := by decide +kernel
theorem dX6_goVisits_17 : decode cX6_goVisits 17 = .ok (.iload_n 2, 1) := by decide +kernel
theorem dX6_goVisits_18 : decode cX6_goVisits 18 = .ok (.iload_n 3, 1) := by decide +kernel
theorem dX6_goVisits_19 : decode cX6_goVisits 19 = .ok (.invokevirtual 74, 3) := by decide +kernel
theorem dX6_goVisits_22 : decode cX6_goVisits 22 = .ok (.aload_n 0, 1) := by decide +kernel
theorem dX6_goVisits_23 : decode cX6_goVisits 23 = .ok (.iload_n 2, 1) := by decide +kernel
theorem dX6_goVisits_24 : decode cX6_goVisits 24 = .ok (.iload 4, 2) := by decide +kernel
theorem dX6_goVisits_26 : decode cX6_goVisits 26 = .ok (.invokevirtual 78, 3) := by decide +kernel
theorem dX6_goVisits_29 : decode cX6_goVisits 29 = .ok (.return_, 1) := by decide +kernel
theorem dX6_goVisits_30 : decode cX6_goVisits 30 = .ok (.aload_n 0, 1) := by decide +kernel
theorem dX6_goVisits_31 : decode cX6_goVisits 31 = .ok (.getfield 26, 3) := by decide +kernel
theorem dX6_goVisits_34 : decode cX6_goVisits 34 = .ok (.invokevirtual 81, 3) := by decide +kernel
theorem dX6_goVisits_37 : decode cX6_goVisits 37 = .ok (.istore 6, 2) := by decide +kernel
theorem dX6_goVisits_39 : decode cX6_goVisits 39 = .ok (.iconst 0, 1) := by decide +kernel
theorem dX6_goVisits_40 : decode cX6_goVisits 40 = .ok (.istore 7, 2) := by decide +kernel
theorem dX6_goVisits_42 : decode cX6_goVisits 42 = .ok (.iload 7, 2) := by decide +kernel
theorem dX6_goVisits_44 : decode cX6_goVisits 44 = .ok (.aload_n 0, 1) := by decide +kernel
theorem dX6_goVisits_45 : decode cX6_goVisits 45 = .ok (.getfield 18, 3) := by decide +kernel
theorem dX6_goVisits_48 : decode cX6_goVisits 48 = .ok (.getfield 69, 3) := by decide +kernel
theorem dX6_goVisits_51 : decode cX6_goVisits 51 = .ok (.if_icmp .ge 119, 3) := by decide +kernel
theorem dX6_goVisits_54 : decode cX6_goVisits 54 = .ok (.aload_n 0, 1) := by decide +kernel
theorem dX6_goVisits_55 : decode cX6_goVisits 55 = .ok (.getfield 36, 3) := by decide +kernel
theorem dX6_goVisits_58 : decode cX6_goVisits 58 = .ok (.ifCond .eq 13, 3) := by decide +kernel
theorem dX6_goVisits_61 : decode cX6_goVisits 61 = .ok (.iload 5, 2) := by decide +kernel
theorem dX6_goVisits_63 : decode cX6_goVisits 63 = .ok (.iload 7, 2) := by decide +kernel
theorem dX6_goVisits_65 : decode cX6_goVisits 65 = .ok (.ishr, 1) := by decide +kernel
theorem dX6_goVisits_66 : decode cX6_goVisits 66 = .ok (.iconst 1, 1) := by decide +kernel
theorem dX6_goVisits_67 : decode cX6_goVisits 67 = .ok (.iand, 1) := by decide +kernel
theorem dX6_goVisits_68 : decode cX6_goVisits 68 = .ok (.ifCond .ne 96, 3) := by decide +kernel
theorem dX6_goVisits_71 : decode cX6_goVisits 71 = .ok (.aload_n 0, 1) := by decide +kernel
theorem dX6_goVisits_72 : decode cX6_goVisits 72 = .ok (.getfield 26, 3) := by decide +kernel
theorem dX6_goVisits_75 : decode cX6_goVisits 75 = .ok (.iload 7, 2) := by decide +kernel
theorem dX6_goVisits_77 : decode cX6_goVisits 77 = .ok (.invokevirtual 85, 3) := by decide +kernel
theorem dX6_goVisits_80 : decode cX6_goVisits 80 = .ok (.istore 8, 2) := by decide +kernel
theorem dX6_goVisits_82 : decode cX6_goVisits 82 = .ok (.aload_n 0, 1) := by decide +kernel
theorem dX6_goVisits_83 : decode cX6_goVisits 83 = .ok (.getfield 26, 3) := by decide +kernel
theorem dX6_goVisits_86 : decode cX6_goVisits 86 = .ok (.iload 7, 2) := by decide +kernel
theorem dX6_goVisits_88 : decode cX6_goVisits 88 = .ok (.invokevirtual 89, 3) := by decide +kernel
theorem dX6_goVisits_91 : decode cX6_goVisits 91 = .ok (.istore 9, 2) := by decide +kernel
theorem dX6_goVisits_93 : decode cX6_goVisits 93 = .ok (.aload_n 0, 1) := by decide +kernel
theorem dX6_goVisits_94 : decode cX6_goVisits 94 = .ok (.getfield 26, 3) := by decide +kernel
theorem dX6_goVisits_97 : decode cX6_goVisits 97 = .ok (.iload 7, 2) := by decide +kernel
theorem dX6_goVisits_99 : decode cX6_goVisits 99 = .ok (.invokevirtual 92, 3) := by decide +kernel
theorem dX6_goVisits_102 : decode cX6_goVisits 102 = .ok (.istore 10, 2) := by decide +kernel
theorem dX6_goVisits_104 : decode cX6_goVisits 104 = .ok (.aload_n 0, 1) := by decide +kernel
theorem dX6_goVisits_105 : decode cX6_goVisits 105 = .ok (.getfield 26, 3) := by decide +kernel
theorem dX6_goVisits_108 : decode cX6_goVisits 108 = .ok (.iload 7, 2) := by decide +kernel
theorem dX6_goVisits_110 : decode cX6_goVisits 110 = .ok (.invokevirtual 95, 3) := by decide +kernel
theorem dX6_goVisits_113 : decode cX6_goVisits 113 = .ok (.pop, 1) := by decide +kernel
theorem dX6_goVisits_114 : decode cX6_goVisits 114 = .ok (.aload_n 0, 1) := by decide +kernel
theorem dX6_goVisits_115 : decode cX6_goVisits 115 = .ok (.iload_n 1, 1) := by decide +kernel
theorem dX6_goVisits_116 : decode cX6_goVisits 116 = .ok (.iconst 1, 1) := by decide +kernel
theorem dX6_goVisits_117 : decode cX6_goVisits 117 = .ok (.isub, 1) := by decide +kernel
theorem dX6_goVisits_118 : decode cX6_goVisits 118 = .ok (.bipush 10, 2) := by decide +kernel
theorem dX6_goVisits_120 : decode cX6_goVisits 120 = .ok (.iload_n 2, 1) := by decide +kernel
theorem dX6_goVisits_121 : decode cX6_goVisits 121 = .ok (.imul, 1) := by decide +kernel
theorem dX6_goVisits_122 : decode cX6_goVisits 122 = .ok (.iload 7, 2) := by decide +kernel
theorem dX6_goVisits_124 : decode cX6_goVisits 124 = .ok (.iadd, 1) := by decide +kernel
theorem dX6_goVisits_125 : decode cX6_goVisits 125 = .ok (.iload_n 3, 1) := by decide +kernel
theorem dX6_goVisits_126 : decode cX6_goVisits 126 = .ok (.iload 10, 2) := by decide +kernel
theorem dX6_goVisits_128 : decode cX6_goVisits 128 = .ok (.iadd, 1) := by decide +kernel
theorem dX6_goVisits_129 : decode cX6_goVisits 129 = .ok (.iload 4, 2) := by decide +kernel
theorem dX6_goVisits_131 : decode cX6_goVisits 131 = .ok (.aload_n 0, 1) := by decide +kernel
theorem dX6_goVisits_132 : decode cX6_goVisits 132 = .ok (.getfield 18, 3) := by decide +kernel
theorem dX6_goVisits_135 : decode cX6_goVisits 135 = .ok (.getfield 69, 3) := by decide +kernel
theorem dX6_goVisits_138 : decode cX6_goVisits 138 = .ok (.idiv, 1) := by decide +kernel
theorem dX6_goVisits_139 : decode cX6_goVisits 139 = .ok (.iload 5, 2) := by decide +kernel
theorem dX6_goVisits_141 : decode cX6_goVisits 141 = .ok (.iconst 1, 1) := by decide +kernel
theorem dX6_goVisits_142 : decode cX6_goVisits 142 = .ok (.iload 7, 2) := by decide +kernel
theorem dX6_goVisits_144 : decode cX6_goVisits 144 = .ok (.ishl, 1) := by decide +kernel
theorem dX6_goVisits_145 : decode cX6_goVisits 145 = .ok (.ior, 1) := by decide +kernel
theorem dX6_goVisits_146 : decode cX6_goVisits 146 = .ok (.invokevirtual 46, 3) := by decide +kernel
theorem dX6_goVisits_149 : decode cX6_goVisits 149 = .ok (.aload_n 0, 1) := by decide +kernel
theorem dX6_goVisits_150 : decode cX6_goVisits 150 = .ok (.getfield 26, 3) := by decide +kernel
theorem dX6_goVisits_153 : decode cX6_goVisits 153 = .ok (.iload 7, 2) := by decide +kernel
theorem dX6_goVisits_155 : decode cX6_goVisits 155 = .ok (.iload 6, 2) := by decide +kernel
theorem dX6_goVisits_157 : decode cX6_goVisits 157 = .ok (.iload 8, 2) := by decide +kernel
theorem dX6_goVisits_159 : decode cX6_goVisits 159 = .ok (.iload 9, 2) := by decide +kernel
theorem dX6_goVisits_161 : decode cX6_goVisits 161 = .ok (.invokevirtual 98, 3) := by decide +kernel
theorem dX6_goVisits_164 : decode cX6_goVisits 164 = .ok (.iinc 7 1, 3) := by decide +kernel
theorem dX6_goVisits_167 : decode cX6_goVisits 167 = .ok (.goto (-125), 3) := by decide +kernel
theorem dX6_goVisits_170 : decode cX6_goVisits 170 = .ok (.return_, 1) := by decide +kernel
theorem dX6_goDeals_0 : decode cX6_goDeals 0 = .ok (.iload_n 1, 1) := by decide +kernel
theorem dX6_goDeals_1 : decode cX6_goDeals 1 = .ok (.aload_n 0, 1) := by decide +kernel
theorem dX6_goDeals_2 : decode cX6_goDeals 2 = .ok (.getfield 18, 3) := by decide +kernel
theorem dX6_goDeals_5 : decode cX6_goDeals 5 = .ok (.getfield 69, 3) := by decide +kernel
theorem dX6_goDeals_8 : decode cX6_goDeals 8 = .ok (.if_icmp .lt 10, 3) := by decide +kernel
theorem dX6_goDeals_11 : decode cX6_goDeals 11 = .ok (.aload_n 0, 1) := by decide +kernel
theorem dX6_goDeals_12 : decode cX6_goDeals 12 = .ok (.iload_n 2, 1) := by decide +kernel
theorem dX6_goDeals_13 : decode cX6_goDeals 13 = .ok (.iload_n 3, 1) := by decide +kernel
theorem dX6_goDeals_14 : decode cX6_goDeals 14 = .ok (.invokevirtual 74, 3) := by decide +kernel
theorem dX6_goDeals_17 : decode cX6_goDeals 17 = .ok (.return_, 1) := by decide +kernel
theorem dX6_goDeals_18 : decode cX6_goDeals 18 = .ok (.iconst 0, 1) := by decide +kernel
theorem dX6_goDeals_19 : decode cX6_goDeals 19 = .ok (.istore 5, 2) := by decide +kernel
theorem dX6_goDeals_21 : decode cX6_goDeals 21 = .ok (.iload 5, 2) := by decide +kernel
theorem dX6_goDeals_23 : decode cX6_goDeals 23 = .ok (.aload_n 0, 1) := by decide +kernel
theorem dX6_goDeals_24 : decode cX6_goDeals 24 = .ok (.getfield 18, 3) := by decide +kernel
theorem dX6_goDeals_27 : decode cX6_goDeals 27 = .ok (.getfield 101, 3) := by decide +kernel
theorem dX6_goDeals_30 : decode cX6_goDeals 30 = .ok (.if_icmp .ge 64, 3) := by decide +kernel
theorem dX6_goDeals_33 : decode cX6_goDeals 33 = .ok (.iload 4, 2) := by decide +kernel
theorem dX6_goDeals_35 : decode cX6_goDeals 35 = .ok (.iload 5, 2) := by decide +kernel
theorem dX6_goDeals_37 : decode cX6_goDeals 37 = .ok (.ishr, 1) := by decide +kernel
theorem dX6_goDeals_38 : decode cX6_goDeals 38 = .ok (.iconst 1, 1) := by decide +kernel
theorem dX6_goDeals_39 : decode cX6_goDeals 39 = .ok (.iand, 1) := by decide +kernel
theorem dX6_goDeals_40 : decode cX6_goDeals 40 = .ok (.ifCond .ne 48, 3) := by decide +kernel
theorem dX6_goDeals_43 : decode cX6_goDeals 43 = .ok (.aload_n 0, 1) := by decide +kernel
theorem dX6_goDeals_44 : decode cX6_goDeals 44 = .ok (.getfield 18, 3) := by decide +kernel
theorem dX6_goDeals_47 : decode cX6_goDeals 47 = .ok (.aload_n 0, 1) := by decide +kernel
theorem dX6_goDeals_48 : decode cX6_goDeals 48 = .ok (.getfield 18, 3) := by decide +kernel
theorem dX6_goDeals_51 : decode cX6_goDeals 51 = .ok (.getfield 104, 3) := by decide +kernel
theorem dX6_goDeals_54 : decode cX6_goDeals 54 = .ok (.iload_n 1, 1) := by decide +kernel
theorem dX6_goDeals_55 : decode cX6_goDeals 55 = .ok (.iaload, 1) := by decide +kernel
theorem dX6_goDeals_56 : decode cX6_goDeals 56 = .ok (.iload 5, 2) := by decide +kernel
theorem dX6_goDeals_58 : decode cX6_goDeals 58 = .ok (.invokevirtual 108, 3) := by decide +kernel
theorem dX6_goDeals_61 : decode cX6_goDeals 61 = .ok (.istore 6, 2) := by decide +kernel
theorem dX6_goDeals_63 : decode cX6_goDeals 63 = .ok (.aload_n 0, 1) := by decide +kernel
theorem dX6_goDeals_64 : decode cX6_goDeals 64 = .ok (.iload_n 1, 1) := by decide +kernel
theorem dX6_goDeals_65 : decode cX6_goDeals 65 = .ok (.iconst 1, 1) := by decide +kernel
theorem dX6_goDeals_66 : decode cX6_goDeals 66 = .ok (.iadd, 1) := by decide +kernel
theorem dX6_goDeals_67 : decode cX6_goDeals 67 = .ok (.bipush 10, 2) := by decide +kernel
theorem dX6_goDeals_69 : decode cX6_goDeals 69 = .ok (.iload_n 2, 1) := by decide +kernel
theorem dX6_goDeals_70 : decode cX6_goDeals 70 = .ok (.imul, 1) := by decide +kernel
theorem dX6_goDeals_71 : decode cX6_goDeals 71 = .ok (.iload 5, 2) := by decide +kernel
theorem dX6_goDeals_73 : decode cX6_goDeals 73 = .ok (.iadd, 1) := by decide +kernel
theorem dX6_goDeals_74 : decode cX6_goDeals 74 = .ok (.iload_n 3, 1) := by decide +kernel
theorem dX6_goDeals_75 : decode cX6_goDeals 75 = .ok (.iload 6, 2) := by decide +kernel
theorem dX6_goDeals_77 : decode cX6_goDeals 77 = .ok (.iadd, 1) := by decide +kernel
theorem dX6_goDeals_78 : decode cX6_goDeals 78 = .ok (.iload 4, 2) := by decide +kernel
theorem dX6_goDeals_80 : decode cX6_goDeals 80 = .ok (.iconst 1, 1) := by decide +kernel
theorem dX6_goDeals_81 : decode cX6_goDeals 81 = .ok (.iload 5, 2) := by decide +kernel
theorem dX6_goDeals_83 : decode cX6_goDeals 83 = .ok (.ishl, 1) := by decide +kernel
theorem dX6_goDeals_84 : decode cX6_goDeals 84 = .ok (.ior, 1) := by decide +kernel
theorem dX6_goDeals_85 : decode cX6_goDeals 85 = .ok (.invokevirtual 50, 3) := by decide +kernel
theorem dX6_goDeals_88 : decode cX6_goDeals 88 = .ok (.iinc 5 1, 3) := by decide +kernel
theorem dX6_goDeals_91 : decode cX6_goDeals 91 = .ok (.goto (-70), 3) := by decide +kernel
theorem dX6_goDeals_94 : decode cX6_goDeals 94 = .ok (.return_, 1) := by decide +kernel
theorem dX6_weigh_0 : decode cX6_weigh 0 = .ok (.iload_n 2, 1) := by decide +kernel
theorem dX6_weigh_1 : decode cX6_weigh 1 = .ok (.aload_n 0, 1) := by decide +kernel
theorem dX6_weigh_2 : decode cX6_weigh 2 = .ok (.getfield 57, 3) := by decide +kernel
theorem dX6_weigh_5 : decode cX6_weigh 5 = .ok (.if_icmp .le 13, 3) := by decide +kernel
theorem dX6_weigh_8 : decode cX6_weigh 8 = .ok (.aload_n 0, 1) := by decide +kernel
theorem dX6_weigh_9 : decode cX6_weigh 9 = .ok (.iload_n 2, 1) := by decide +kernel
theorem dX6_weigh_10 : decode cX6_weigh 10 = .ok (.putfield 57, 3) := by decide +kernel
theorem dX6_weigh_13 : decode cX6_weigh 13 = .ok (.aload_n 0, 1) := by decide +kernel
theorem dX6_weigh_14 : decode cX6_weigh 14 = .ok (.iload_n 1, 1) := by decide +kernel
theorem dX6_weigh_15 : decode cX6_weigh 15 = .ok (.putfield 54, 3) := by decide +kernel
theorem dX6_weigh_18 : decode cX6_weigh 18 = .ok (.return_, 1) := by decide +kernel
theorem dX6_strike_0 : decode cX6_strike 0 = .ok (.aload_n 0, 1) := by decide +kernel
theorem dX6_strike_1 : decode cX6_strike 1 = .ok (.getfield 26, 3) := by decide +kernel
theorem dX6_strike_4 : decode cX6_strike 4 = .ok (.invokevirtual 81, 3) := by decide +kernel
theorem dX6_strike_7 : decode cX6_strike 7 = .ok (.aload_n 0, 1) := by decide +kernel
theorem dX6_strike_8 : decode cX6_strike 8 = .ok (.getfield 9, 3) := by decide +kernel
theorem dX6_strike_11 : decode cX6_strike 11 = .ok (.if_icmp .ne 7, 3) := by decide +kernel
theorem dX6_strike_14 : decode cX6_strike 14 = .ok (.iconst 1, 1) := by decide +kernel
theorem dX6_strike_15 : decode cX6_strike 15 = .ok (.goto 4, 3) := by decide +kernel
theorem dX6_strike_18 : decode cX6_strike 18 = .ok (.iconst 0, 1) := by decide +kernel
theorem dX6_strike_19 : decode cX6_strike 19 = .ok (.istore_n 3, 1) := by decide +kernel
theorem dX6_strike_20 : decode cX6_strike 20 = .ok (.iload_n 3, 1) := by decide +kernel
theorem dX6_strike_21 : decode cX6_strike 21 = .ok (.aload_n 0, 1) := by decide +kernel
theorem dX6_strike_22 : decode cX6_strike 22 = .ok (.getfield 29, 3) := by decide +kernel
theorem dX6_strike_25 : decode cX6_strike 25 = .ok (.if_icmp .ne 4, 3) := by decide +kernel
theorem dX6_strike_28 : decode cX6_strike 28 = .ok (.return_, 1) := by decide +kernel
theorem dX6_strike_29 : decode cX6_strike 29 = .ok (.aload_n 0, 1) := by decide +kernel
theorem dX6_strike_30 : decode cX6_strike 30 = .ok (.getfield 60, 3) := by decide +kernel
theorem dX6_strike_33 : decode cX6_strike 33 = .ok (.aload_n 0, 1) := by decide +kernel
theorem dX6_strike_34 : decode cX6_strike 34 = .ok (.getfield 15, 3) := by decide +kernel
theorem dX6_strike_37 : decode cX6_strike 37 = .ok (.if_icmp .ne 8, 3) := by decide +kernel
theorem dX6_strike_40 : decode cX6_strike 40 = .ok (.aload_n 0, 1) := by decide +kernel
theorem dX6_strike_41 : decode cX6_strike 41 = .ok (.iload_n 1, 1) := by decide +kernel
theorem dX6_strike_42 : decode cX6_strike 42 = .ok (.putfield 63, 3) := by decide +kernel
theorem dX6_strike_45 : decode cX6_strike 45 = .ok (.aload_n 0, 1) := by decide +kernel
theorem dX6_strike_46 : decode cX6_strike 46 = .ok (.dup, 1) := by decide +kernel
theorem dX6_strike_47 : decode cX6_strike 47 = .ok (.getfield 60, 3) := by decide +kernel
theorem dX6_strike_50 : decode cX6_strike 50 = .ok (.iconst 1, 1) := by decide +kernel
theorem dX6_strike_51 : decode cX6_strike 51 = .ok (.iadd, 1) := by decide +kernel
theorem dX6_strike_52 : decode cX6_strike 52 = .ok (.putfield 60, 3) := by decide +kernel
theorem dX6_strike_55 : decode cX6_strike 55 = .ok (.aload_n 0, 1) := by decide +kernel
theorem dX6_strike_56 : decode cX6_strike 56 = .ok (.dup, 1) := by decide +kernel
theorem dX6_strike_57 : decode cX6_strike 57 = .ok (.getfield 66, 3) := by decide +kernel
theorem dX6_strike_60 : decode cX6_strike 60 = .ok (.iload_n 2, 1) := by decide +kernel
theorem dX6_strike_61 : decode cX6_strike 61 = .ok (.iadd, 1) := by decide +kernel
theorem dX6_strike_62 : decode cX6_strike 62 = .ok (.putfield 66, 3) := by decide +kernel
theorem dX6_strike_65 : decode cX6_strike 65 = .ok (.return_, 1) := by decide +kernel
theorem dX7_init_0 : decode cX7_init 0 = .ok (.aload_n 0, 1) := by decide +kernel
theorem dX7_init_1 : decode cX7_init 1 = .ok (.invokespecial 3, 3) := by decide +kernel
theorem dX7_init_4 : decode cX7_init 4 = .ok (.aload_n 0, 1) := by decide +kernel
theorem dX7_init_5 : decode cX7_init 5 = .ok (.bipush 60, 2) := by decide +kernel
theorem dX7_init_7 : decode cX7_init 7 = .ok (.newarray .int, 2) := by decide +kernel
theorem dX7_init_9 : decode cX7_init 9 = .ok (.putfield 11, 3) := by decide +kernel
theorem dX7_init_12 : decode cX7_init 12 = .ok (.aload_n 0, 1) := by decide +kernel
theorem dX7_init_13 : decode cX7_init 13 = .ok (.bipush 40, 2) := by decide +kernel
theorem dX7_init_15 : decode cX7_init 15 = .ok (.newarray .int, 2) := by decide +kernel
theorem dX7_init_17 : decode cX7_init 17 = .ok (.putfield 15, 3) := by decide +kernel
theorem dX7_init_20 : decode cX7_init 20 = .ok (.aload_n 0, 1) := by decide +kernel
theorem dX7_init_21 : decode cX7_init 21 = .ok (.bipush 7, 2) := by decide +kernel
theorem dX7_init_23 : decode cX7_init 23 = .ok (.newarray .int, 2) := by decide +kernel
theorem dX7_init_25 : decode cX7_init 25 = .ok (.putfield 18, 3) := by decide +kernel
theorem dX7_init_28 : decode cX7_init 28 = .ok (.aload_n 0, 1) := by decide +kernel
theorem dX7_init_29 : decode cX7_init 29 = .ok (.aload_n 1, 1) := by decide +kernel
theorem dX7_init_30 : decode cX7_init 30 = .ok (.putfield 21, 3) := by decide +kernel
theorem dX7_init_33 : decode cX7_init 33 = .ok (.aload_n 0, 1) := by decide +kernel
theorem dX7_init_34 : decode cX7_init 34 = .ok (.aload_n 2, 1) := by decide +kernel
theorem dX7_init_35 : decode cX7_init 35 = .ok (.putfield 25, 3) := by decide +kernel
theorem dX7_init_38 : decode cX7_init 38 = .ok (.return_, 1) := by decide +kernel
theorem dX7_add_0 : decode cX7_add 0 = .ok (.aload_n 0, 1) := by decide +kernel
theorem dX7_add_1 : decode cX7_add 1 = .ok (.getfield 29, 3) := by decide +kernel
theorem dX7_add_4 : decode cX7_add 4 = .ok (.bipush 10, 2) := by decide +kernel
theorem dX7_add_6 : decode cX7_add 6 = .ok (.if_icmp .ge 60, 3) := by decide +kernel
theorem dX7_add_9 : decode cX7_add 9 = .ok (.aload_n 0, 1) := by decide +kernel
theorem dX7_add_10 : decode cX7_add 10 = .ok (.getfield 29, 3) := by decide +kernel
theorem dX7_add_13 : decode cX7_add 13 = .ok (.iconst 4, 1) := by decide +kernel
theorem dX7_add_14 : decode cX7_add 14 = .ok (.imul, 1) := by decide +kernel
theorem dX7_add_15 : decode cX7_add 15 = .ok (.istore 5, 2) := by decide +kernel
theorem dX7_add_17 : decode cX7_add 17 = .ok (.aload_n 0, 1) := by decide +kernel
theorem dX7_add_18 : decode cX7_add 18 = .ok (.getfield 15, 3) := by decide +kernel
theorem dX7_add_21 : decode cX7_add 21 = .ok (.iload 5, 2) := by decide +kernel
theorem dX7_add_23 : decode cX7_add 23 = .ok (.iload_n 1, 1) := by decide +kernel
theorem dX7_add_24 : decode cX7_add 24 = .ok (.iastore, 1) := by decide +kernel
theorem dX7_add_25 : decode cX7_add 25 = .ok (.aload_n 0, 1) := by decide +kernel
theorem dX7_add_26 : decode cX7_add 26 = .ok (.getfield 15, 3) := by decide +kernel
theorem dX7_add_29 : decode cX7_add 29 = .ok (.iload 5, 2) := by decide +kernel
theorem dX7_add_31 : decode cX7_add 31 = .ok (.iconst 1, 1) := by decide +kernel
theorem dX7_add_32 : decode cX7_add 32 = .ok (.iadd, 1) := by decide +kernel
theorem dX7_add_33 : decode cX7_add 33 = .ok (.iload_n 2, 1) := by decide +kernel
theorem dX7_add_34 : decode cX7_add 34 = .ok (.iastore, 1) := by decide +kernel
theorem dX7_add_35 : decode cX7_add 35 = .ok (.aload_n 0, 1) := by decide +kernel
theorem dX7_add_36 : decode cX7_add 36 = .ok (.getfield 15, 3) := by decide +kernel
theorem dX7_add_39 : decode cX7_add 39 = .ok (.iload 5, 2) := by decide +kernel
theorem dX7_add_41 : decode cX7_add 41 = .ok (.iconst 2, 1) := by decide +kernel
theorem dX7_add_42 : decode cX7_add 42 = .ok (.iadd, 1) := by decide +kernel
theorem dX7_add_43 : decode cX7_add 43 = .ok (.iload_n 3, 1) := by decide +kernel
theorem dX7_add_44 : decode cX7_add 44 = .ok (.iastore, 1) := by decide +kernel
theorem dX7_add_45 : decode cX7_add 45 = .ok (.aload_n 0, 1) := by decide +kernel
theorem dX7_add_46 : decode cX7_add 46 = .ok (.getfield 15, 3) := by decide +kernel
theorem dX7_add_49 : decode cX7_add 49 = .ok (.iload 5, 2) := by decide +kernel
theorem dX7_add_51 : decode cX7_add 51 = .ok (.iconst 3, 1) := by decide +kernel
theorem dX7_add_52 : decode cX7_add 52 = .ok (.iadd, 1) := by decide +kernel
theorem dX7_add_53 : decode cX7_add 53 = .ok (.iload 4, 2) := by decide +kernel
theorem dX7_add_55 : decode cX7_add 55 = .ok (.iastore, 1) := by decide +kernel
theorem dX7_add_56 : decode cX7_add 56 = .ok (.aload_n 0, 1) := by decide +kernel
theorem dX7_add_57 : decode cX7_add 57 = .ok (.dup, 1) := by decide +kernel
theorem dX7_add_58 : decode cX7_add 58 = .ok (.getfield 29, 3) := by decide +kernel
theorem dX7_add_61 : decode cX7_add 61 = .ok (.iconst 1, 1) := by decide +kernel
theorem dX7_add_62 : decode cX7_add 62 = .ok (.iadd, 1) := by decide +kernel
theorem dX7_add_63 : decode cX7_add 63 = .ok (.putfield 29, 3) := by decide +kernel
theorem dX7_add_66 : decode cX7_add 66 = .ok (.return_, 1) := by decide +kernel
theorem dX7_gather_0 : decode cX7_gather 0 = .ok (.iconst 0, 1) := by decide +kernel
theorem dX7_gather_1 : decode cX7_gather 1 = .ok (.istore_n 2, 1) := by decide +kernel
theorem dX7_gather_2 : decode cX7_gather 2 = .ok (.iconst 0, 1) := by decide +kernel
theorem dX7_gather_3 : decode cX7_gather 3 = .ok (.istore_n 3, 1) := by decide +kernel
theorem dX7_gather_4 : decode cX7_gather 4 = .ok (.iload_n 3, 1) := by decide +kernel
theorem dX7_gather_5 : decode cX7_gather 5 = .ok (.aload_n 0, 1) := by decide +kernel
theorem dX7_gather_6 : decode cX7_gather 6 = .ok (.getfield 21, 3) := by decide +kernel
theorem dX7_gather_9 : decode cX7_gather 9 = .ok (.getfield 33, 3) := by decide +kernel
theorem dX7_gather_12 : decode cX7_gather 12 = .ok (.if_icmp .ge 52, 3) := by decide +kernel
theorem dX7_gather_15 : decode cX7_gather 15 = .ok (.iconst 0, 1) := by decide +kernel
theorem dX7_gather_16 : decode cX7_gather 16 = .ok (.istore 4, 2) := by decide +kernel
theorem dX7_gather_18 : decode cX7_gather 18 = .ok (.iload 4, 2) := by decide +kernel
theorem dX7_gather_20 : decode cX7_gather 20 = .ok (.bipush 10, 2) := by decide +kernel
theorem dX7_gather_22 : decode cX7_gather 22 = .ok (.if_icmp .ge 36, 3) := by decide +kernel
theorem dX7_gather_25 : decode cX7_gather 25 = .ok (.aload_n 0, 1) := by decide +kernel
theorem dX7_gather_26 : decode cX7_gather 26 = .ok (.iload_n 1, 1) := by decide +kernel
theorem dX7_gather_27 : decode cX7_gather 27 = .ok (.iload_n 3, 1) := by decide +kernel
theorem dX7_gather_28 : decode cX7_gather 28 = .ok (.iload 4, 2) := by decide +kernel
theorem dX7_gather_30 : decode cX7_gather 30 = .ok (.invokevirtual 38, 3) := by decide +kernel
theorem dX7_gather_33 : decode cX7_gather 33 = .ok (.ifCond .eq 19, 3) := by decide +kernel
theorem dX7_gather_36 : decode cX7_gather 36 = .ok (.aload_n 0, 1) := by decide +kernel
theorem dX7_gather_37 : decode cX7_gather 37 = .ok (.getfield 11, 3) := by decide +kernel
theorem dX7_gather_40 : decode cX7_gather 40 = .ok (.iload_n 2, 1) := by decide +kernel
theorem dX7_gather_41 : decode cX7_gather 41 = .ok (.bipush 10, 2) := by decide +kernel
theorem dX7_gather_43 : decode cX7_gather 43 = .ok (.iload_n 3, 1) := by decide +kernel
theorem dX7_gather_44 : decode cX7_gather 44 = .ok (.imul, 1) := by decide +kernel
theorem dX7_gather_45 : decode cX7_gather 45 = .ok (.iload 4, 2) := by decide +kernel
theorem dX7_gather_47 : decode cX7_gather 47 = .ok (.iadd, 1) := by decide +kernel
theorem dX7_gather_48 : decode cX7_gather 48 = .ok (.iastore, 1) := by decide +kernel
theorem dX7_gather_49 : decode cX7_gather 49 = .ok (.iinc 2 1, 3) := by decide +kernel
theorem dX7_gather_52 : decode cX7_gather 52 = .ok (.iinc 4 1, 3) := by decide +kernel
theorem dX7_gather_55 : decode cX7_gather 55 = .ok (.goto (-37), 3) := by decide +kernel
theorem dX7_gather_58 : decode cX7_gather 58 = .ok (.iinc 3 1, 3) := by decide +kernel
theorem dX7_gather_61 : decode cX7_gather 61 = .ok (.goto (-57), 3) := by decide +kernel
theorem dX7_gather_64 : decode cX7_gather 64 = .ok (.iload_n 2, 1) := by decide +kernel
theorem dX7_gather_65 : decode cX7_gather 65 = .ok (.ireturn, 1) := by decide +kernel
theorem dX7_isSo_0 : decode cX7_isSo 0 = .ok (.iconst 0, 1) := by decide +kernel
theorem dX7_isSo_1 : decode cX7_isSo 1 = .ok (.istore 4, 2) := by decide +kernel
theorem dX7_isSo_3 : decode cX7_isSo 3 = .ok (.iload 4, 2) := by decide +kernel
theorem dX7_isSo_5 : decode cX7_isSo 5 = .ok (.aload_n 0, 1) := by decide +kernel
theorem dX7_isSo_6 : decode cX7_isSo 6 = .ok (.getfield 29, 3) := by decide +kernel
theorem dX7_isSo_9 : decode cX7_isSo 9 = .ok (.if_icmp .ge 68, 3) := by decide +kernel
theorem dX7_isSo_12 : decode cX7_isSo 12 = .ok (.iload 4, 2) := by decide +kernel
theorem dX7_isSo_14 : decode cX7_isSo 14 = .ok (.iconst 4, 1) := by decide +kernel
theorem dX7_isSo_15 : decode cX7_isSo 15 = .ok (.imul, 1) := by decide +kernel
theorem dX7_isSo_16 : decode cX7_isSo 16 = .ok (.istore 5, 2) := by decide +kernel
theorem dX7_isSo_18 : decode cX7_isSo 18 = .ok (.aload_n 0, 1) := by decide +kernel
theorem dX7_isSo_19 : decode cX7_isSo 19 = .ok (.getfield 15, 3) := by decide +kernel
theorem dX7_isSo_22 : decode cX7_isSo 22 = .ok (.iload 5, 2) := by decide +kernel
theorem dX7_isSo_24 : decode cX7_isSo 24 = .ok (.iaload, 1) := by decide +kernel
theorem dX7_isSo_25 : decode cX7_isSo 25 = .ok (.iload_n 1, 1) := by decide +kernel
theorem dX7_isSo_26 : decode cX7_isSo 26 = .ok (.if_icmp .ne 45, 3) := by decide +kernel
theorem dX7_isSo_29 : decode cX7_isSo 29 = .ok (.aload_n 0, 1) := by decide +kernel
theorem dX7_isSo_30 : decode cX7_isSo 30 = .ok (.getfield 25, 3) := by decide +kernel
theorem dX7_isSo_33 : decode cX7_isSo 33 = .ok (.iload_n 2, 1) := by decide +kernel
theorem dX7_isSo_34 : decode cX7_isSo 34 = .ok (.iload_n 3, 1) := by decide +kernel
theorem dX7_isSo_35 : decode cX7_isSo 35 = .ok (.aload_n 0, 1) := by decide +kernel
theorem dX7_isSo_36 : decode cX7_isSo 36 = .ok (.getfield 15, 3) := by decide +kernel
theorem dX7_isSo_39 : decode cX7_isSo 39 = .ok (.iload 5, 2) := by decide +kernel
theorem dX7_isSo_41 : decode cX7_isSo 41 = .ok (.iconst 2, 1) := by decide +kernel
theorem dX7_isSo_42 : decode cX7_isSo 42 = .ok (.iadd, 1) := by decide +kernel
theorem dX7_isSo_43 : decode cX7_isSo 43 = .ok (.iaload, 1) := by decide +kernel
theorem dX7_isSo_44 : decode cX7_isSo 44 = .ok (.iconst 0, 1) := by decide +kernel
theorem dX7_isSo_45 : decode cX7_isSo 45 = .ok (.aload_n 0, 1) := by decide +kernel
theorem dX7_isSo_46 : decode cX7_isSo 46 = .ok (.getfield 15, 3) := by decide +kernel
theorem dX7_isSo_49 : decode cX7_isSo 49 = .ok (.iload 5, 2) := by decide +kernel
theorem dX7_isSo_51 : decode cX7_isSo 51 = .ok (.iconst 1, 1) := by decide +kernel
theorem dX7_isSo_52 : decode cX7_isSo 52 = .ok (.iadd, 1) := by decide +kernel
theorem dX7_isSo_53 : decode cX7_isSo 53 = .ok (.iaload, 1) := by decide +kernel
theorem dX7_isSo_54 : decode cX7_isSo 54 = .ok (.invokevirtual 42, 3) := by decide +kernel
theorem dX7_isSo_57 : decode cX7_isSo 57 = .ok (.aload_n 0, 1) := by decide +kernel
theorem dX7_isSo_58 : decode cX7_isSo 58 = .ok (.getfield 15, 3) := by decide +kernel
theorem dX7_isSo_61 : decode cX7_isSo 61 = .ok (.iload 5, 2) := by decide +kernel
theorem dX7_isSo_63 : decode cX7_isSo 63 = .ok (.iconst 3, 1) := by decide +kernel
theorem dX7_isSo_64 : decode cX7_isSo 64 = .ok (.iadd, 1) := by decide +kernel
theorem dX7_isSo_65 : decode cX7_isSo 65 = .ok (.iaload, 1) := by decide +kernel
theorem dX7_isSo_66 : decode cX7_isSo 66 = .ok (.if_icmp .eq 5, 3) := by decide +kernel
theorem dX7_isSo_69 : decode cX7_isSo 69 = .ok (.iconst 0, 1) := by decide +kernel
theorem dX7_isSo_70 : decode cX7_isSo 70 = .ok (.ireturn, 1) := by decide +kernel
theorem dX7_isSo_71 : decode cX7_isSo 71 = .ok (.iinc 4 1, 3) := by decide +kernel
theorem dX7_isSo_74 : decode cX7_isSo 74 = .ok (.goto (-71), 3) := by decide +kernel
theorem dX7_isSo_77 : decode cX7_isSo 77 = .ok (.iconst 1, 1) := by decide +kernel
theorem dX7_isSo_78 : decode cX7_isSo 78 = .ok (.ireturn, 1) := by decide +kernel
theorem dX7_telling_0 : decode cX7_telling 0 = .ok (.iconst (-1), 1) := by decide +kernel
theorem dX7_telling_1 : decode cX7_telling 1 = .ok (.istore_n 3, 1) := by decide +kernel
theorem dX7_telling_2 : decode cX7_telling 2 = .ok (.iconst 0, 1) := by decide +kernel
theorem dX7_telling_3 : decode cX7_telling 3 = .ok (.istore 4, 2) := by decide +kernel
theorem dX7_telling_5 : decode cX7_telling 5 = .ok (.iconst 0, 1) := by decide +kernel
theorem dX7_telling_6 : decode cX7_telling 6 = .ok (.istore 5, 2) := by decide +kernel
theorem dX7_telling_8 : decode cX7_telling 8 = .ok (.iload 5, 2) := by decide +kernel
theorem dX7_telling_10 : decode cX7_telling 10 = .ok (.aload_n 0, 1) := by decide +kernel
theorem dX7_telling_11 : decode cX7_telling 11 = .ok (.getfield 21, 3) := by decide +kernel
theorem dX7_telling_14 : decode cX7_telling 14 = .ok (.getfield 33, 3) := by decide +kernel
theorem dX7_telling_17 : decode cX7_telling 17 = .ok (.if_icmp .ge 42, 3) := by decide +kernel
theorem dX7_telling_20 : decode cX7_telling 20 = .ok (.iload_n 1, 1) := by decide +kernel
theorem dX7_telling_21 : decode cX7_telling 21 = .ok (.ifCond .le 38, 3) := by decide +kernel
theorem dX7_telling_24 : decode cX7_telling 24 = .ok (.aload_n 0, 1) := by decide +kernel
theorem dX7_telling_25 : decode cX7_telling 25 = .ok (.iload_n 1, 1) := by decide +kernel
theorem dX7_telling_26 : decode cX7_telling 26 = .ok (.iload_n 2, 1) := by decide +kernel
theorem dX7_telling_27 : decode cX7_telling 27 = .ok (.iload 5, 2) := by decide +kernel
theorem dX7_telling_29 : decode cX7_telling 29 = .ok (.invokevirtual 48, 3) := by decide +kernel
theorem dX7_telling_32 : decode cX7_telling 32 = .ok (.istore 6, 2) := by decide +kernel
theorem dX7_telling_34 : decode cX7_telling 34 = .ok (.iload_n 3, 1) := by decide +kernel
theorem dX7_telling_35 : decode cX7_telling 35 = .ok (.iconst (-1), 1) := by decide +kernel
theorem dX7_telling_36 : decode cX7_telling 36 = .ok (.if_icmp .eq 10, 3) := by decide +kernel
theorem dX7_telling_39 : decode cX7_telling 39 = .ok (.iload 6, 2) := by decide +kernel
theorem dX7_telling_41 : decode cX7_telling 41 = .ok (.iload 4, 2) := by decide +kernel
theorem dX7_telling_43 : decode cX7_telling 43 = .ok (.if_icmp .ge 10, 3) := by decide +kernel
theorem dX7_telling_46 : decode cX7_telling 46 = .ok (.iload 5, 2) := by decide +kernel
theorem dX7_telling_48 : decode cX7_telling 48 = .ok (.istore_n 3, 1) := by decide +kernel
theorem dX7_telling_49 : decode cX7_telling 49 = .ok (.iload 6, 2) := by decide +kernel
theorem dX7_telling_51 : decode cX7_telling 51 = .ok (.istore 4, 2) := by decide +kernel
theorem dX7_telling_53 : decode cX7_telling 53 = .ok (.iinc 5 1, 3) := by decide +kernel
theorem dX7_telling_56 : decode cX7_telling 56 = .ok (.goto (-48), 3) := by decide +kernel
theorem dX7_telling_59 : decode cX7_telling 59 = .ok (.iload_n 3, 1) := by decide +kernel
theorem dX7_telling_60 : decode cX7_telling 60 = .ok (.ireturn, 1) := by decide +kernel
theorem dX7_largestPart_0 : decode cX7_largestPart 0 = .ok (.aload_n 0, 1) := by decide +kernel
theorem dX7_largestPart_1 : decode cX7_largestPart 1 = .ok (.getfield 18, 3) := by decide +kernel
theorem dX7_largestPart_4 : decode cX7_largestPart 4 = .ok (.iconst 0, 1) := by decide +kernel
theorem dX7_largestPart_5 : decode cX7_largestPart 5 = .ok (.invokestatic 52, 3) := by decide +kernel
theorem dX7_largestPart_8 : decode cX7_largestPart 8 = .ok (.iconst 0, 1) := by decide +kernel
theorem dX7_largestPart_9 : decode cX7_largestPart 9 = .ok (.istore 4, 2) := by decide +kernel
theorem dX7_largestPart_11 : decode cX7_largestPart 11 = .ok (.iconst 0, 1) := by decide +kernel
theorem dX7_largestPart_12 : decode cX7_largestPart 12 = .ok (.istore 5, 2) := by decide +kernel
theorem dX7_largestPart_14 : decode cX7_largestPart 14 = .ok (.iload 5, 2) := by decide +kernel
theorem dX7_largestPart_16 : decode cX7_largestPart 16 = .ok (.iload_n 1, 1) := by decide +kernel
theorem dX7_largestPart_17 : decode cX7_largestPart 17 = .ok (.if_icmp .ge 80, 3) := by decide +kernel
theorem dX7_largestPart_20 : decode cX7_largestPart 20 = .ok (.iload 5, 2) := by decide +kernel
theorem dX7_largestPart_22 : decode cX7_largestPart 22 = .ok (.aload_n 0, 1) := by decide +kernel
theorem dX7_largestPart_23 : decode cX7_largestPart 23 = .ok (.getfield 11, 3) := by decide +kernel
theorem dX7_largestPart_26 : decode cX7_largestPart 26 = .ok (.arraylength, 1) := by decide +kernel
theorem dX7_largestPart_27 : decode cX7_largestPart 27 = .ok (.if_icmp .ge 70, 3) := by decide +kernel
theorem dX7_largestPart_30 : decode cX7_largestPart 30 = .ok (.aload_n 0, 1) := by decide +kernel
theorem dX7_largestPart_31 : decode cX7_largestPart 31 = .ok (.getfield 25, 3) := by decide +kernel
theorem dX7_largestPart_34 : decode cX7_largestPart 34 = .ok (.aload_n 0, 1) := by decide +kernel
theorem dX7_largestPart_35 : decode cX7_largestPart 35 = .ok (.getfield 11, 3) := by decide +kernel
theorem dX7_largestPart_38 : decode cX7_largestPart 38 = .ok (.iload 5, 2) := by decide +kernel
theorem dX7_largestPart_40 : decode cX7_largestPart 40 = .ok (.iaload, 1) := by decide +kernel
theorem dX7_largestPart_41 : decode cX7_largestPart 41 = .ok (.bipush 10, 2) := by decide +kernel
theorem dX7_largestPart_43 : decode cX7_largestPart 43 = .ok (.idiv, 1) := by decide +kernel
theorem dX7_largestPart_44 : decode cX7_largestPart 44 = .ok (.aload_n 0, 1) := by decide +kernel
theorem dX7_largestPart_45 : decode cX7_largestPart 45 = .ok (.getfield 11, 3) := by decide +kernel
theorem dX7_largestPart_48 : decode cX7_largestPart 48 = .ok (.iload 5, 2) := by decide +kernel
theorem dX7_largestPart_50 : decode cX7_largestPart 50 = .ok (.iaload, 1) := by decide +kernel
theorem dX7_largestPart_51 : decode cX7_largestPart 51 = .ok (.bipush 10, 2) := by decide +kernel
theorem dX7_largestPart_53 : decode cX7_largestPart 53 = .ok (.irem, 1) := by decide +kernel
theorem dX7_largestPart_54 : decode cX7_largestPart 54 = .ok (.iload_n 2, 1) := by decide +kernel
theorem dX7_largestPart_55 : decode cX7_largestPart 55 = .ok (.iconst 0, 1) := by decide +kernel
theorem dX7_largestPart_56 : decode cX7_largestPart 56 = .ok (.iload_n 3, 1) := by decide +kernel
theorem dX7_largestPart_57 : decode cX7_largestPart 57 = .ok (.invokevirtual 42, 3) := by decide +kernel
theorem dX7_largestPart_60 : decode cX7_largestPart 60 = .ok (.istore 6, 2) := by decide +kernel
theorem dX7_largestPart_62 : decode cX7_largestPart 62 = .ok (.aload_n 0, 1) := by decide +kernel
theorem dX7_largestPart_63 : decode cX7_largestPart 63 = .ok (.getfield 18, 3) := by decide +kernel
theorem dX7_largestPart_66 : decode cX7_largestPart 66 = .ok (.iload 6, 2) := by decide +kernel
theorem dX7_largestPart_68 : decode cX7_largestPart 68 = .ok (.iconst 1, 1) := by decide +kernel
theorem dX7_largestPart_69 : decode cX7_largestPart 69 = .ok (.iadd, 1) := by decide +kernel
theorem dX7_largestPart_70 : decode cX7_largestPart 70 = .ok (.dup2, 1) := by decide +kernel
theorem dX7_largestPart_71 : decode cX7_largestPart 71 = .ok (.iaload, 1) := by decide +kernel
theorem dX7_largestPart_72 : decode cX7_largestPart 72 = .ok (.iconst 1, 1) := by decide +kernel
theorem dX7_largestPart_73 : decode cX7_largestPart 73 = .ok (.iadd, 1) := by decide +kernel
theorem dX7_largestPart_74 : decode cX7_largestPart 74 = .ok (.iastore, 1) := by decide +kernel
theorem dX7_largestPart_75 : decode cX7_largestPart 75 = .ok (.iload 4, 2) := by decide +kernel
theorem dX7_largestPart_77 : decode cX7_largestPart 77 = .ok (.aload_n 0, 1) := by decide +kernel
theorem dX7_largestPart_78 : decode cX7_largestPart 78 = .ok (.getfield 18, 3) := by decide +kernel
theorem dX7_largestPart_81 : decode cX7_largestPart 81 = .ok (.iload 6, 2) := by decide +kernel
theorem dX7_largestPart_83 : decode cX7_largestPart 83 = .ok (.iconst 1, 1) := by decide +kernel
theorem dX7_largestPart_84 : decode cX7_largestPart 84 = .ok (.iadd, 1) := by decide +kernel
theorem dX7_largestPart_85 : decode cX7_largestPart 85 = .ok (.iaload, 1) := by decide +kernel
theorem dX7_largestPart_86 : decode cX7_largestPart 86 = .ok (.invokestatic 58, 3) := by decide +kernel
theorem dX7_largestPart_89 : decode cX7_largestPart 89 = .ok (.istore 4, 2) := by decide +kernel
theorem dX7_largestPart_91 : decode cX7_largestPart 91 = .ok (.iinc 5 1, 3) := by decide +kernel
theorem dX7_largestPart_94 : decode cX7_largestPart 94 = .ok (.goto (-80), 3) := by decide +kernel
theorem dX7_largestPart_97 : decode cX7_largestPart 97 = .ok (.iload 4, 2) := by decide +kernel
theorem dX7_largestPart_99 : decode cX7_largestPart 99 = .ok (.ireturn, 1) := by decide +kernel
theorem dX8_init_0 : decode cX8_init 0 = .ok (.aload_n 0, 1) := by decide +kernel
theorem dX8_init_1 : decode cX8_init 1 = .ok (.invokespecial 5, 3) := by decide +kernel
theorem dX8_init_4 : decode cX8_init 4 = .ok (.aload_n 0, 1) := by decide +kernel
theorem dX8_init_5 : decode cX8_init 5 = .ok (.bipush 28, 2) := by decide +kernel
theorem dX8_init_7 : decode cX8_init 7 = .ok (.newarray .int, 2) := by decide +kernel
theorem dX8_init_9 : decode cX8_init 9 = .ok (.putfield 11, 3) := by decide +kernel
theorem dX8_init_12 : decode cX8_init 12 = .ok (.aload_n 0, 1) := by decide +kernel
theorem dX8_init_13 : decode cX8_init 13 = .ok (.aload_n 1, 1) := by decide +kernel
theorem dX8_init_14 : decode cX8_init 14 = .ok (.putfield 15, 3) := by decide +kernel
theorem dX8_init_17 : decode cX8_init 17 = .ok (.aload_n 0, 1) := by decide +kernel
theorem dX8_init_18 : decode cX8_init 18 = .ok (.aload_n 2, 1) := by decide +kernel
theorem dX8_init_19 : decode cX8_init 19 = .ok (.putfield 19, 3) := by decide +kernel
theorem dX8_init_22 : decode cX8_init 22 = .ok (.return_, 1) := by decide +kernel
theorem dX8_settle_0 : decode cX8_settle 0 = .ok (.aload_n 0, 1) := by decide +kernel
theorem dX8_settle_1 : decode cX8_settle 1 = .ok (.getfield 11, 3) := by decide +kernel
theorem dX8_settle_4 : decode cX8_settle 4 = .ok (.iconst 0, 1) := by decide +kernel
theorem dX8_settle_5 : decode cX8_settle 5 = .ok (.invokestatic 23, 3) := by decide +kernel
theorem dX8_settle_8 : decode cX8_settle 8 = .ok (.aload_n 0, 1) := by decide +kernel
theorem dX8_settle_9 : decode cX8_settle 9 = .ok (.getfield 11, 3) := by decide +kernel
theorem dX8_settle_12 : decode cX8_settle 12 = .ok (.iconst 0, 1) := by decide +kernel
theorem dX8_settle_13 : decode cX8_settle 13 = .ok (.aload_n 1, 1) := by decide +kernel
theorem dX8_settle_14 : decode cX8_settle 14 = .ok (.invokevirtual 29, 3) := by decide +kernel
theorem dX8_settle_17 : decode cX8_settle 17 = .ok (.iastore, 1) := by decide +kernel
theorem dX8_settle_18 : decode cX8_settle 18 = .ok (.iconst 0, 1) := by decide +kernel
theorem dX8_settle_19 : decode cX8_settle 19 = .ok (.istore_n 2, 1) := by decide +kernel
theorem dX8_settle_20 : decode cX8_settle 20 = .ok (.iload_n 2, 1) := by decide +kernel
theorem dX8_settle_21 : decode cX8_settle 21 = .ok (.aload_n 0, 1) := by decide +kernel
theorem dX8_settle_22 : decode cX8_settle 22 = .ok (.getfield 15, 3) := by decide +kernel
theorem dX8_settle_25 : decode cX8_settle 25 = .ok (.getfield 35, 3) := by decide +kernel
theorem dX8_settle_28 : decode cX8_settle 28 = .ok (.if_icmp .ge 23, 3) := by decide +kernel
theorem dX8_settle_31 : decode cX8_settle 31 = .ok (.aload_n 0, 1) := by decide +kernel
theorem dX8_settle_32 : decode cX8_settle 32 = .ok (.getfield 11, 3) := by decide +kernel
theorem dX8_settle_35 : decode cX8_settle 35 = .ok (.bipush 22, 2) := by decide +kernel
theorem dX8_settle_37 : decode cX8_settle 37 = .ok (.iload_n 2, 1) := by decide +kernel
theorem dX8_settle_38 : decode cX8_settle 38 = .ok (.iadd, 1) := by decide +kernel
theorem dX8_settle_39 : decode cX8_settle 39 = .ok (.aload_n 1, 1) := by decide +kernel
theorem dX8_settle_40 : decode cX8_settle 40 = .ok (.iload_n 2, 1) := by decide +kernel
theorem dX8_settle_41 : decode cX8_settle 41 = .ok (.invokevirtual 41, 3) := by decide +kernel
theorem dX8_settle_44 : decode cX8_settle 44 = .ok (.iastore, 1) := by decide +kernel
theorem dX8_settle_45 : decode cX8_settle 45 = .ok (.iinc 2 1, 3) := by decide +kernel
theorem dX8_settle_48 : decode cX8_settle 48 = .ok (.goto (-28), 3) := by decide +kernel
theorem dX8_settle_51 : decode cX8_settle 51 = .ok (.iconst 0, 1) := by decide +kernel
theorem dX8_settle_52 : decode cX8_settle 52 = .ok (.istore_n 2, 1) := by decide +kernel
theorem dX8_settle_53 : decode cX8_settle 53 = .ok (.iload_n 2, 1) := by decide +kernel
theorem dX8_settle_54 : decode cX8_settle 54 = .ok (.aload_n 0, 1) := by decide +kernel
theorem dX8_settle_55 : decode cX8_settle 55 = .ok (.getfield 15, 3) := by decide +kernel
theorem dX8_settle_58 : decode cX8_settle 58 = .ok (.getfield 45, 3) := by decide +kernel
theorem dX8_settle_61 : decode cX8_settle 61 = .ok (.if_icmp .ge 36, 3) := by decide +kernel
theorem dX8_settle_64 : decode cX8_settle 64 = .ok (.aload_n 0, 1) := by decide +kernel
theorem dX8_settle_65 : decode cX8_settle 65 = .ok (.getfield 11, 3) := by decide +kernel
theorem dX8_settle_68 : decode cX8_settle 68 = .ok (.iconst 4, 1) := by decide +kernel
theorem dX8_settle_69 : decode cX8_settle 69 = .ok (.iload_n 2, 1) := by decide +kernel
theorem dX8_settle_70 : decode cX8_settle 70 = .ok (.iadd, 1) := by decide +kernel
theorem dX8_settle_71 : decode cX8_settle 71 = .ok (.aload_n 1, 1) := by decide +kernel
theorem dX8_settle_72 : decode cX8_settle 72 = .ok (.iload_n 2, 1) := by decide +kernel
theorem dX8_settle_73 : decode cX8_settle 73 = .ok (.invokevirtual 48, 3) := by decide +kernel
theorem dX8_settle_76 : decode cX8_settle 76 = .ok (.iastore, 1) := by decide +kernel
theorem dX8_settle_77 : decode cX8_settle 77 = .ok (.aload_n 0, 1) := by decide +kernel
theorem dX8_settle_78 : decode cX8_settle 78 = .ok (.getfield 11, 3) := by decide +kernel
theorem dX8_settle_81 : decode cX8_settle 81 = .ok (.bipush 10, 2) := by decide +kernel
theorem dX8_settle_83 : decode cX8_settle 83 = .ok (.iload_n 2, 1) := by decide +kernel
theorem dX8_settle_84 : decode cX8_settle 84 = .ok (.iadd, 1) := by decide +kernel
theorem dX8_settle_85 : decode cX8_settle 85 = .ok (.aload_n 1, 1) := by decide +kernel
theorem dX8_settle_86 : decode cX8_settle 86 = .ok (.iload_n 2, 1) := by decide +kernel
theorem dX8_settle_87 : decode cX8_settle 87 = .ok (.invokevirtual 51, 3) := by decide +kernel
theorem dX8_settle_90 : decode cX8_settle 90 = .ok (.iastore, 1) := by decide +kernel
theorem dX8_settle_91 : decode cX8_settle 91 = .ok (.iinc 2 1, 3) := by decide +kernel
theorem dX8_settle_94 : decode cX8_settle 94 = .ok (.goto (-41), 3) := by decide +kernel
theorem dX8_settle_97 : decode cX8_settle 97 = .ok (.return_, 1) := by decide +kernel
theorem dX8_copy_0 : decode cX8_copy 0 = .ok (.aload_n 1, 1) := by decide +kernel
theorem dX8_copy_1 : decode cX8_copy 1 = .ok (.getfield 11, 3) := by decide +kernel
theorem dX8_copy_4 : decode cX8_copy 4 = .ok (.iconst 0, 1) := by decide +kernel
theorem dX8_copy_5 : decode cX8_copy 5 = .ok (.aload_n 0, 1) := by decide +kernel
theorem dX8_copy_6 : decode cX8_copy 6 = .ok (.getfield 11, 3) := by decide +kernel
theorem dX8_copy_9 : decode cX8_copy 9 = .ok (.iconst 0, 1) := by decide +kernel
theorem dX8_copy_10 : decode cX8_copy 10 = .ok (.bipush 28, 2) := by decide +kernel
theorem dX8_copy_12 : decode cX8_copy 12 = .ok (.invokestatic 54, 3) := by decide +kernel
theorem dX8_copy_15 : decode cX8_copy 15 = .ok (.return_, 1) := by decide +kernel
theorem dX8_bottle_0 : decode cX8_bottle 0 = .ok (.aload_n 0, 1) := by decide +kernel
theorem dX8_bottle_1 : decode cX8_bottle 1 = .ok (.getfield 11, 3) := by decide +kernel
theorem dX8_bottle_4 : decode cX8_bottle 4 = .ok (.iconst 0, 1) := by decide +kernel
theorem dX8_bottle_5 : decode cX8_bottle 5 = .ok (.iaload, 1) := by decide +kernel
theorem dX8_bottle_6 : decode cX8_bottle 6 = .ok (.ireturn, 1) := by decide +kernel
theorem dX8_monthNow_0 : decode cX8_monthNow 0 = .ok (.aload_n 0, 1) := by decide +kernel
theorem dX8_monthNow_1 : decode cX8_monthNow 1 = .ok (.getfield 11, 3) := by decide +kernel
theorem dX8_monthNow_4 : decode cX8_monthNow 4 = .ok (.iconst 1, 1) := by decide +kernel
theorem dX8_monthNow_5 : decode cX8_monthNow 5 = .ok (.iaload, 1) := by decide +kernel
theorem dX8_monthNow_6 : decode cX8_monthNow 6 = .ok (.ireturn, 1) := by decide +kernel
theorem dX8_hostPut_0 : decode cX8_hostPut 0 = .ok (.aload_n 0, 1) := by decide +kernel
theorem dX8_hostPut_1 : decode cX8_hostPut 1 = .ok (.getfield 11, 3) := by decide +kernel
theorem dX8_hostPut_4 : decode cX8_hostPut 4 = .ok (.iconst 2, 1) := by decide +kernel
theorem dX8_hostPut_5 : decode cX8_hostPut 5 = .ok (.iaload, 1) := by decide +kernel
theorem dX8_hostPut_6 : decode cX8_hostPut 6 = .ok (.ireturn, 1) := by decide +kernel
theorem dX8_visits_0 : decode cX8_visits 0 = .ok (.aload_n 0, 1) := by decide +kernel
theorem dX8_visits_1 : decode cX8_visits 1 = .ok (.getfield 11, 3) := by decide +kernel
theorem dX8_visits_4 : decode cX8_visits 4 = .ok (.iconst 3, 1) := by decide +kernel
theorem dX8_visits_5 : decode cX8_visits 5 = .ok (.iaload, 1) := by decide +kernel
theorem dX8_visits_6 : decode cX8_visits 6 = .ok (.ireturn, 1) := by decide +kernel
theorem dX8_moneyOf_0 : decode cX8_moneyOf 0 = .ok (.aload_n 0, 1) := by decide +kernel
theorem dX8_moneyOf_1 : decode cX8_moneyOf 1 = .ok (.getfield 11, 3) := by decide +kernel
theorem dX8_moneyOf_4 : decode cX8_moneyOf 4 = .ok (.iconst 4, 1) := by decide +kernel
theorem dX8_moneyOf_5 : decode cX8_moneyOf 5 = .ok (.iload_n 1, 1) := by decide +kernel
theorem dX8_moneyOf_6 : decode cX8_moneyOf 6 = .ok (.iadd, 1) := by decide +kernel
theorem dX8_moneyOf_7 : decode cX8_moneyOf 7 = .ok (.iaload, 1) := by decide +kernel
theorem dX8_moneyOf_8 : decode cX8_moneyOf 8 = .ok (.ireturn, 1) := by decide +kernel
theorem dX8_moodOf_0 : decode cX8_moodOf 0 = .ok (.aload_n 0, 1) := by decide +kernel
theorem dX8_moodOf_1 : decode cX8_moodOf 1 = .ok (.getfield 11, 3) := by decide +kernel
theorem dX8_moodOf_4 : decode cX8_moodOf 4 = .ok (.bipush 10, 2) := by decide +kernel
theorem dX8_moodOf_6 : decode cX8_moodOf 6 = .ok (.iload_n 1, 1) := by decide +kernel
theorem dX8_moodOf_7 : decode cX8_moodOf 7 = .ok (.iadd, 1) := by decide +kernel
theorem dX8_moodOf_8 : decode cX8_moodOf 8 = .ok (.iaload, 1) := by decide +kernel
theorem dX8_moodOf_9 : decode cX8_moodOf 9 = .ok (.ireturn, 1) := by decide +kernel
theorem dX8_joyOf_0 : decode cX8_joyOf 0 = .ok (.aload_n 0, 1) := by decide +kernel
theorem dX8_joyOf_1 : decode cX8_joyOf 1 = .ok (.getfield 11, 3) := by decide +kernel
theorem dX8_joyOf_4 : decode cX8_joyOf 4 = .ok (.bipush 16, 2) := by decide +kernel
theorem dX8_joyOf_6 : decode cX8_joyOf 6 = .ok (.iload_n 1, 1) := by decide +kernel
theorem dX8_joyOf_7 : decode cX8_joyOf 7 = .ok (.iadd, 1) := by decide +kernel
theorem dX8_joyOf_8 : decode cX8_joyOf 8 = .ok (.iaload, 1) := by decide +kernel
theorem dX8_joyOf_9 : decode cX8_joyOf 9 = .ok (.ireturn, 1) := by decide +kernel
theorem dX8_priceOf_0 : decode cX8_priceOf 0 = .ok (.aload_n 0, 1) := by decide +kernel
theorem dX8_priceOf_1 : decode cX8_priceOf 1 = .ok (.getfield 11, 3) := by decide +kernel
theorem dX8_priceOf_4 : decode cX8_priceOf 4 = .ok (.bipush 22, 2) := by decide +kernel
theorem dX8_priceOf_6 : decode cX8_priceOf 6 = .ok (.iload_n 1, 1) := by decide +kernel
theorem dX8_priceOf_7 : decode cX8_priceOf 7 = .ok (.iadd, 1) := by decide +kernel
theorem dX8_priceOf_8 : decode cX8_priceOf 8 = .ok (.iaload, 1) := by decide +kernel
theorem dX8_priceOf_9 : decode cX8_priceOf 9 = .ok (.ireturn, 1) := by decide +kernel
theorem dX8_joyOfAll_0 : decode cX8_joyOfAll 0 = .ok (.iconst 0, 1) := by decide +kernel
theorem dX8_joyOfAll_1 : decode cX8_joyOfAll 1 = .ok (.istore_n 1, 1) := by decide +kernel
theorem dX8_joyOfAll_2 : decode cX8_joyOfAll 2 = .ok (.iconst 0, 1) := by decide +kernel
theorem dX8_joyOfAll_3 : decode cX8_joyOfAll 3 = .ok (.istore_n 2, 1) := by decide +kernel
theorem dX8_joyOfAll_4 : decode cX8_joyOfAll 4 = .ok (.iload_n 2, 1) := by decide +kernel
theorem dX8_joyOfAll_5 : decode cX8_joyOfAll 5 = .ok (.aload_n 0, 1) := by decide +kernel
theorem dX8_joyOfAll_6 : decode cX8_joyOfAll 6 = .ok (.getfield 15, 3) := by decide +kernel
theorem dX8_joyOfAll_9 : decode cX8_joyOfAll 9 = .ok (.getfield 45, 3) := by decide +kernel
theorem dX8_joyOfAll_12 : decode cX8_joyOfAll 12 = .ok (.if_icmp .ge 21, 3) := by decide +kernel
theorem dX8_joyOfAll_15 : decode cX8_joyOfAll 15 = .ok (.iload_n 1, 1) := by decide +kernel
theorem dX8_joyOfAll_16 : decode cX8_joyOfAll 16 = .ok (.aload_n 0, 1) := by decide +kernel
theorem dX8_joyOfAll_17 : decode cX8_joyOfAll 17 = .ok (.getfield 11, 3) := by decide +kernel
theorem dX8_joyOfAll_20 : decode cX8_joyOfAll 20 = .ok (.bipush 16, 2) := by decide +kernel
theorem dX8_joyOfAll_22 : decode cX8_joyOfAll 22 = .ok (.iload_n 2, 1) := by decide +kernel
theorem dX8_joyOfAll_23 : decode cX8_joyOfAll 23 = .ok (.iadd, 1) := by decide +kernel
theorem dX8_joyOfAll_24 : decode cX8_joyOfAll 24 = .ok (.iaload, 1) := by decide +kernel
theorem dX8_joyOfAll_25 : decode cX8_joyOfAll 25 = .ok (.iadd, 1) := by decide +kernel
theorem dX8_joyOfAll_26 : decode cX8_joyOfAll 26 = .ok (.istore_n 1, 1) := by decide +kernel
theorem dX8_joyOfAll_27 : decode cX8_joyOfAll 27 = .ok (.iinc 2 1, 3) := by decide +kernel
theorem dX8_joyOfAll_30 : decode cX8_joyOfAll 30 = .ok (.goto (-26), 3) := by decide +kernel
theorem dX8_joyOfAll_33 : decode cX8_joyOfAll 33 = .ok (.iload_n 1, 1) := by decide +kernel
theorem dX8_joyOfAll_34 : decode cX8_joyOfAll 34 = .ok (.ireturn, 1) := by decide +kernel
theorem dX8_give_0 : decode cX8_give 0 = .ok (.aload_n 0, 1) := by decide +kernel
theorem dX8_give_1 : decode cX8_give 1 = .ok (.getfield 11, 3) := by decide +kernel
theorem dX8_give_4 : decode cX8_give 4 = .ok (.iconst 4, 1) := by decide +kernel
theorem dX8_give_5 : decode cX8_give 5 = .ok (.iload_n 1, 1) := by decide +kernel
theorem dX8_give_6 : decode cX8_give 6 = .ok (.iadd, 1) := by decide +kernel
theorem dX8_give_7 : decode cX8_give 7 = .ok (.bipush 99, 2) := by decide +kernel
theorem dX8_give_9 : decode cX8_give 9 = .ok (.aload_n 0, 1) := by decide +kernel
theorem dX8_give_10 : decode cX8_give 10 = .ok (.getfield 11, 3) := by decide +kernel
theorem dX8_give_13 : decode cX8_give 13 = .ok (.iconst 4, 1) := by decide +kernel
theorem dX8_give_14 : decode cX8_give 14 = .ok (.iload_n 1, 1) := by decide +kernel
theorem dX8_give_15 : decode cX8_give 15 = .ok (.iadd, 1) := by decide +kernel
theorem dX8_give_16 : decode cX8_give 16 = .ok (.iaload, 1) := by decide +kernel
theorem dX8_give_17 : decode cX8_give 17 = .ok (.iload_n 2, 1) := by decide +kernel
theorem dX8_give_18 : decode cX8_give 18 = .ok (.iadd, 1) := by decide +kernel
theorem dX8_give_19 : decode cX8_give 19 = .ok (.invokestatic 60, 3) := by decide +kernel
theorem dX8_give_22 : decode cX8_give 22 = .ok (.iastore, 1) := by decide +kernel
theorem dX8_give_23 : decode cX8_give 23 = .ok (.return_, 1) := by decide +kernel
theorem dX8_setPrice_0 : decode cX8_setPrice 0 = .ok (.aload_n 0, 1) := by decide +kernel
theorem dX8_setPrice_1 : decode cX8_setPrice 1 = .ok (.getfield 11, 3) := by decide +kernel
theorem dX8_setPrice_4 : decode cX8_setPrice 4 = .ok (.bipush 22, 2) := by decide +kernel
theorem dX8_setPrice_6 : decode cX8_setPrice 6 = .ok (.iload_n 1, 1) := by decide +kernel
theorem dX8_setPrice_7 : decode cX8_setPrice 7 = .ok (.iadd, 1) := by decide +kernel
theorem dX8_setPrice_8 : decode cX8_setPrice 8 = .ok (.iload_n 2, 1) := by decide +kernel
theorem dX8_setPrice_9 : decode cX8_setPrice 9 = .ok (.iastore, 1) := by decide +kernel
theorem dX8_setPrice_10 : decode cX8_setPrice 10 = .ok (.return_, 1) := by decide +kernel
theorem dX8_canBe_0 : decode cX8_canBe 0 = .ok (.iload_n 1, 1) := by decide +kernel
theorem dX8_canBe_1 : decode cX8_canBe 1 = .ok (.ifCond .ne 12, 3) := by decide +kernel
theorem dX8_canBe_4 : decode cX8_canBe 4 = .ok (.aload_n 0, 1) := by decide +kernel
theorem dX8_canBe_5 : decode cX8_canBe 5 = .ok (.getfield 15, 3) := by decide +kernel
theorem dX8_canBe_8 : decode cX8_canBe 8 = .ok (.iload_n 2, 1) := by decide +kernel
theorem dX8_canBe_9 : decode cX8_canBe 9 = .ok (.invokevirtual 66, 3) := by decide +kernel
theorem dX8_canBe_12 : decode cX8_canBe 12 = .ok (.ireturn, 1) := by decide +kernel
theorem dX8_canBe_13 : decode cX8_canBe 13 = .ok (.iload_n 1, 1) := by decide +kernel
theorem dX8_canBe_14 : decode cX8_canBe 14 = .ok (.iconst 1, 1) := by decide +kernel
theorem dX8_canBe_15 : decode cX8_canBe 15 = .ok (.if_icmp .ne 31, 3) := by decide +kernel
theorem dX8_canBe_18 : decode cX8_canBe 18 = .ok (.aload_n 0, 1) := by decide +kernel
theorem dX8_canBe_19 : decode cX8_canBe 19 = .ok (.getfield 15, 3) := by decide +kernel
theorem dX8_canBe_22 : decode cX8_canBe 22 = .ok (.invokevirtual 70, 3) := by decide +kernel
theorem dX8_canBe_25 : decode cX8_canBe 25 = .ok (.ifCond .eq 19, 3) := by decide +kernel
theorem dX8_canBe_28 : decode cX8_canBe 28 = .ok (.aload_n 0, 1) := by decide +kernel
theorem dX8_canBe_29 : decode cX8_canBe 29 = .ok (.getfield 11, 3) := by decide +kernel
theorem dX8_canBe_32 : decode cX8_canBe 32 = .ok (.iconst 1, 1) := by decide +kernel
theorem dX8_canBe_33 : decode cX8_canBe 33 = .ok (.iaload, 1) := by decide +kernel
theorem dX8_canBe_34 : decode cX8_canBe 34 = .ok (.sipush 999, 3) := by decide +kernel
theorem dX8_canBe_37 : decode cX8_canBe 37 = .ok (.if_icmp .ge 7, 3) := by decide +kernel
theorem dX8_canBe_40 : decode cX8_canBe 40 = .ok (.iconst 1, 1) := by decide +kernel
theorem dX8_canBe_41 : decode cX8_canBe 41 = .ok (.goto 4, 3) := by decide +kernel
theorem dX8_canBe_44 : decode cX8_canBe 44 = .ok (.iconst 0, 1) := by decide +kernel
theorem dX8_canBe_45 : decode cX8_canBe 45 = .ok (.ireturn, 1) := by decide +kernel
theorem dX8_canBe_46 : decode cX8_canBe 46 = .ok (.aload_n 0, 1) := by decide +kernel
theorem dX8_canBe_47 : decode cX8_canBe 47 = .ok (.getfield 15, 3) := by decide +kernel
theorem dX8_canBe_50 : decode cX8_canBe 50 = .ok (.iload_n 2, 1) := by decide +kernel
theorem dX8_canBe_51 : decode cX8_canBe 51 = .ok (.invokevirtual 74, 3) := by decide +kernel
theorem dX8_canBe_54 : decode cX8_canBe 54 = .ok (.ifCond .eq 26, 3) := by decide +kernel
theorem dX8_canBe_57 : decode cX8_canBe 57 = .ok (.iload_n 2, 1) := by decide +kernel
theorem dX8_canBe_58 : decode cX8_canBe 58 = .ok (.aload_n 0, 1) := by decide +kernel
theorem dX8_canBe_59 : decode cX8_canBe 59 = .ok (.getfield 11, 3) := by decide +kernel
theorem dX8_canBe_62 : decode cX8_canBe 62 = .ok (.iconst 0, 1) := by decide +kernel
theorem dX8_canBe_63 : decode cX8_canBe 63 = .ok (.iaload, 1) := by decide +kernel
theorem dX8_canBe_64 : decode cX8_canBe 64 = .ok (.if_icmp .eq 16, 3) := by decide +kernel
theorem dX8_canBe_67 : decode cX8_canBe 67 = .ok (.aload_n 0, 1) := by decide +kernel
theorem dX8_canBe_68 : decode cX8_canBe 68 = .ok (.getfield 11, 3) := by decide +kernel
theorem dX8_canBe_71 : decode cX8_canBe 71 = .ok (.iconst 2, 1) := by decide +kernel
theorem dX8_canBe_72 : decode cX8_canBe 72 = .ok (.iaload, 1) := by decide +kernel
theorem dX8_canBe_73 : decode cX8_canBe 73 = .ok (.ifCond .ne 7, 3) := by decide +kernel
theorem dX8_canBe_76 : decode cX8_canBe 76 = .ok (.iconst 1, 1) := by decide +kernel
theorem dX8_canBe_77 : decode cX8_canBe 77 = .ok (.goto 4, 3) := by decide +kernel
theorem dX8_canBe_80 : decode cX8_canBe 80 = .ok (.iconst 0, 1) := by decide +kernel
theorem dX8_canBe_81 : decode cX8_canBe 81 = .ok (.ireturn, 1) := by decide +kernel
theorem dX8_carry_0 : decode cX8_carry 0 = .ok (.iload_n 1, 1) := by decide +kernel
theorem dX8_carry_1 : decode cX8_carry 1 = .ok (.ifCond .ne 12, 3) := by decide +kernel
theorem dX8_carry_4 : decode cX8_carry 4 = .ok (.aload_n 0, 1) := by decide +kernel
theorem dX8_carry_5 : decode cX8_carry 5 = .ok (.iload_n 2, 1) := by decide +kernel
theorem dX8_carry_6 : decode cX8_carry 6 = .ok (.invokevirtual 77, 3) := by decide +kernel
theorem dX8_carry_9 : decode cX8_carry 9 = .ok (.pop, 1) := by decide +kernel
theorem dX8_carry_10 : decode cX8_carry 10 = .ok (.goto 29, 3) := by decide +kernel
theorem dX8_carry_13 : decode cX8_carry 13 = .ok (.iload_n 1, 1) := by decide +kernel
theorem dX8_carry_14 : decode cX8_carry 14 = .ok (.iconst 1, 1) := by decide +kernel
theorem dX8_carry_15 : decode cX8_carry 15 = .ok (.if_icmp .ne 10, 3) := by decide +kernel
theorem dX8_carry_18 : decode cX8_carry 18 = .ok (.aload_n 0, 1) := by decide +kernel
theorem dX8_carry_19 : decode cX8_carry 19 = .ok (.invokevirtual 80, 3) := by decide +kernel
theorem dX8_carry_22 : decode cX8_carry 22 = .ok (.goto 17, 3) := by decide +kernel
theorem dX8_carry_25 : decode cX8_carry 25 = .ok (.aload_n 0, 1) := by decide +kernel
theorem dX8_carry_26 : decode cX8_carry 26 = .ok (.getfield 11, 3) := by decide +kernel
theorem dX8_carry_29 : decode cX8_carry 29 = .ok (.iconst 0, 1) := by decide +kernel
theorem dX8_carry_30 : decode cX8_carry 30 = .ok (.iload_n 2, 1) := by decide +kernel
theorem dX8_carry_31 : decode cX8_carry 31 = .ok (.iastore, 1) := by decide +kernel
theorem dX8_carry_32 : decode cX8_carry 32 = .ok (.aload_n 0, 1) := by decide +kernel
theorem dX8_carry_33 : decode cX8_carry 33 = .ok (.getfield 11, 3) := by decide +kernel
theorem dX8_carry_36 : decode cX8_carry 36 = .ok (.iconst 2, 1) := by decide +kernel
theorem dX8_carry_37 : decode cX8_carry 37 = .ok (.iconst 1, 1) := by decide +kernel
theorem dX8_carry_38 : decode cX8_carry 38 = .ok (.iastore, 1) := by decide +kernel
theorem dX8_carry_39 : decode cX8_carry 39 = .ok (.return_, 1) := by decide +kernel
theorem dX8_goThrough_0 : decode cX8_goThrough 0 = .ok (.iconst 0, 1) := by decide +kernel
theorem dX8_goThrough_1 : decode cX8_goThrough 1 = .ok (.istore_n 2, 1) := by decide +kernel
theorem dX8_goThrough_2 : decode cX8_goThrough 2 = .ok (.iload_n 2, 1) := by decide +kernel
theorem dX8_goThrough_3 : decode cX8_goThrough 3 = .ok (.aload_n 1, 1) := by decide +kernel
theorem dX8_goThrough_4 : decode cX8_goThrough 4 = .ok (.arraylength, 1) := by decide +kernel
theorem dX8_goThrough_5 : decode cX8_goThrough 5 = .ok (.if_icmp .ge 43, 3) := by decide +kernel
theorem dX8_goThrough_8 : decode cX8_goThrough 8 = .ok (.aload_n 1, 1) := by decide +kernel
theorem dX8_goThrough_9 : decode cX8_goThrough 9 = .ok (.iload_n 2, 1) := by decide +kernel
theorem dX8_goThrough_10 : decode cX8_goThrough 10 = .ok (.iaload, 1) := by decide +kernel
theorem dX8_goThrough_11 : decode cX8_goThrough 11 = .ok (.bipush 10, 2) := by decide +kernel
theorem dX8_goThrough_13 : decode cX8_goThrough 13 = .ok (.idiv, 1) := by decide +kernel
theorem dX8_goThrough_14 : decode cX8_goThrough 14 = .ok (.istore_n 3, 1) := by decide +kernel
theorem dX8_goThrough_15 : decode cX8_goThrough 15 = .ok (.aload_n 1, 1) := by decide +kernel
theorem dX8_goThrough_16 : decode cX8_goThrough 16 = .ok (.iload_n 2, 1) := by decide +kernel
theorem dX8_goThrough_17 : decode cX8_goThrough 17 = .ok (.iaload, 1) := by decide +kernel
theorem dX8_goThrough_18 : decode cX8_goThrough 18 = .ok (.bipush 10, 2) := by decide +kernel
theorem dX8_goThrough_20 : decode cX8_goThrough 20 = .ok (.irem, 1) := by decide +kernel
theorem dX8_goThrough_21 : decode cX8_goThrough 21 = .ok (.istore 4, 2) := by decide +kernel
theorem dX8_goThrough_23 : decode cX8_goThrough 23 = .ok (.aload_n 0, 1) := by decide +kernel
theorem dX8_goThrough_24 : decode cX8_goThrough 24 = .ok (.iload_n 3, 1) := by decide +kernel
theorem dX8_goThrough_25 : decode cX8_goThrough 25 = .ok (.iload 4, 2) := by decide +kernel
theorem dX8_goThrough_27 : decode cX8_goThrough 27 = .ok (.invokevirtual 83, 3) := by decide +kernel
theorem dX8_goThrough_30 : decode cX8_goThrough 30 = .ok (.ifCond .ne 5, 3) := by decide +kernel
theorem dX8_goThrough_33 : decode cX8_goThrough 33 = .ok (.iload_n 2, 1) := by decide +kernel
theorem dX8_goThrough_34 : decode cX8_goThrough 34 = .ok (.ireturn, 1) := by decide +kernel
theorem dX8_goThrough_35 : decode cX8_goThrough 35 = .ok (.aload_n 0, 1) := by decide +kernel
theorem dX8_goThrough_36 : decode cX8_goThrough 36 = .ok (.iload_n 3, 1) := by decide +kernel
theorem dX8_goThrough_37 : decode cX8_goThrough 37 = .ok (.iload 4, 2) := by decide +kernel
theorem dX8_goThrough_39 : decode cX8_goThrough 39 = .ok (.invokevirtual 87, 3) := by decide +kernel
theorem dX8_goThrough_42 : decode cX8_goThrough 42 = .ok (.iinc 2 1, 3) := by decide +kernel
theorem dX8_goThrough_45 : decode cX8_goThrough 45 = .ok (.goto (-43), 3) := by decide +kernel
theorem dX8_goThrough_48 : decode cX8_goThrough 48 = .ok (.aload_n 1, 1) := by decide +kernel
theorem dX8_goThrough_49 : decode cX8_goThrough 49 = .ok (.arraylength, 1) := by decide +kernel
theorem dX8_goThrough_50 : decode cX8_goThrough 50 = .ok (.ireturn, 1) := by decide +kernel
theorem dX8_passMonth_0 : decode cX8_passMonth 0 = .ok (.aload_n 0, 1) := by decide +kernel
theorem dX8_passMonth_1 : decode cX8_passMonth 1 = .ok (.getfield 11, 3) := by decide +kernel
theorem dX8_passMonth_4 : decode cX8_passMonth 4 = .ok (.iconst 1, 1) := by decide +kernel
theorem dX8_passMonth_5 : decode cX8_passMonth 5 = .ok (.dup2, 1) := by decide +kernel
theorem dX8_passMonth_6 : decode cX8_passMonth 6 = .ok (.iaload, 1) := by decide +kernel
theorem dX8_passMonth_7 : decode cX8_passMonth 7 = .ok (.iconst 1, 1) := by decide +kernel
theorem dX8_passMonth_8 : decode cX8_passMonth 8 = .ok (.iadd, 1) := by decide +kernel
theorem dX8_passMonth_9 : decode cX8_passMonth 9 = .ok (.iastore, 1) := by decide +kernel
theorem dX8_passMonth_10 : decode cX8_passMonth 10 = .ok (.aload_n 0, 1) := by decide +kernel
theorem dX8_passMonth_11 : decode cX8_passMonth 11 = .ok (.getfield 11, 3) := by decide +kernel
theorem dX8_passMonth_14 : decode cX8_passMonth 14 = .ok (.iconst 2, 1) := by decide +kernel
theorem dX8_passMonth_15 : decode cX8_passMonth 15 = .ok (.iconst 0, 1) := by decide +kernel
theorem dX8_passMonth_16 : decode cX8_passMonth 16 = .ok (.iastore, 1) := by decide +kernel
theorem dX8_passMonth_17 : decode cX8_passMonth 17 = .ok (.iconst 0, 1) := by decide +kernel
theorem dX8_passMonth_18 : decode cX8_passMonth 18 = .ok (.istore_n 1, 1) := by decide +kernel
theorem dX8_passMonth_19 : decode cX8_passMonth 19 = .ok (.iload_n 1, 1) := by decide +kernel
theorem dX8_passMonth_20 : decode cX8_passMonth 20 = .ok (.aload_n 0, 1) := by decide +kernel
theorem dX8_passMonth_21 : decode cX8_passMonth 21 = .ok (.getfield 15, 3) := by decide +kernel
theorem dX8_passMonth_24 : decode cX8_passMonth 24 = .ok (.getfield 45, 3) := by decide +kernel
theorem dX8_passMonth_27 : decode cX8_passMonth 27 = .ok (.if_icmp .ge 21, 3) := by decide +kernel
theorem dX8_passMonth_30 : decode cX8_passMonth 30 = .ok (.aload_n 0, 1) := by decide +kernel
theorem dX8_passMonth_31 : decode cX8_passMonth 31 = .ok (.iload_n 1, 1) := by decide +kernel
theorem dX8_passMonth_32 : decode cX8_passMonth 32 = .ok (.aload_n 0, 1) := by decide +kernel
theorem dX8_passMonth_33 : decode cX8_passMonth 33 = .ok (.getfield 15, 3) := by decide +kernel
theorem dX8_passMonth_36 : decode cX8_passMonth 36 = .ok (.getfield 91, 3) := by decide +kernel
theorem dX8_passMonth_39 : decode cX8_passMonth 39 = .ok (.invokevirtual 94, 3) := by decide +kernel
theorem dX8_passMonth_42 : decode cX8_passMonth 42 = .ok (.iinc 1 1, 3) := by decide +kernel
theorem dX8_passMonth_45 : decode cX8_passMonth 45 = .ok (.goto (-26), 3) := by decide +kernel
theorem dX8_passMonth_48 : decode cX8_passMonth 48 = .ok (.return_, 1) := by decide +kernel
theorem dX8_receive_0 : decode cX8_receive 0 = .ok (.aload_n 0, 1) := by decide +kernel
theorem dX8_receive_1 : decode cX8_receive 1 = .ok (.getfield 15, 3) := by decide +kernel
theorem dX8_receive_4 : decode cX8_receive 4 = .ok (.getfield 97, 3) := by decide +kernel
theorem dX8_receive_7 : decode cX8_receive 7 = .ok (.iload_n 1, 1) := by decide +kernel
theorem dX8_receive_8 : decode cX8_receive 8 = .ok (.iaload, 1) := by decide +kernel
theorem dX8_receive_9 : decode cX8_receive 9 = .ok (.istore_n 2, 1) := by decide +kernel
theorem dX8_receive_10 : decode cX8_receive 10 = .ok (.aload_n 0, 1) := by decide +kernel
theorem dX8_receive_11 : decode cX8_receive 11 = .ok (.getfield 11, 3) := by decide +kernel
theorem dX8_receive_14 : decode cX8_receive 14 = .ok (.bipush 10, 2) := by decide +kernel
theorem dX8_receive_16 : decode cX8_receive 16 = .ok (.iload_n 1, 1) := by decide +kernel
theorem dX8_receive_17 : decode cX8_receive 17 = .ok (.iadd, 1) := by decide +kernel
theorem dX8_receive_18 : decode cX8_receive 18 = .ok (.iaload, 1) := by decide +kernel
theorem dX8_receive_19 : decode cX8_receive 19 = .ok (.istore_n 3, 1) := by decide +kernel
theorem dX8_receive_20 : decode cX8_receive 20 = .ok (.aload_n 0, 1) := by decide +kernel
theorem dX8_receive_21 : decode cX8_receive 21 = .ok (.getfield 15, 3) := by decide +kernel
theorem dX8_receive_24 : decode cX8_receive 24 = .ok (.iload_n 2, 1) := by decide +kernel
theorem dX8_receive_25 : decode cX8_receive 25 = .ok (.aload_n 0, 1) := by decide +kernel
theorem dX8_receive_26 : decode cX8_receive 26 = .ok (.getfield 11, 3) := by decide +kernel
theorem dX8_receive_29 : decode cX8_receive 29 = .ok (.iconst 0, 1) := by decide +kernel
theorem dX8_receive_30 : decode cX8_receive 30 = .ok (.iaload, 1) := by decide +kernel
theorem dX8_receive_31 : decode cX8_receive 31 = .ok (.invokevirtual 100, 3) := by decide +kernel
theorem dX8_receive_34 : decode cX8_receive 34 = .ok (.istore 4, 2) := by decide +kernel
theorem dX8_receive_36 : decode cX8_receive 36 = .ok (.aload_n 0, 1) := by decide +kernel
theorem dX8_receive_37 : decode cX8_receive 37 = .ok (.iload_n 2, 1) := by decide +kernel
theorem dX8_receive_38 : decode cX8_receive 38 = .ok (.iload_n 3, 1) := by decide +kernel
theorem dX8_receive_39 : decode cX8_receive 39 = .ok (.aload_n 0, 1) := by decide +kernel
theorem dX8_receive_40 : decode cX8_receive 40 = .ok (.getfield 11, 3) := by decide +kernel
theorem dX8_receive_43 : decode cX8_receive 43 = .ok (.iconst 4, 1) := by decide +kernel
theorem dX8_receive_44 : decode cX8_receive 44 = .ok (.iload_n 1, 1) := by decide +kernel
theorem dX8_receive_45 : decode cX8_receive 45 = .ok (.iadd, 1) := by decide +kernel
theorem dX8_receive_46 : decode cX8_receive 46 = .ok (.iaload, 1) := by decide +kernel
theorem dX8_receive_47 : decode cX8_receive 47 = .ok (.aload_n 0, 1) := by decide +kernel
theorem dX8_receive_48 : decode cX8_receive 48 = .ok (.getfield 11, 3) := by decide +kernel
theorem dX8_receive_51 : decode cX8_receive 51 = .ok (.iconst 3, 1) := by decide +kernel
theorem dX8_receive_52 : decode cX8_receive 52 = .ok (.iaload, 1) := by decide +kernel
theorem dX8_receive_53 : decode cX8_receive 53 = .ok (.aload_n 0, 1) := by decide +kernel
theorem dX8_receive_54 : decode cX8_receive 54 = .ok (.getfield 11, 3) := by decide +kernel
theorem dX8_receive_57 : decode cX8_receive 57 = .ok (.iconst 0, 1) := by decide +kernel
theorem dX8_receive_58 : decode cX8_receive 58 = .ok (.iaload, 1) := by decide +kernel
theorem dX8_receive_59 : decode cX8_receive 59 = .ok (.invokevirtual 103, 3) := by decide +kernel
theorem dX8_receive_62 : decode cX8_receive 62 = .ok (.istore 5, 2) := by decide +kernel
theorem dX8_receive_64 : decode cX8_receive 64 = .ok (.aload_n 0, 1) := by decide +kernel
theorem dX8_receive_65 : decode cX8_receive 65 = .ok (.getfield 11, 3) := by decide +kernel
theorem dX8_receive_68 : decode cX8_receive 68 = .ok (.bipush 10, 2) := by decide +kernel
theorem dX8_receive_70 : decode cX8_receive 70 = .ok (.iload_n 1, 1) := by decide +kernel
theorem dX8_receive_71 : decode cX8_receive 71 = .ok (.iadd, 1) := by decide +kernel
theorem dX8_receive_72 : decode cX8_receive 72 = .ok (.iload_n 3, 1) := by decide +kernel
theorem dX8_receive_73 : decode cX8_receive 73 = .ok (.iload 4, 2) := by decide +kernel
theorem dX8_receive_75 : decode cX8_receive 75 = .ok (.invokestatic 107, 3) := by decide +kernel
theorem dX8_receive_78 : decode cX8_receive 78 = .ok (.iastore, 1) := by decide +kernel
theorem dX8_receive_79 : decode cX8_receive 79 = .ok (.aload_n 0, 1) := by decide +kernel
theorem dX8_receive_80 : decode cX8_receive 80 = .ok (.getfield 11, 3) := by decide +kernel
theorem dX8_receive_83 : decode cX8_receive 83 = .ok (.bipush 16, 2) := by decide +kernel
theorem dX8_receive_85 : decode cX8_receive 85 = .ok (.iload_n 1, 1) := by decide +kernel
theorem dX8_receive_86 : decode cX8_receive 86 = .ok (.iadd, 1) := by decide +kernel
theorem dX8_receive_87 : decode cX8_receive 87 = .ok (.dup2, 1) := by decide +kernel
theorem dX8_receive_88 : decode cX8_receive 88 = .ok (.iaload, 1) := by decide +kernel
theorem dX8_receive_89 : decode cX8_receive 89 = .ok (.iload 4, 2) := by decide +kernel
theorem dX8_receive_91 : decode cX8_receive 91 = .ok (.iadd, 1) := by decide +kernel
theorem dX8_receive_92 : decode cX8_receive 92 = .ok (.iastore, 1) := by decide +kernel
theorem dX8_receive_93 : decode cX8_receive 93 = .ok (.aload_n 0, 1) := by decide +kernel
theorem dX8_receive_94 : decode cX8_receive 94 = .ok (.getfield 11, 3) := by decide +kernel
theorem dX8_receive_97 : decode cX8_receive 97 = .ok (.iconst 3, 1) := by decide +kernel
theorem dX8_receive_98 : decode cX8_receive 98 = .ok (.dup2, 1) := by decide +kernel
theorem dX8_receive_99 : decode cX8_receive 99 = .ok (.iaload, 1) := by decide +kernel
theorem dX8_receive_100 : decode cX8_receive 100 = .ok (.iconst 1, 1) := by decide +kernel
theorem dX8_receive_101 : decode cX8_receive 101 = .ok (.iadd, 1) := by decide +kernel
theorem dX8_receive_102 : decode cX8_receive 102 = .ok (.iastore, 1) := by decide +kernel
theorem dX8_receive_103 : decode cX8_receive 103 = .ok (.iload 5, 2) := by decide +kernel
theorem dX8_receive_105 : decode cX8_receive 105 = .ok (.iconst (-1), 1) := by decide +kernel
theorem dX8_receive_106 : decode cX8_receive 106 = .ok (.if_icmp .eq 32, 3) := by decide +kernel
theorem dX8_receive_109 : decode cX8_receive 109 = .ok (.aload_n 0, 1) := by decide +kernel
theorem dX8_receive_110 : decode cX8_receive 110 = .ok (.getfield 11, 3) := by decide +kernel
theorem dX8_receive_113 : decode cX8_receive 113 = .ok (.iconst 4, 1) := by decide +kernel
theorem dX8_receive_114 : decode cX8_receive 114 = .ok (.iload_n 1, 1) := by decide +kernel
theorem dX8_receive_115 : decode cX8_receive 115 = .ok (.iadd, 1) := by decide +kernel
theorem dX8_receive_116 : decode cX8_receive 116 = .ok (.dup2, 1) := by decide +kernel
theorem dX8_receive_117 : decode cX8_receive 117 = .ok (.iaload, 1) := by decide +kernel
theorem dX8_receive_118 : decode cX8_receive 118 = .ok (.aload_n 0, 1) := by decide +kernel
theorem dX8_receive_119 : decode cX8_receive 119 = .ok (.getfield 11, 3) := by decide +kernel
theorem dX8_receive_122 : decode cX8_receive 122 = .ok (.bipush 22, 2) := by decide +kernel
theorem dX8_receive_124 : decode cX8_receive 124 = .ok (.iload 5, 2) := by decide +kernel
theorem dX8_receive_126 : decode cX8_receive 126 = .ok (.iadd, 1) := by decide +kernel
theorem dX8_receive_127 : decode cX8_receive 127 = .ok (.iaload, 1) := by decide +kernel
theorem dX8_receive_128 : decode cX8_receive 128 = .ok (.isub, 1) := by decide +kernel
theorem dX8_receive_129 : decode cX8_receive 129 = .ok (.iastore, 1) := by decide +kernel
theorem dX8_receive_130 : decode cX8_receive 130 = .ok (.aload_n 0, 1) := by decide +kernel
theorem dX8_receive_131 : decode cX8_receive 131 = .ok (.getfield 11, 3) := by decide +kernel
theorem dX8_receive_134 : decode cX8_receive 134 = .ok (.iconst 0, 1) := by decide +kernel
theorem dX8_receive_135 : decode cX8_receive 135 = .ok (.iload 5, 2) := by decide +kernel
theorem dX8_receive_137 : decode cX8_receive 137 = .ok (.iastore, 1) := by decide +kernel
theorem dX8_receive_138 : decode cX8_receive 138 = .ok (.iload 5, 2) := by decide +kernel
theorem dX8_receive_140 : decode cX8_receive 140 = .ok (.ireturn, 1) := by decide +kernel
theorem dX8_unreceive_0 : decode cX8_unreceive 0 = .ok (.aload_n 0, 1) := by decide +kernel
theorem dX8_unreceive_1 : decode cX8_unreceive 1 = .ok (.getfield 11, 3) := by decide +kernel
theorem dX8_unreceive_4 : decode cX8_unreceive 4 = .ok (.iconst 0, 1) := by decide +kernel
theorem dX8_unreceive_5 : decode cX8_unreceive 5 = .ok (.iload_n 2, 1) := by decide +kernel
theorem dX8_unreceive_6 : decode cX8_unreceive 6 = .ok (.iastore, 1) := by decide +kernel
theorem dX8_unreceive_7 : decode cX8_unreceive 7 = .ok (.aload_n 0, 1) := by decide +kernel
theorem dX8_unreceive_8 : decode cX8_unreceive 8 = .ok (.getfield 11, 3) := by decide +kernel
theorem dX8_unreceive_11 : decode cX8_unreceive 11 = .ok (.iconst 4, 1) := by decide +kernel
theorem dX8_unreceive_12 : decode cX8_unreceive 12 = .ok (.iload_n 1, 1) := by decide +kernel
theorem dX8_unreceive_13 : decode cX8_unreceive 13 = .ok (.iadd, 1) := by decide +kernel
theorem dX8_unreceive_14 : decode cX8_unreceive 14 = .ok (.iload_n 3, 1) := by decide +kernel
theorem dX8_unreceive_15 : decode cX8_unreceive 15 = .ok (.iastore, 1) := by decide +kernel
theorem dX8_unreceive_16 : decode cX8_unreceive 16 = .ok (.aload_n 0, 1) := by decide +kernel
theorem dX8_unreceive_17 : decode cX8_unreceive 17 = .ok (.getfield 11, 3) := by decide +kernel
theorem dX8_unreceive_20 : decode cX8_unreceive 20 = .ok (.bipush 10, 2) := by decide +kernel
theorem dX8_unreceive_22 : decode cX8_unreceive 22 = .ok (.iload_n 1, 1) := by decide +kernel
theorem dX8_unreceive_23 : decode cX8_unreceive 23 = .ok (.iadd, 1) := by decide +kernel
theorem dX8_unreceive_24 : decode cX8_unreceive 24 = .ok (.iload 4, 2) := by decide +kernel
theorem dX8_unreceive_26 : decode cX8_unreceive 26 = .ok (.iastore, 1) := by decide +kernel
theorem dX8_unreceive_27 : decode cX8_unreceive 27 = .ok (.aload_n 0, 1) := by decide +kernel
theorem dX8_unreceive_28 : decode cX8_unreceive 28 = .ok (.getfield 11, 3) := by decide +kernel
theorem dX8_unreceive_31 : decode cX8_unreceive 31 = .ok (.bipush 16, 2) := by decide +kernel
theorem dX8_unreceive_33 : decode cX8_unreceive 33 = .ok (.iload_n 1, 1) := by decide +kernel
theorem dX8_unreceive_34 : decode cX8_unreceive 34 = .ok (.iadd, 1) := by decide +kernel
theorem dX8_unreceive_35 : decode cX8_unreceive 35 = .ok (.dup2, 1) := by decide +kernel
theorem dX8_unreceive_36 : decode cX8_unreceive 36 = .ok (.iaload, 1) := by decide +kernel
theorem dX8_unreceive_37 : decode cX8_unreceive 37 = .ok (.aload_n 0, 1) := by decide +kernel
theorem dX8_unreceive_38 : decode cX8_unreceive 38 = .ok (.iload_n 1, 1) := by decide +kernel
theorem dX8_unreceive_39 : decode cX8_unreceive 39 = .ok (.invokevirtual 110, 3) := by decide +kernel
theorem dX8_unreceive_42 : decode cX8_unreceive 42 = .ok (.isub, 1) := by decide +kernel
theorem dX8_unreceive_43 : decode cX8_unreceive 43 = .ok (.iastore, 1) := by decide +kernel
theorem dX8_unreceive_44 : decode cX8_unreceive 44 = .ok (.aload_n 0, 1) := by decide +kernel
theorem dX8_unreceive_45 : decode cX8_unreceive 45 = .ok (.getfield 11, 3) := by decide +kernel
theorem dX8_unreceive_48 : decode cX8_unreceive 48 = .ok (.iconst 3, 1) := by decide +kernel
theorem dX8_unreceive_49 : decode cX8_unreceive 49 = .ok (.dup2, 1) := by decide +kernel
theorem dX8_unreceive_50 : decode cX8_unreceive 50 = .ok (.iaload, 1) := by decide +kernel
theorem dX8_unreceive_51 : decode cX8_unreceive 51 = .ok (.iconst 1, 1) := by decide +kernel
theorem dX8_unreceive_52 : decode cX8_unreceive 52 = .ok (.isub, 1) := by decide +kernel
theorem dX8_unreceive_53 : decode cX8_unreceive 53 = .ok (.iastore, 1) := by decide +kernel
theorem dX8_unreceive_54 : decode cX8_unreceive 54 = .ok (.return_, 1) := by decide +kernel
theorem dX8_gladness_0 : decode cX8_gladness 0 = .ok (.aload_n 0, 1) := by decide +kernel
theorem dX8_gladness_1 : decode cX8_gladness 1 = .ok (.getfield 15, 3) := by decide +kernel
theorem dX8_gladness_4 : decode cX8_gladness 4 = .ok (.aload_n 0, 1) := by decide +kernel
theorem dX8_gladness_5 : decode cX8_gladness 5 = .ok (.getfield 15, 3) := by decide +kernel
theorem dX8_gladness_8 : decode cX8_gladness 8 = .ok (.getfield 97, 3) := by decide +kernel
theorem dX8_gladness_11 : decode cX8_gladness 11 = .ok (.iload_n 1, 1) := by decide +kernel
theorem dX8_gladness_12 : decode cX8_gladness 12 = .ok (.iaload, 1) := by decide +kernel
theorem dX8_gladness_13 : decode cX8_gladness 13 = .ok (.aload_n 0, 1) := by decide +kernel
theorem dX8_gladness_14 : decode cX8_gladness 14 = .ok (.getfield 11, 3) := by decide +kernel
theorem dX8_gladness_17 : decode cX8_gladness 17 = .ok (.iconst 0, 1) := by decide +kernel
theorem dX8_gladness_18 : decode cX8_gladness 18 = .ok (.iaload, 1) := by decide +kernel
theorem dX8_gladness_19 : decode cX8_gladness 19 = .ok (.invokevirtual 100, 3) := by decide +kernel
theorem dX8_gladness_22 : decode cX8_gladness 22 = .ok (.ireturn, 1) := by decide +kernel
theorem dX8_wouldBring_0 : decode cX8_wouldBring 0 = .ok (.aload_n 0, 1) := by decide +kernel
theorem dX8_wouldBring_1 : decode cX8_wouldBring 1 = .ok (.aload_n 0, 1) := by decide +kernel
theorem dX8_wouldBring_2 : decode cX8_wouldBring 2 = .ok (.getfield 15, 3) := by decide +kernel
theorem dX8_wouldBring_5 : decode cX8_wouldBring 5 = .ok (.getfield 97, 3) := by decide +kernel
theorem dX8_wouldBring_8 : decode cX8_wouldBring 8 = .ok (.iload_n 1, 1) := by decide +kernel
theorem dX8_wouldBring_9 : decode cX8_wouldBring 9 = .ok (.iaload, 1) := by decide +kernel
theorem dX8_wouldBring_10 : decode cX8_wouldBring 10 = .ok (.aload_n 0, 1) := by decide +kernel
theorem dX8_wouldBring_11 : decode cX8_wouldBring 11 = .ok (.getfield 11, 3) := by decide +kernel
theorem dX8_wouldBring_14 : decode cX8_wouldBring 14 = .ok (.bipush 10, 2) := by decide +kernel
theorem dX8_wouldBring_16 : decode cX8_wouldBring 16 = .ok (.iload_n 1, 1) := by decide +kernel
theorem dX8_wouldBring_17 : decode cX8_wouldBring 17 = .ok (.iadd, 1) := by decide +kernel
theorem dX8_wouldBring_18 : decode cX8_wouldBring 18 = .ok (.iaload, 1) := by decide +kernel
theorem dX8_wouldBring_19 : decode cX8_wouldBring 19 = .ok (.aload_n 0, 1) := by decide +kernel
theorem dX8_wouldBring_20 : decode cX8_wouldBring 20 = .ok (.getfield 11, 3) := by decide +kernel
theorem dX8_wouldBring_23 : decode cX8_wouldBring 23 = .ok (.iconst 4, 1) := by decide +kernel
theorem dX8_wouldBring_24 : decode cX8_wouldBring 24 = .ok (.iload_n 1, 1) := by decide +kernel
theorem dX8_wouldBring_25 : decode cX8_wouldBring 25 = .ok (.iadd, 1) := by decide +kernel
theorem dX8_wouldBring_26 : decode cX8_wouldBring 26 = .ok (.iaload, 1) := by decide +kernel
theorem dX8_wouldBring_27 : decode cX8_wouldBring 27 = .ok (.aload_n 0, 1) := by decide +kernel
theorem dX8_wouldBring_28 : decode cX8_wouldBring 28 = .ok (.getfield 11, 3) := by decide +kernel
theorem dX8_wouldBring_31 : decode cX8_wouldBring 31 = .ok (.iconst 3, 1) := by decide +kernel
theorem dX8_wouldBring_32 : decode cX8_wouldBring 32 = .ok (.iaload, 1) := by decide +kernel
theorem dX8_wouldBring_33 : decode cX8_wouldBring 33 = .ok (.iload_n 2, 1) := by decide +kernel
theorem dX8_wouldBring_34 : decode cX8_wouldBring 34 = .ok (.invokevirtual 103, 3) := by decide +kernel
theorem dX8_wouldBring_37 : decode cX8_wouldBring 37 = .ok (.ireturn, 1) := by decide +kernel
theorem dX8_brings_0 : decode cX8_brings 0 = .ok (.aload_n 0, 1) := by decide +kernel
theorem dX8_brings_1 : decode cX8_brings 1 = .ok (.getfield 15, 3) := by decide +kernel
theorem dX8_brings_4 : decode cX8_brings 4 = .ok (.getfield 113, 3) := by decide +kernel
theorem dX8_brings_7 : decode cX8_brings 7 = .ok (.iload 5, 2) := by decide +kernel
theorem dX8_brings_9 : decode cX8_brings 9 = .ok (.iaload, 1) := by decide +kernel
theorem dX8_brings_10 : decode cX8_brings 10 = .ok (.istore 6, 2) := by decide +kernel
theorem dX8_brings_12 : decode cX8_brings 12 = .ok (.iload_n 2, 1) := by decide +kernel
theorem dX8_brings_13 : decode cX8_brings 13 = .ok (.aload_n 0, 1) := by decide +kernel
theorem dX8_brings_14 : decode cX8_brings 14 = .ok (.getfield 15, 3) := by decide +kernel
theorem dX8_brings_17 : decode cX8_brings 17 = .ok (.iload_n 1, 1) := by decide +kernel
theorem dX8_brings_18 : decode cX8_brings 18 = .ok (.iload 5, 2) := by decide +kernel
theorem dX8_brings_20 : decode cX8_brings 20 = .ok (.invokevirtual 100, 3) := by decide +kernel
theorem dX8_brings_23 : decode cX8_brings 23 = .ok (.invokestatic 107, 3) := by decide +kernel
theorem dX8_brings_26 : decode cX8_brings 26 = .ok (.istore 7, 2) := by decide +kernel
theorem dX8_brings_28 : decode cX8_brings 28 = .ok (.aload_n 0, 1) := by decide +kernel
theorem dX8_brings_29 : decode cX8_brings 29 = .ok (.getfield 19, 3) := by decide +kernel
theorem dX8_brings_32 : decode cX8_brings 32 = .ok (.getfield 116, 3) := by decide +kernel
theorem dX8_brings_35 : decode cX8_brings 35 = .ok (.iconst (-1), 1) := by decide +kernel
theorem dX8_brings_36 : decode cX8_brings 36 = .ok (.if_icmp .ne 16, 3) := by decide +kernel
theorem dX8_brings_39 : decode cX8_brings 39 = .ok (.aload_n 0, 1) := by decide +kernel
theorem dX8_brings_40 : decode cX8_brings 40 = .ok (.iload 6, 2) := by decide +kernel
theorem dX8_brings_42 : decode cX8_brings 42 = .ok (.iload 7, 2) := by decide +kernel
theorem dX8_brings_44 : decode cX8_brings 44 = .ok (.iadd, 1) := by decide +kernel
theorem dX8_brings_45 : decode cX8_brings 45 = .ok (.iconst 2, 1) := by decide +kernel
theorem dX8_brings_46 : decode cX8_brings 46 = .ok (.idiv, 1) := by decide +kernel
theorem dX8_brings_47 : decode cX8_brings 47 = .ok (.iload_n 3, 1) := by decide +kernel
theorem dX8_brings_48 : decode cX8_brings 48 = .ok (.invokevirtual 121, 3) := by decide +kernel
theorem dX8_brings_51 : decode cX8_brings 51 = .ok (.ireturn, 1) := by decide +kernel
theorem dX8_brings_52 : decode cX8_brings 52 = .ok (.aload_n 0, 1) := by decide +kernel
theorem dX8_brings_53 : decode cX8_brings 53 = .ok (.getfield 19, 3) := by decide +kernel
theorem dX8_brings_56 : decode cX8_brings 56 = .ok (.iload 6, 2) := by decide +kernel
theorem dX8_brings_58 : decode cX8_brings 58 = .ok (.iload 7, 2) := by decide +kernel
theorem dX8_brings_60 : decode cX8_brings 60 = .ok (.iload_n 1, 1) := by decide +kernel
theorem dX8_brings_61 : decode cX8_brings 61 = .ok (.iload 5, 2) := by decide +kernel
theorem dX8_brings_63 : decode cX8_brings 63 = .ok (.if_icmp .ne 7, 3) := by decide +kernel
theorem dX8_brings_66 : decode cX8_brings 66 = .ok (.iconst 1, 1) := by decide +kernel
theorem dX8_brings_67 : decode cX8_brings 67 = .ok (.goto 4, 3) := by decide +kernel
theorem dX8_brings_70 : decode cX8_brings 70 = .ok (.iconst 0, 1) := by decide +kernel
theorem dX8_brings_71 : decode cX8_brings 71 = .ok (.iload_n 3, 1) := by decide +kernel
theorem dX8_brings_72 : decode cX8_brings 72 = .ok (.iload 4, 2) := by decide +kernel
theorem dX8_brings_74 : decode cX8_brings 74 = .ok (.aload_n 0, 1) := by decide +kernel
theorem dX8_brings_75 : decode cX8_brings 75 = .ok (.getfield 11, 3) := by decide +kernel
theorem dX8_brings_78 : decode cX8_brings 78 = .ok (.bipush 22, 2) := by decide +kernel
theorem dX8_brings_80 : decode cX8_brings 80 = .ok (.iload 5, 2) := by decide +kernel
theorem dX8_brings_82 : decode cX8_brings 82 = .ok (.iadd, 1) := by decide +kernel
theorem dX8_brings_83 : decode cX8_brings 83 = .ok (.iaload, 1) := by decide +kernel
theorem dX8_brings_84 : decode cX8_brings 84 = .ok (.invokevirtual 124, 3) := by decide +kernel
theorem dX8_brings_87 : decode cX8_brings 87 = .ok (.aload_n 0, 1) := by decide +kernel
theorem dX8_brings_88 : decode cX8_brings 88 = .ok (.iconst 0, 1) := by decide +kernel
theorem dX8_brings_89 : decode cX8_brings 89 = .ok (.bipush 9, 2) := by decide +kernel
theorem dX8_brings_91 : decode cX8_brings 91 = .ok (.aload_n 0, 1) := by decide +kernel
theorem dX8_brings_92 : decode cX8_brings 92 = .ok (.getfield 19, 3) := by decide +kernel
theorem dX8_brings_95 : decode cX8_brings 95 = .ok (.invokevirtual 128, 3) := by decide +kernel
theorem dX8_brings_98 : decode cX8_brings 98 = .ok (.invokestatic 60, 3) := by decide +kernel
theorem dX8_brings_101 : decode cX8_brings 101 = .ok (.invokestatic 131, 3) := by decide +kernel
theorem dX8_brings_104 : decode cX8_brings 104 = .ok (.iload_n 3, 1) := by decide +kernel
theorem dX8_brings_105 : decode cX8_brings 105 = .ok (.invokevirtual 121, 3) := by decide +kernel
theorem dX8_brings_108 : decode cX8_brings 108 = .ok (.ireturn, 1) := by decide +kernel
theorem dX8_moodBehind_0 : decode cX8_moodBehind 0 = .ok (.iload_n 1, 1) := by decide +kernel
theorem dX8_moodBehind_1 : decode cX8_moodBehind 1 = .ok (.bipush 6, 2) := by decide +kernel
theorem dX8_moodBehind_3 : decode cX8_moodBehind 3 = .ok (.if_icmp .lt 12, 3) := by decide +kernel
theorem dX8_moodBehind_6 : decode cX8_moodBehind 6 = .ok (.bipush 9, 2) := by decide +kernel
theorem dX8_moodBehind_8 : decode cX8_moodBehind 8 = .ok (.iload_n 0, 1) := by decide +kernel
theorem dX8_moodBehind_9 : decode cX8_moodBehind 9 = .ok (.iconst 1, 1) := by decide +kernel
theorem dX8_moodBehind_10 : decode cX8_moodBehind 10 = .ok (.iadd, 1) := by decide +kernel
theorem dX8_moodBehind_11 : decode cX8_moodBehind 11 = .ok (.invokestatic 60, 3) := by decide +kernel
theorem dX8_moodBehind_14 : decode cX8_moodBehind 14 = .ok (.ireturn, 1) := by decide +kernel
theorem dX8_moodBehind_15 : decode cX8_moodBehind 15 = .ok (.iload_n 1, 1) := by decide +kernel
theorem dX8_moodBehind_16 : decode cX8_moodBehind 16 = .ok (.iconst 4, 1) := by decide +kernel
theorem dX8_moodBehind_17 : decode cX8_moodBehind 17 = .ok (.if_icmp .ge 13, 3) := by decide +kernel
theorem dX8_moodBehind_20 : decode cX8_moodBehind 20 = .ok (.iconst 0, 1) := by decide +kernel
theorem dX8_moodBehind_21 : decode cX8_moodBehind 21 = .ok (.iload_n 0, 1) := by decide +kernel
theorem dX8_moodBehind_22 : decode cX8_moodBehind 22 = .ok (.iconst 1, 1) := by decide +kernel
theorem dX8_moodBehind_23 : decode cX8_moodBehind 23 = .ok (.isub, 1) := by decide +kernel
theorem dX8_moodBehind_24 : decode cX8_moodBehind 24 = .ok (.invokestatic 131, 3) := by decide +kernel
theorem dX8_moodBehind_27 : decode cX8_moodBehind 27 = .ok (.goto 4, 3) := by decide +kernel
theorem dX8_moodBehind_30 : decode cX8_moodBehind 30 = .ok (.iload_n 0, 1) := by decide +kernel
theorem dX8_moodBehind_31 : decode cX8_moodBehind 31 = .ok (.ireturn, 1) := by decide +kernel
theorem dX8_nearest_0 : decode cX8_nearest 0 = .ok (.iconst (-1), 1) := by decide +kernel
theorem dX8_nearest_1 : decode cX8_nearest 1 = .ok (.istore_n 3, 1) := by decide +kernel
theorem dX8_nearest_2 : decode cX8_nearest 2 = .ok (.iconst 0, 1) := by decide +kernel
theorem dX8_nearest_3 : decode cX8_nearest 3 = .ok (.istore 4, 2) := by decide +kernel
theorem dX8_nearest_5 : decode cX8_nearest 5 = .ok (.iconst 0, 1) := by decide +kernel
theorem dX8_nearest_6 : decode cX8_nearest 6 = .ok (.istore 5, 2) := by decide +kernel
theorem dX8_nearest_8 : decode cX8_nearest 8 = .ok (.iload 5, 2) := by decide +kernel
theorem dX8_nearest_10 : decode cX8_nearest 10 = .ok (.aload_n 0, 1) := by decide +kernel
theorem dX8_nearest_11 : decode cX8_nearest 11 = .ok (.getfield 15, 3) := by decide +kernel
theorem dX8_nearest_14 : decode cX8_nearest 14 = .ok (.getfield 35, 3) := by decide +kernel
theorem dX8_nearest_17 : decode cX8_nearest 17 = .ok (.if_icmp .ge 96, 3) := by decide +kernel
theorem dX8_nearest_20 : decode cX8_nearest 20 = .ok (.aload_n 0, 1) := by decide +kernel
theorem dX8_nearest_21 : decode cX8_nearest 21 = .ok (.getfield 11, 3) := by decide +kernel
theorem dX8_nearest_24 : decode cX8_nearest 24 = .ok (.bipush 22, 2) := by decide +kernel
theorem dX8_nearest_26 : decode cX8_nearest 26 = .ok (.iload 5, 2) := by decide +kernel
theorem dX8_nearest_28 : decode cX8_nearest 28 = .ok (.iadd, 1) := by decide +kernel
theorem dX8_nearest_29 : decode cX8_nearest 29 = .ok (.iaload, 1) := by decide +kernel
theorem dX8_nearest_30 : decode cX8_nearest 30 = .ok (.istore 6, 2) := by decide +kernel
theorem dX8_nearest_32 : decode cX8_nearest 32 = .ok (.aload_n 0, 1) := by decide +kernel
theorem dX8_nearest_33 : decode cX8_nearest 33 = .ok (.getfield 15, 3) := by decide +kernel
theorem dX8_nearest_36 : decode cX8_nearest 36 = .ok (.getfield 113, 3) := by decide +kernel
theorem dX8_nearest_39 : decode cX8_nearest 39 = .ok (.iload 5, 2) := by decide +kernel
theorem dX8_nearest_41 : decode cX8_nearest 41 = .ok (.iaload, 1) := by decide +kernel
theorem dX8_nearest_42 : decode cX8_nearest 42 = .ok (.iload_n 1, 1) := by decide +kernel
theorem dX8_nearest_43 : decode cX8_nearest 43 = .ok (.isub, 1) := by decide +kernel
theorem dX8_nearest_44 : decode cX8_nearest 44 = .ok (.invokestatic 134, 3) := by decide +kernel
theorem dX8_nearest_47 : decode cX8_nearest 47 = .ok (.istore 7, 2) := by decide +kernel
theorem dX8_nearest_49 : decode cX8_nearest 49 = .ok (.iload_n 3, 1) := by decide +kernel
theorem dX8_nearest_50 : decode cX8_nearest 50 = .ok (.iconst (-1), 1) := by decide +kernel
theorem dX8_nearest_51 : decode cX8_nearest 51 = .ok (.if_icmp .eq 31, 3) := by decide +kernel
theorem dX8_nearest_54 : decode cX8_nearest 54 = .ok (.iload 7, 2) := by decide +kernel
theorem dX8_nearest_56 : decode cX8_nearest 56 = .ok (.iload 4, 2) := by decide +kernel
theorem dX8_nearest_58 : decode cX8_nearest 58 = .ok (.if_icmp .lt 24, 3) := by decide +kernel
theorem dX8_nearest_61 : decode cX8_nearest 61 = .ok (.iload 7, 2) := by decide +kernel
theorem dX8_nearest_63 : decode cX8_nearest 63 = .ok (.iload 4, 2) := by decide +kernel
theorem dX8_nearest_65 : decode cX8_nearest 65 = .ok (.if_icmp .ne 21, 3) := by decide +kernel
theorem dX8_nearest_68 : decode cX8_nearest 68 = .ok (.iload 6, 2) := by decide +kernel
theorem dX8_nearest_70 : decode cX8_nearest 70 = .ok (.aload_n 0, 1) := by decide +kernel
theorem dX8_nearest_71 : decode cX8_nearest 71 = .ok (.getfield 11, 3) := by decide +kernel
theorem dX8_nearest_74 : decode cX8_nearest 74 = .ok (.bipush 22, 2) := by decide +kernel
theorem dX8_nearest_76 : decode cX8_nearest 76 = .ok (.iload_n 3, 1) := by decide +kernel
theorem dX8_nearest_77 : decode cX8_nearest 77 = .ok (.iadd, 1) := by decide +kernel
theorem dX8_nearest_78 : decode cX8_nearest 78 = .ok (.iaload, 1) := by decide +kernel
theorem dX8_nearest_79 : decode cX8_nearest 79 = .ok (.if_icmp .ge 7, 3) := by decide +kernel
theorem dX8_nearest_82 : decode cX8_nearest 82 = .ok (.iconst 1, 1) := by decide +kernel
theorem dX8_nearest_83 : decode cX8_nearest 83 = .ok (.goto 4, 3) := by decide +kernel
theorem dX8_nearest_86 : decode cX8_nearest 86 = .ok (.iconst 0, 1) := by decide +kernel
theorem dX8_nearest_87 : decode cX8_nearest 87 = .ok (.istore 8, 2) := by decide +kernel
theorem dX8_nearest_89 : decode cX8_nearest 89 = .ok (.iload 6, 2) := by decide +kernel
theorem dX8_nearest_91 : decode cX8_nearest 91 = .ok (.iload_n 2, 1) := by decide +kernel
theorem dX8_nearest_92 : decode cX8_nearest 92 = .ok (.if_icmp .gt 15, 3) := by decide +kernel
theorem dX8_nearest_95 : decode cX8_nearest 95 = .ok (.iload 8, 2) := by decide +kernel
theorem dX8_nearest_97 : decode cX8_nearest 97 = .ok (.ifCond .eq 10, 3) := by decide +kernel
theorem dX8_nearest_100 : decode cX8_nearest 100 = .ok (.iload 5, 2) := by decide +kernel
theorem dX8_nearest_102 : decode cX8_nearest 102 = .ok (.istore_n 3, 1) := by decide +kernel
theorem dX8_nearest_103 : decode cX8_nearest 103 = .ok (.iload 7, 2) := by decide +kernel
theorem dX8_nearest_105 : decode cX8_nearest 105 = .ok (.istore 4, 2) := by decide +kernel
theorem dX8_nearest_107 : decode cX8_nearest 107 = .ok (.iinc 5 1, 3) := by decide +kernel
theorem dX8_nearest_110 : decode cX8_nearest 110 = .ok (.goto (-102), 3) := by decide +kernel
theorem dX8_nearest_113 : decode cX8_nearest 113 = .ok (.iload_n 3, 1) := by decide +kernel
theorem dX8_nearest_114 : decode cX8_nearest 114 = .ok (.ireturn, 1) := by decide +kernel
theorem dX8_sourest_0 : decode cX8_sourest 0 = .ok (.iconst 0, 1) := by decide +kernel
theorem dX8_sourest_1 : decode cX8_sourest 1 = .ok (.istore_n 1, 1) := by decide +kernel
theorem dX8_sourest_2 : decode cX8_sourest 2 = .ok (.iconst 1, 1) := by decide +kernel
theorem dX8_sourest_3 : decode cX8_sourest 3 = .ok (.istore_n 2, 1) := by decide +kernel
theorem dX8_sourest_4 : decode cX8_sourest 4 = .ok (.iload_n 2, 1) := by decide +kernel
theorem dX8_sourest_5 : decode cX8_sourest 5 = .ok (.aload_n 0, 1) := by decide +kernel
theorem dX8_sourest_6 : decode cX8_sourest 6 = .ok (.getfield 15, 3) := by decide +kernel
theorem dX8_sourest_9 : decode cX8_sourest 9 = .ok (.getfield 45, 3) := by decide +kernel
theorem dX8_sourest_12 : decode cX8_sourest 12 = .ok (.if_icmp .ge 32, 3) := by decide +kernel
theorem dX8_sourest_15 : decode cX8_sourest 15 = .ok (.aload_n 0, 1) := by decide +kernel
theorem dX8_sourest_16 : decode cX8_sourest 16 = .ok (.getfield 11, 3) := by decide +kernel
theorem dX8_sourest_19 : decode cX8_sourest 19 = .ok (.bipush 10, 2) := by decide +kernel
theorem dX8_sourest_21 : decode cX8_sourest 21 = .ok (.iload_n 2, 1) := by decide +kernel
theorem dX8_sourest_22 : decode cX8_sourest 22 = .ok (.iadd, 1) := by decide +kernel
theorem dX8_sourest_23 : decode cX8_sourest 23 = .ok (.iaload, 1) := by decide +kernel
theorem dX8_sourest_24 : decode cX8_sourest 24 = .ok (.aload_n 0, 1) := by decide +kernel
theorem dX8_sourest_25 : decode cX8_sourest 25 = .ok (.getfield 11, 3) := by decide +kernel
theorem dX8_sourest_28 : decode cX8_sourest 28 = .ok (.bipush 10, 2) := by decide +kernel
theorem dX8_sourest_30 : decode cX8_sourest 30 = .ok (.iload_n 1, 1) := by decide +kernel
theorem dX8_sourest_31 : decode cX8_sourest 31 = .ok (.iadd, 1) := by decide +kernel
theorem dX8_sourest_32 : decode cX8_sourest 32 = .ok (.iaload, 1) := by decide +kernel
theorem dX8_sourest_33 : decode cX8_sourest 33 = .ok (.if_icmp .ge 5, 3) := by decide +kernel
theorem dX8_sourest_36 : decode cX8_sourest 36 = .ok (.iload_n 2, 1) := by decide +kernel
theorem dX8_sourest_37 : decode cX8_sourest 37 = .ok (.istore_n 1, 1) := by decide +kernel
theorem dX8_sourest_38 : decode cX8_sourest 38 = .ok (.iinc 2 1, 3) := by decide +kernel
theorem dX8_sourest_41 : decode cX8_sourest 41 = .ok (.goto (-37), 3) := by decide +kernel
theorem dX8_sourest_44 : decode cX8_sourest 44 = .ok (.iload_n 1, 1) := by decide +kernel
theorem dX8_sourest_45 : decode cX8_sourest 45 = .ok (.ireturn, 1) := by decide +kernel
theorem dX8_richest_0 : decode cX8_richest 0 = .ok (.aload_n 0, 1) := by decide +kernel
theorem dX8_richest_1 : decode cX8_richest 1 = .ok (.iconst 4, 1) := by decide +kernel
theorem dX8_richest_2 : decode cX8_richest 2 = .ok (.invokevirtual 137, 3) := by decide +kernel
theorem dX8_richest_5 : decode cX8_richest 5 = .ok (.ireturn, 1) := by decide +kernel
theorem dX8_merriest_0 : decode cX8_merriest 0 = .ok (.aload_n 0, 1) := by decide +kernel
theorem dX8_merriest_1 : decode cX8_merriest 1 = .ok (.bipush 16, 2) := by decide +kernel
theorem dX8_merriest_3 : decode cX8_merriest 3 = .ok (.invokevirtual 137, 3) := by decide +kernel
theorem dX8_merriest_6 : decode cX8_merriest 6 = .ok (.ireturn, 1) := by decide +kernel
theorem dX8_guestWithMost_0 : decode cX8_guestWithMost 0 = .ok (.iconst 0, 1) := by decide +kernel
theorem dX8_guestWithMost_1 : decode cX8_guestWithMost 1 = .ok (.istore_n 2, 1) := by decide +kernel
theorem dX8_guestWithMost_2 : decode cX8_guestWithMost 2 = .ok (.iconst 1, 1) := by decide +kernel
theorem dX8_guestWithMost_3 : decode cX8_guestWithMost 3 = .ok (.istore_n 3, 1) := by decide +kernel
theorem dX8_guestWithMost_4 : decode cX8_guestWithMost 4 = .ok (.iload_n 3, 1) := by decide +kernel
theorem dX8_guestWithMost_5 : decode cX8_guestWithMost 5 = .ok (.aload_n 0, 1) := by decide +kernel
theorem dX8_guestWithMost_6 : decode cX8_guestWithMost 6 = .ok (.getfield 15, 3) := by decide +kernel
theorem dX8_guestWithMost_9 : decode cX8_guestWithMost 9 = .ok (.getfield 45, 3) := by decide +kernel
theorem dX8_guestWithMost_12 : decode cX8_guestWithMost 12 = .ok (.if_icmp .ge 30, 3) := by decide +kernel
theorem dX8_guestWithMost_15 : decode cX8_guestWithMost 15 = .ok (.aload_n 0, 1) := by decide +kernel
theorem dX8_guestWithMost_16 : decode cX8_guestWithMost 16 = .ok (.getfield 11, 3) := by decide +kernel
theorem dX8_guestWithMost_19 : decode cX8_guestWithMost 19 = .ok (.iload_n 1, 1) := by decide +kernel
theorem dX8_guestWithMost_20 : decode cX8_guestWithMost 20 = .ok (.iload_n 3, 1) := by decide +kernel
theorem dX8_guestWithMost_21 : decode cX8_guestWithMost 21 = .ok (.iadd, 1) := by decide +kernel
theorem dX8_guestWithMost_22 : decode cX8_guestWithMost 22 = .ok (.iaload, 1) := by decide +kernel
theorem dX8_guestWithMost_23 : decode cX8_guestWithMost 23 = .ok (.aload_n 0, 1) := by decide +kernel
theorem dX8_guestWithMost_24 : decode cX8_guestWithMost 24 = .ok (.getfield 11, 3) := by decide +kernel
theorem dX8_guestWithMost_27 : decode cX8_guestWithMost 27 = .ok (.iload_n 1, 1) := by decide +kernel
theorem dX8_guestWithMost_28 : decode cX8_guestWithMost 28 = .ok (.iload_n 2, 1) := by decide +kernel
theorem dX8_guestWithMost_29 : decode cX8_guestWithMost 29 = .ok (.iadd, 1) := by decide +kernel
theorem dX8_guestWithMost_30 : decode cX8_guestWithMost 30 = .ok (.iaload, 1) := by decide +kernel
theorem dX8_guestWithMost_31 : decode cX8_guestWithMost 31 = .ok (.if_icmp .le 5, 3) := by decide +kernel
theorem dX8_guestWithMost_34 : decode cX8_guestWithMost 34 = .ok (.iload_n 3, 1) := by decide +kernel
theorem dX8_guestWithMost_35 : decode cX8_guestWithMost 35 = .ok (.istore_n 2, 1) := by decide +kernel
theorem dX8_guestWithMost_36 : decode cX8_guestWithMost 36 = .ok (.iinc 3 1, 3) := by decide +kernel
theorem dX8_guestWithMost_39 : decode cX8_guestWithMost 39 = .ok (.goto (-35), 3) := by decide +kernel
theorem dX8_guestWithMost_42 : decode cX8_guestWithMost 42 = .ok (.iload_n 2, 1) := by decide +kernel
theorem dX8_guestWithMost_43 : decode cX8_guestWithMost 43 = .ok (.ireturn, 1) := by decide +kernel
theorem dX8_leastPrice_0 : decode cX8_leastPrice 0 = .ok (.bipush 60, 2) := by decide +kernel
theorem dX8_leastPrice_2 : decode cX8_leastPrice 2 = .ok (.istore_n 1, 1) := by decide +kernel
theorem dX8_leastPrice_3 : decode cX8_leastPrice 3 = .ok (.iconst 0, 1) := by decide +kernel
theorem dX8_leastPrice_4 : decode cX8_leastPrice 4 = .ok (.istore_n 2, 1) := by decide +kernel
theorem dX8_leastPrice_5 : decode cX8_leastPrice 5 = .ok (.iload_n 2, 1) := by decide +kernel
theorem dX8_leastPrice_6 : decode cX8_leastPrice 6 = .ok (.aload_n 0, 1) := by decide +kernel
theorem dX8_leastPrice_7 : decode cX8_leastPrice 7 = .ok (.getfield 15, 3) := by decide +kernel
theorem dX8_leastPrice_10 : decode cX8_leastPrice 10 = .ok (.getfield 35, 3) := by decide +kernel
theorem dX8_leastPrice_13 : decode cX8_leastPrice 13 = .ok (.if_icmp .ge 23, 3) := by decide +kernel
theorem dX8_leastPrice_16 : decode cX8_leastPrice 16 = .ok (.iload_n 1, 1) := by decide +kernel
theorem dX8_leastPrice_17 : decode cX8_leastPrice 17 = .ok (.aload_n 0, 1) := by decide +kernel
theorem dX8_leastPrice_18 : decode cX8_leastPrice 18 = .ok (.getfield 11, 3) := by decide +kernel
theorem dX8_leastPrice_21 : decode cX8_leastPrice 21 = .ok (.bipush 22, 2) := by decide +kernel
theorem dX8_leastPrice_23 : decode cX8_leastPrice 23 = .ok (.iload_n 2, 1) := by decide +kernel
theorem dX8_leastPrice_24 : decode cX8_leastPrice 24 = .ok (.iadd, 1) := by decide +kernel
theorem dX8_leastPrice_25 : decode cX8_leastPrice 25 = .ok (.iaload, 1) := by decide +kernel
theorem dX8_leastPrice_26 : decode cX8_leastPrice 26 = .ok (.invokestatic 60, 3) := by decide +kernel
theorem dX8_leastPrice_29 : decode cX8_leastPrice 29 = .ok (.istore_n 1, 1) := by decide +kernel
theorem dX8_leastPrice_30 : decode cX8_leastPrice 30 = .ok (.iinc 2 1, 3) := by decide +kernel
theorem dX8_leastPrice_33 : decode cX8_leastPrice 33 = .ok (.goto (-28), 3) := by decide +kernel
theorem dX8_leastPrice_36 : decode cX8_leastPrice 36 = .ok (.iload_n 1, 1) := by decide +kernel
theorem dX8_leastPrice_37 : decode cX8_leastPrice 37 = .ok (.ireturn, 1) := by decide +kernel
theorem dX8_payable_0 : decode cX8_payable 0 = .ok (.iconst 0, 1) := by decide +kernel
theorem dX8_payable_1 : decode cX8_payable 1 = .ok (.istore_n 2, 1) := by decide +kernel
theorem dX8_payable_2 : decode cX8_payable 2 = .ok (.iconst 0, 1) := by decide +kernel
theorem dX8_payable_3 : decode cX8_payable 3 = .ok (.istore_n 3, 1) := by decide +kernel
theorem dX8_payable_4 : decode cX8_payable 4 = .ok (.iload_n 3, 1) := by decide +kernel
theorem dX8_payable_5 : decode cX8_payable 5 = .ok (.aload_n 0, 1) := by decide +kernel
theorem dX8_payable_6 : decode cX8_payable 6 = .ok (.getfield 15, 3) := by decide +kernel
theorem dX8_payable_9 : decode cX8_payable 9 = .ok (.getfield 35, 3) := by decide +kernel
theorem dX8_payable_12 : decode cX8_payable 12 = .ok (.if_icmp .ge 35, 3) := by decide +kernel
theorem dX8_payable_15 : decode cX8_payable 15 = .ok (.aload_n 0, 1) := by decide +kernel
theorem dX8_payable_16 : decode cX8_payable 16 = .ok (.getfield 11, 3) := by decide +kernel
theorem dX8_payable_19 : decode cX8_payable 19 = .ok (.bipush 22, 2) := by decide +kernel
theorem dX8_payable_21 : decode cX8_payable 21 = .ok (.iload_n 3, 1) := by decide +kernel
theorem dX8_payable_22 : decode cX8_payable 22 = .ok (.iadd, 1) := by decide +kernel
theorem dX8_payable_23 : decode cX8_payable 23 = .ok (.iaload, 1) := by decide +kernel
theorem dX8_payable_24 : decode cX8_payable 24 = .ok (.aload_n 0, 1) := by decide +kernel
theorem dX8_payable_25 : decode cX8_payable 25 = .ok (.getfield 11, 3) := by decide +kernel
theorem dX8_payable_28 : decode cX8_payable 28 = .ok (.iconst 4, 1) := by decide +kernel
theorem dX8_payable_29 : decode cX8_payable 29 = .ok (.iload_n 1, 1) := by decide +kernel
theorem dX8_payable_30 : decode cX8_payable 30 = .ok (.iadd, 1) := by decide +kernel
theorem dX8_payable_31 : decode cX8_payable 31 = .ok (.iaload, 1) := by decide +kernel
theorem dX8_payable_32 : decode cX8_payable 32 = .ok (.if_icmp .gt 9, 3) := by decide +kernel
theorem dX8_payable_35 : decode cX8_payable 35 = .ok (.iload_n 2, 1) := by decide +kernel
theorem dX8_payable_36 : decode cX8_payable 36 = .ok (.iconst 1, 1) := by decide +kernel
theorem dX8_payable_37 : decode cX8_payable 37 = .ok (.iload_n 3, 1) := by decide +kernel
theorem dX8_payable_38 : decode cX8_payable 38 = .ok (.ishl, 1) := by decide +kernel
theorem dX8_payable_39 : decode cX8_payable 39 = .ok (.ior, 1) := by decide +kernel
theorem dX8_payable_40 : decode cX8_payable 40 = .ok (.istore_n 2, 1) := by decide +kernel
theorem dX8_payable_41 : decode cX8_payable 41 = .ok (.iinc 3 1, 3) := by decide +kernel
theorem dX8_payable_44 : decode cX8_payable 44 = .ok (.goto (-40), 3) := by decide +kernel
theorem dX8_payable_47 : decode cX8_payable 47 = .ok (.iload_n 2, 1) := by decide +kernel
theorem dX8_payable_48 : decode cX8_payable 48 = .ok (.ireturn, 1) := by decide +kernel
theorem dX8_nobles_0 : decode cX8_nobles 0 = .ok (.iconst 0, 1) := by decide +kernel
theorem dX8_nobles_1 : decode cX8_nobles 1 = .ok (.istore_n 1, 1) := by decide +kernel
theorem dX8_nobles_2 : decode cX8_nobles 2 = .ok (.iconst 0, 1) := by decide +kernel
theorem dX8_nobles_3 : decode cX8_nobles 3 = .ok (.istore_n 2, 1) := by decide +kernel
theorem dX8_nobles_4 : decode cX8_nobles 4 = .ok (.iload_n 2, 1) := by decide +kernel
theorem dX8_nobles_5 : decode cX8_nobles 5 = .ok (.aload_n 0, 1) := by decide +kernel
theorem dX8_nobles_6 : decode cX8_nobles 6 = .ok (.getfield 15, 3) := by decide +kernel
theorem dX8_nobles_9 : decode cX8_nobles 9 = .ok (.getfield 45, 3) := by decide +kernel
theorem dX8_nobles_12 : decode cX8_nobles 12 = .ok (.if_icmp .ge 58, 3) := by decide +kernel
theorem dX8_nobles_15 : decode cX8_nobles 15 = .ok (.aload_n 0, 1) := by decide +kernel
theorem dX8_nobles_16 : decode cX8_nobles 16 = .ok (.iload_n 2, 1) := by decide +kernel
theorem dX8_nobles_17 : decode cX8_nobles 17 = .ok (.aload_n 0, 1) := by decide +kernel
theorem dX8_nobles_18 : decode cX8_nobles 18 = .ok (.getfield 11, 3) := by decide +kernel
theorem dX8_nobles_21 : decode cX8_nobles 21 = .ok (.iconst 0, 1) := by decide +kernel
theorem dX8_nobles_22 : decode cX8_nobles 22 = .ok (.iaload, 1) := by decide +kernel
theorem dX8_nobles_23 : decode cX8_nobles 23 = .ok (.invokevirtual 140, 3) := by decide +kernel
theorem dX8_nobles_26 : decode cX8_nobles 26 = .ok (.istore_n 3, 1) := by decide +kernel
theorem dX8_nobles_27 : decode cX8_nobles 27 = .ok (.iload_n 3, 1) := by decide +kernel
theorem dX8_nobles_28 : decode cX8_nobles 28 = .ok (.iconst (-1), 1) := by decide +kernel
theorem dX8_nobles_29 : decode cX8_nobles 29 = .ok (.if_icmp .eq 35, 3) := by decide +kernel
theorem dX8_nobles_32 : decode cX8_nobles 32 = .ok (.aload_n 0, 1) := by decide +kernel
theorem dX8_nobles_33 : decode cX8_nobles 33 = .ok (.getfield 15, 3) := by decide +kernel
theorem dX8_nobles_36 : decode cX8_nobles 36 = .ok (.getfield 113, 3) := by decide +kernel
theorem dX8_nobles_39 : decode cX8_nobles 39 = .ok (.iload_n 3, 1) := by decide +kernel
theorem dX8_nobles_40 : decode cX8_nobles 40 = .ok (.iaload, 1) := by decide +kernel
theorem dX8_nobles_41 : decode cX8_nobles 41 = .ok (.aload_n 0, 1) := by decide +kernel
theorem dX8_nobles_42 : decode cX8_nobles 42 = .ok (.getfield 15, 3) := by decide +kernel
theorem dX8_nobles_45 : decode cX8_nobles 45 = .ok (.getfield 113, 3) := by decide +kernel
theorem dX8_nobles_48 : decode cX8_nobles 48 = .ok (.aload_n 0, 1) := by decide +kernel
theorem dX8_nobles_49 : decode cX8_nobles 49 = .ok (.getfield 11, 3) := by decide +kernel
theorem dX8_nobles_52 : decode cX8_nobles 52 = .ok (.iconst 0, 1) := by decide +kernel
theorem dX8_nobles_53 : decode cX8_nobles 53 = .ok (.iaload, 1) := by decide +kernel
theorem dX8_nobles_54 : decode cX8_nobles 54 = .ok (.iaload, 1) := by decide +kernel
theorem dX8_nobles_55 : decode cX8_nobles 55 = .ok (.if_icmp .le 9, 3) := by decide +kernel
theorem dX8_nobles_58 : decode cX8_nobles 58 = .ok (.iload_n 1, 1) := by decide +kernel
theorem dX8_nobles_59 : decode cX8_nobles 59 = .ok (.iconst 1, 1) := by decide +kernel
theorem dX8_nobles_60 : decode cX8_nobles 60 = .ok (.iload_n 2, 1) := by decide +kernel
theorem dX8_nobles_61 : decode cX8_nobles 61 = .ok (.ishl, 1) := by decide +kernel
theorem dX8_nobles_62 : decode cX8_nobles 62 = .ok (.ior, 1) := by decide +kernel
theorem dX8_nobles_63 : decode cX8_nobles 63 = .ok (.istore_n 1, 1) := by decide +kernel
theorem dX8_nobles_64 : decode cX8_nobles 64 = .ok (.iinc 2 1, 3) := by decide +kernel
theorem dX8_nobles_67 : decode cX8_nobles 67 = .ok (.goto (-63), 3) := by decide +kernel
theorem dX8_nobles_70 : decode cX8_nobles 70 = .ok (.iload_n 1, 1) := by decide +kernel
theorem dX8_nobles_71 : decode cX8_nobles 71 = .ok (.ireturn, 1) := by decide +kernel
theorem dX8_share_0 : decode cX8_share 0 = .ok (.aload_n 0, 1) := by decide +kernel
theorem dX8_share_1 : decode cX8_share 1 = .ok (.getfield 15, 3) := by decide +kernel
theorem dX8_share_4 : decode cX8_share 4 = .ok (.aload_n 0, 1) := by decide +kernel
theorem dX8_share_5 : decode cX8_share 5 = .ok (.getfield 15, 3) := by decide +kernel
theorem dX8_share_8 : decode cX8_share 8 = .ok (.getfield 97, 3) := by decide +kernel
theorem dX8_share_11 : decode cX8_share 11 = .ok (.iload_n 1, 1) := by decide +kernel
theorem dX8_share_12 : decode cX8_share 12 = .ok (.iaload, 1) := by decide +kernel
theorem dX8_share_13 : decode cX8_share 13 = .ok (.iload_n 2, 1) := by decide +kernel
theorem dX8_share_14 : decode cX8_share 14 = .ok (.invokevirtual 100, 3) := by decide +kernel
theorem dX8_share_17 : decode cX8_share 17 = .ok (.aload_n 0, 1) := by decide +kernel
theorem dX8_share_18 : decode cX8_share 18 = .ok (.getfield 11, 3) := by decide +kernel
theorem dX8_share_21 : decode cX8_share 21 = .ok (.bipush 22, 2) := by decide +kernel
theorem dX8_share_23 : decode cX8_share 23 = .ok (.iload_n 3, 1) := by decide +kernel
theorem dX8_share_24 : decode cX8_share 24 = .ok (.iadd, 1) := by decide +kernel
theorem dX8_share_25 : decode cX8_share 25 = .ok (.iaload, 1) := by decide +kernel
theorem dX8_share_26 : decode cX8_share 26 = .ok (.iconst 3, 1) := by decide +kernel
theorem dX8_share_27 : decode cX8_share 27 = .ok (.idiv, 1) := by decide +kernel
theorem dX8_share_28 : decode cX8_share 28 = .ok (.isub, 1) := by decide +kernel
theorem dX8_share_29 : decode cX8_share 29 = .ok (.ireturn, 1) := by decide +kernel
theorem dX8_stays_0 : decode cX8_stays 0 = .ok (.iconst 0, 1) := by decide +kernel
theorem dX8_stays_1 : decode cX8_stays 1 = .ok (.istore 4, 2) := by decide +kernel
theorem dX8_stays_3 : decode cX8_stays 3 = .ok (.iload 4, 2) := by decide +kernel
theorem dX8_stays_5 : decode cX8_stays 5 = .ok (.aload_n 0, 1) := by decide +kernel
theorem dX8_stays_6 : decode cX8_stays 6 = .ok (.getfield 15, 3) := by decide +kernel
theorem dX8_stays_9 : decode cX8_stays 9 = .ok (.getfield 35, 3) := by decide +kernel
theorem dX8_stays_12 : decode cX8_stays 12 = .ok (.if_icmp .ge 29, 3) := by decide +kernel
theorem dX8_stays_15 : decode cX8_stays 15 = .ok (.aload_n 0, 1) := by decide +kernel
theorem dX8_stays_16 : decode cX8_stays 16 = .ok (.iload_n 1, 1) := by decide +kernel
theorem dX8_stays_17 : decode cX8_stays 17 = .ok (.iload_n 2, 1) := by decide +kernel
theorem dX8_stays_18 : decode cX8_stays 18 = .ok (.iload 4, 2) := by decide +kernel
theorem dX8_stays_20 : decode cX8_stays 20 = .ok (.invokevirtual 143, 3) := by decide +kernel
theorem dX8_stays_23 : decode cX8_stays 23 = .ok (.aload_n 0, 1) := by decide +kernel
theorem dX8_stays_24 : decode cX8_stays 24 = .ok (.iload_n 1, 1) := by decide +kernel
theorem dX8_stays_25 : decode cX8_stays 25 = .ok (.iload_n 2, 1) := by decide +kernel
theorem dX8_stays_26 : decode cX8_stays 26 = .ok (.iload_n 3, 1) := by decide +kernel
theorem dX8_stays_27 : decode cX8_stays 27 = .ok (.invokevirtual 143, 3) := by decide +kernel
theorem dX8_stays_30 : decode cX8_stays 30 = .ok (.if_icmp .le 5, 3) := by decide +kernel
theorem dX8_stays_33 : decode cX8_stays 33 = .ok (.iconst 0, 1) := by decide +kernel
theorem dX8_stays_34 : decode cX8_stays 34 = .ok (.ireturn, 1) := by decide +kernel
theorem dX8_stays_35 : decode cX8_stays 35 = .ok (.iinc 4 1, 3) := by decide +kernel
theorem dX8_stays_38 : decode cX8_stays 38 = .ok (.goto (-35), 3) := by decide +kernel
theorem dX8_stays_41 : decode cX8_stays 41 = .ok (.iconst 1, 1) := by decide +kernel
theorem dX8_stays_42 : decode cX8_stays 42 = .ok (.ireturn, 1) := by decide +kernel
theorem dX9_init_0 : decode cX9_init 0 = .ok (.aload_n 0, 1) := by decide +kernel
theorem dX9_init_1 : decode cX9_init 1 = .ok (.invokespecial 3, 3) := by decide +kernel
theorem dX9_init_4 : decode cX9_init 4 = .ok (.aload_n 0, 1) := by decide +kernel
theorem dX9_init_5 : decode cX9_init 5 = .ok (.sipush 240, 3) := by decide +kernel
theorem dX9_init_8 : decode cX9_init 8 = .ok (.newarray .int, 2) := by decide +kernel
theorem dX9_init_10 : decode cX9_init 10 = .ok (.putfield 11, 3) := by decide +kernel
theorem dX9_init_13 : decode cX9_init 13 = .ok (.return_, 1) := by decide +kernel
theorem dX9_bytesOf_0 : decode cX9_bytesOf 0 = .ok (.iconst 0, 1) := by decide +kernel
theorem dX9_bytesOf_1 : decode cX9_bytesOf 1 = .ok (.istore_n 1, 1) := by decide +kernel
theorem dX9_bytesOf_2 : decode cX9_bytesOf 2 = .ok (.bipush 24, 2) := by decide +kernel
theorem dX9_bytesOf_4 : decode cX9_bytesOf 4 = .ok (.istore_n 2, 1) := by decide +kernel
theorem dX9_bytesOf_5 : decode cX9_bytesOf 5 = .ok (.iload_n 2, 1) := by decide +kernel
theorem dX9_bytesOf_6 : decode cX9_bytesOf 6 = .ok (.ifCond .lt 22, 3) := by decide +kernel
theorem dX9_bytesOf_9 : decode cX9_bytesOf 9 = .ok (.iload_n 0, 1) := by decide +kernel
theorem dX9_bytesOf_10 : decode cX9_bytesOf 10 = .ok (.iload_n 2, 1) := by decide +kernel
theorem dX9_bytesOf_11 : decode cX9_bytesOf 11 = .ok (.iushr, 1) := by decide +kernel
theorem dX9_bytesOf_12 : decode cX9_bytesOf 12 = .ok (.sipush 255, 3) := by decide +kernel
theorem dX9_bytesOf_15 : decode cX9_bytesOf 15 = .ok (.iand, 1) := by decide +kernel
theorem dX9_bytesOf_16 : decode cX9_bytesOf 16 = .ok (.ifCond .eq 6, 3) := by decide +kernel
theorem dX9_bytesOf_19 : decode cX9_bytesOf 19 = .ok (.iinc 1 1, 3) := by decide +kernel
theorem dX9_bytesOf_22 : decode cX9_bytesOf 22 = .ok (.iinc 2 (-8), 3) := by decide +kernel
theorem dX9_bytesOf_25 : decode cX9_bytesOf 25 = .ok (.goto (-20), 3) := by decide +kernel
theorem dX9_bytesOf_28 : decode cX9_bytesOf 28 = .ok (.iload_n 1, 1) := by decide +kernel
theorem dX9_bytesOf_29 : decode cX9_bytesOf 29 = .ok (.ireturn, 1) := by decide +kernel
theorem dX9_add_0 : decode cX9_add 0 = .ok (.bipush 24, 2) := by decide +kernel
theorem dX9_add_2 : decode cX9_add 2 = .ok (.istore_n 2, 1) := by decide +kernel
theorem dX9_add_3 : decode cX9_add 3 = .ok (.iload_n 2, 1) := by decide +kernel
theorem dX9_add_4 : decode cX9_add 4 = .ok (.ifCond .lt 51, 3) := by decide +kernel
theorem dX9_add_7 : decode cX9_add 7 = .ok (.iload_n 1, 1) := by decide +kernel
theorem dX9_add_8 : decode cX9_add 8 = .ok (.iload_n 2, 1) := by decide +kernel
theorem dX9_add_9 : decode cX9_add 9 = .ok (.iushr, 1) := by decide +kernel
theorem dX9_add_10 : decode cX9_add 10 = .ok (.sipush 255, 3) := by decide +kernel
theorem dX9_add_13 : decode cX9_add 13 = .ok (.iand, 1) := by decide +kernel
theorem dX9_add_14 : decode cX9_add 14 = .ok (.istore_n 3, 1) := by decide +kernel
theorem dX9_add_15 : decode cX9_add 15 = .ok (.iload_n 3, 1) := by decide +kernel
theorem dX9_add_16 : decode cX9_add 16 = .ok (.ifCond .eq 33, 3) := by decide +kernel
theorem dX9_add_19 : decode cX9_add 19 = .ok (.aload_n 0, 1) := by decide +kernel
theorem dX9_add_20 : decode cX9_add 20 = .ok (.getfield 15, 3) := by decide +kernel
theorem dX9_add_23 : decode cX9_add 23 = .ok (.sipush 240, 3) := by decide +kernel
theorem dX9_add_26 : decode cX9_add 26 = .ok (.if_icmp .ge 23, 3) := by decide +kernel
theorem dX9_add_29 : decode cX9_add 29 = .ok (.aload_n 0, 1) := by decide +kernel
theorem dX9_add_30 : decode cX9_add 30 = .ok (.getfield 11, 3) := by decide +kernel
theorem dX9_add_33 : decode cX9_add 33 = .ok (.aload_n 0, 1) := by decide +kernel
theorem dX9_add_34 : decode cX9_add 34 = .ok (.getfield 15, 3) := by decide +kernel
theorem dX9_add_37 : decode cX9_add 37 = .ok (.iload_n 3, 1) := by decide +kernel
theorem dX9_add_38 : decode cX9_add 38 = .ok (.iastore, 1) := by decide +kernel
theorem dX9_add_39 : decode cX9_add 39 = .ok (.aload_n 0, 1) := by decide +kernel
theorem dX9_add_40 : decode cX9_add 40 = .ok (.dup, 1) := by decide +kernel
theorem dX9_add_41 : decode cX9_add 41 = .ok (.getfield 15, 3) := by decide +kernel
theorem dX9_add_44 : decode cX9_add 44 = .ok (.iconst 1, 1) := by decide +kernel
theorem dX9_add_45 : decode cX9_add 45 = .ok (.iadd, 1) := by decide +kernel
theorem dX9_add_46 : decode cX9_add 46 = .ok (.putfield 15, 3) := by decide +kernel
theorem dX9_add_49 : decode cX9_add 49 = .ok (.iinc 2 (-8), 3) := by decide +kernel
theorem dX9_add_52 : decode cX9_add 52 = .ok (.goto (-49), 3) := by decide +kernel
theorem dX9_add_55 : decode cX9_add 55 = .ok (.return_, 1) := by decide +kernel
theorem dX9_signAt_0 : decode cX9_signAt 0 = .ok (.iload_n 1, 1) := by decide +kernel
theorem dX9_signAt_1 : decode cX9_signAt 1 = .ok (.ifCond .lt 27, 3) := by decide +kernel
theorem dX9_signAt_4 : decode cX9_signAt 4 = .ok (.iload_n 1, 1) := by decide +kernel
theorem dX9_signAt_5 : decode cX9_signAt 5 = .ok (.aload_n 0, 1) := by decide +kernel
theorem dX9_signAt_6 : decode cX9_signAt 6 = .ok (.getfield 15, 3) := by decide +kernel
theorem dX9_signAt_9 : decode cX9_signAt 9 = .ok (.if_icmp .ge 19, 3) := by decide +kernel
theorem dX9_signAt_12 : decode cX9_signAt 12 = .ok (.iload_n 1, 1) := by decide +kernel
theorem dX9_signAt_13 : decode cX9_signAt 13 = .ok (.sipush 240, 3) := by decide +kernel
theorem dX9_signAt_16 : decode cX9_signAt 16 = .ok (.if_icmp .ge 12, 3) := by decide +kernel
theorem dX9_signAt_19 : decode cX9_signAt 19 = .ok (.aload_n 0, 1) := by decide +kernel
theorem dX9_signAt_20 : decode cX9_signAt 20 = .ok (.getfield 11, 3) := by decide +kernel
theorem dX9_signAt_23 : decode cX9_signAt 23 = .ok (.iload_n 1, 1) := by decide +kernel
theorem dX9_signAt_24 : decode cX9_signAt 24 = .ok (.iaload, 1) := by decide +kernel
theorem dX9_signAt_25 : decode cX9_signAt 25 = .ok (.goto 4, 3) := by decide +kernel
theorem dX9_signAt_28 : decode cX9_signAt 28 = .ok (.iconst (-1), 1) := by decide +kernel
theorem dX9_signAt_29 : decode cX9_signAt 29 = .ok (.ireturn, 1) := by decide +kernel
theorem dX10_init_0 : decode cX10_init 0 = .ok (.aload_n 0, 1) := by decide +kernel
theorem dX10_init_1 : decode cX10_init 1 = .ok (.invokespecial 3, 3) := by decide +kernel
theorem dX10_init_4 : decode cX10_init 4 = .ok (.aload_n 0, 1) := by decide +kernel
theorem dX10_init_5 : decode cX10_init 5 = .ok (.bipush 16, 2) := by decide +kernel
theorem dX10_init_7 : decode cX10_init 7 = .ok (.newarray .int, 2) := by decide +kernel
theorem dX10_init_9 : decode cX10_init 9 = .ok (.putfield 11, 3) := by decide +kernel
theorem dX10_init_12 : decode cX10_init 12 = .ok (.return_, 1) := by decide +kernel
theorem dX10_start_0 : decode cX10_start 0 = .ok (.aload_n 0, 1) := by decide +kernel
theorem dX10_start_1 : decode cX10_start 1 = .ok (.iconst 0, 1) := by decide +kernel
theorem dX10_start_2 : decode cX10_start 2 = .ok (.putfield 15, 3) := by decide +kernel
theorem dX10_start_5 : decode cX10_start 5 = .ok (.aload_n 0, 1) := by decide +kernel
theorem dX10_start_6 : decode cX10_start 6 = .ok (.iconst 0, 1) := by decide +kernel
theorem dX10_start_7 : decode cX10_start 7 = .ok (.putfield 19, 3) := by decide +kernel
theorem dX10_start_10 : decode cX10_start 10 = .ok (.return_, 1) := by decide +kernel
theorem dX10_stepsRead_0 : decode cX10_stepsRead 0 = .ok (.aload_n 0, 1) := by decide +kernel
theorem dX10_stepsRead_1 : decode cX10_stepsRead 1 = .ok (.getfield 11, 3) := by decide +kernel
theorem dX10_stepsRead_4 : decode cX10_stepsRead 4 = .ok (.aload_n 0, 1) := by decide +kernel
theorem dX10_stepsRead_5 : decode cX10_stepsRead 5 = .ok (.getfield 15, 3) := by decide +kernel
theorem dX10_stepsRead_8 : decode cX10_stepsRead 8 = .ok (.invokestatic 22, 3) := by decide +kernel
theorem dX10_stepsRead_11 : decode cX10_stepsRead 11 = .ok (.areturn, 1) := by decide +kernel
theorem dX10_takes_0 : decode cX10_takes 0 = .ok (.aload_n 0, 1) := by decide +kernel
theorem dX10_takes_1 : decode cX10_takes 1 = .ok (.getfield 19, 3) := by decide +kernel
theorem dX10_takes_4 : decode cX10_takes 4 = .ok (.ifCond .ne 9, 3) := by decide +kernel
theorem dX10_takes_7 : decode cX10_takes 7 = .ok (.aload_n 0, 1) := by decide +kernel
theorem dX10_takes_8 : decode cX10_takes 8 = .ok (.iload_n 1, 1) := by decide +kernel
theorem dX10_takes_9 : decode cX10_takes 9 = .ok (.invokevirtual 28, 3) := by decide +kernel
theorem dX10_takes_12 : decode cX10_takes 12 = .ok (.ireturn, 1) := by decide +kernel
theorem dX10_takes_13 : decode cX10_takes 13 = .ok (.aload_n 0, 1) := by decide +kernel
theorem dX10_takes_14 : decode cX10_takes 14 = .ok (.getfield 19, 3) := by decide +kernel
theorem dX10_takes_17 : decode cX10_takes 17 = .ok (.iconst 1, 1) := by decide +kernel
theorem dX10_takes_18 : decode cX10_takes 18 = .ok (.if_icmp .ne 27, 3) := by decide +kernel
theorem dX10_takes_21 : decode cX10_takes 21 = .ok (.iload_n 1, 1) := by decide +kernel
theorem dX10_takes_22 : decode cX10_takes 22 = .ok (.invokestatic 32, 3) := by decide +kernel
theorem dX10_takes_25 : decode cX10_takes 25 = .ok (.ifCond .eq 18, 3) := by decide +kernel
theorem dX10_takes_28 : decode cX10_takes 28 = .ok (.aload_n 0, 1) := by decide +kernel
theorem dX10_takes_29 : decode cX10_takes 29 = .ok (.iload_n 1, 1) := by decide +kernel
theorem dX10_takes_30 : decode cX10_takes 30 = .ok (.bipush 48, 2) := by decide +kernel
theorem dX10_takes_32 : decode cX10_takes 32 = .ok (.isub, 1) := by decide +kernel
theorem dX10_takes_33 : decode cX10_takes 33 = .ok (.invokevirtual 35, 3) := by decide +kernel
theorem dX10_takes_36 : decode cX10_takes 36 = .ok (.ifCond .eq 7, 3) := by decide +kernel
theorem dX10_takes_39 : decode cX10_takes 39 = .ok (.iconst 1, 1) := by decide +kernel
theorem dX10_takes_40 : decode cX10_takes 40 = .ok (.goto 4, 3) := by decide +kernel
theorem dX10_takes_43 : decode cX10_takes 43 = .ok (.iconst 0, 1) := by decide +kernel
theorem dX10_takes_44 : decode cX10_takes 44 = .ok (.ireturn, 1) := by decide +kernel
theorem dX10_takes_45 : decode cX10_takes 45 = .ok (.aload_n 0, 1) := by decide +kernel
theorem dX10_takes_46 : decode cX10_takes 46 = .ok (.iconst 0, 1) := by decide +kernel
theorem dX10_takes_47 : decode cX10_takes 47 = .ok (.putfield 19, 3) := by decide +kernel
theorem dX10_takes_50 : decode cX10_takes 50 = .ok (.iload_n 1, 1) := by decide +kernel
theorem dX10_takes_51 : decode cX10_takes 51 = .ok (.bipush 59, 2) := by decide +kernel
theorem dX10_takes_53 : decode cX10_takes 53 = .ok (.if_icmp .ne 16, 3) := by decide +kernel
theorem dX10_takes_56 : decode cX10_takes 56 = .ok (.aload_n 0, 1) := by decide +kernel
theorem dX10_takes_57 : decode cX10_takes 57 = .ok (.getfield 15, 3) := by decide +kernel
theorem dX10_takes_60 : decode cX10_takes 60 = .ok (.bipush 16, 2) := by decide +kernel
theorem dX10_takes_62 : decode cX10_takes 62 = .ok (.if_icmp .ge 7, 3) := by decide +kernel
theorem dX10_takes_65 : decode cX10_takes 65 = .ok (.iconst 1, 1) := by decide +kernel
theorem dX10_takes_66 : decode cX10_takes 66 = .ok (.goto 4, 3) := by decide +kernel
theorem dX10_takes_69 : decode cX10_takes 69 = .ok (.iconst 0, 1) := by decide +kernel
theorem dX10_takes_70 : decode cX10_takes 70 = .ok (.ireturn, 1) := by decide +kernel
theorem dX10_takesKind_0 : decode cX10_takesKind 0 = .ok (.aload_n 0, 1) := by decide +kernel
theorem dX10_takesKind_1 : decode cX10_takesKind 1 = .ok (.ldc 38, 2) := by decide +kernel
theorem dX10_takesKind_3 : decode cX10_takesKind 3 = .ok (.iload_n 1, 1) := by decide +kernel
theorem dX10_takesKind_4 : decode cX10_takesKind 4 = .ok (.i2c, 1) := by decide +kernel
theorem dX10_takesKind_5 : decode cX10_takesKind 5 = .ok (.invokevirtual 40, 3) := by decide +kernel
theorem dX10_takesKind_8 : decode cX10_takesKind 8 = .ok (.putfield 46, 3) := by decide +kernel
theorem dX10_takesKind_11 : decode cX10_takesKind 11 = .ok (.aload_n 0, 1) := by decide +kernel
theorem dX10_takesKind_12 : decode cX10_takesKind 12 = .ok (.getfield 46, 3) := by decide +kernel
theorem dX10_takesKind_15 : decode cX10_takesKind 15 = .ok (.iconst 1, 1) := by decide +kernel
theorem dX10_takesKind_16 : decode cX10_takesKind 16 = .ok (.if_icmp .ne 9, 3) := by decide +kernel
theorem dX10_takesKind_19 : decode cX10_takesKind 19 = .ok (.aload_n 0, 1) := by decide +kernel
theorem dX10_takesKind_20 : decode cX10_takesKind 20 = .ok (.iconst 0, 1) := by decide +kernel
theorem dX10_takesKind_21 : decode cX10_takesKind 21 = .ok (.invokevirtual 35, 3) := by decide +kernel
theorem dX10_takesKind_24 : decode cX10_takesKind 24 = .ok (.ireturn, 1) := by decide +kernel
theorem dX10_takesKind_25 : decode cX10_takesKind 25 = .ok (.aload_n 0, 1) := by decide +kernel
theorem dX10_takesKind_26 : decode cX10_takesKind 26 = .ok (.iconst 1, 1) := by decide +kernel
theorem dX10_takesKind_27 : decode cX10_takesKind 27 = .ok (.putfield 19, 3) := by decide +kernel
theorem dX10_takesKind_30 : decode cX10_takesKind 30 = .ok (.aload_n 0, 1) := by decide +kernel
theorem dX10_takesKind_31 : decode cX10_takesKind 31 = .ok (.getfield 46, 3) := by decide +kernel
theorem dX10_takesKind_34 : decode cX10_takesKind 34 = .ok (.ifCond .lt 7, 3) := by decide +kernel
theorem dX10_takesKind_37 : decode cX10_takesKind 37 = .ok (.iconst 1, 1) := by decide +kernel
theorem dX10_takesKind_38 : decode cX10_takesKind 38 = .ok (.goto 4, 3) := by decide +kernel
theorem dX10_takesKind_41 : decode cX10_takesKind 41 = .ok (.iconst 0, 1) := by decide +kernel
theorem dX10_takesKind_42 : decode cX10_takesKind 42 = .ok (.ireturn, 1) := by decide +kernel
theorem dX10_adds_0 : decode cX10_adds 0 = .ok (.aload_n 0, 1) := by decide +kernel
theorem dX10_adds_1 : decode cX10_adds 1 = .ok (.getfield 15, 3) := by decide +kernel
theorem dX10_adds_4 : decode cX10_adds 4 = .ok (.bipush 16, 2) := by decide +kernel
theorem dX10_adds_6 : decode cX10_adds 6 = .ok (.if_icmp .lt 5, 3) := by decide +kernel
theorem dX10_adds_9 : decode cX10_adds 9 = .ok (.iconst 0, 1) := by decide +kernel
theorem dX10_adds_10 : decode cX10_adds 10 = .ok (.ireturn, 1) := by decide +kernel
theorem dX10_adds_11 : decode cX10_adds 11 = .ok (.aload_n 0, 1) := by decide +kernel
theorem dX10_adds_12 : decode cX10_adds 12 = .ok (.getfield 11, 3) := by decide +kernel
theorem dX10_adds_15 : decode cX10_adds 15 = .ok (.aload_n 0, 1) := by decide +kernel
theorem dX10_adds_16 : decode cX10_adds 16 = .ok (.getfield 15, 3) := by decide +kernel
theorem dX10_adds_19 : decode cX10_adds 19 = .ok (.bipush 10, 2) := by decide +kernel
theorem dX10_adds_21 : decode cX10_adds 21 = .ok (.aload_n 0, 1) := by decide +kernel
theorem dX10_adds_22 : decode cX10_adds 22 = .ok (.getfield 46, 3) := by decide +kernel
theorem dX10_adds_25 : decode cX10_adds 25 = .ok (.imul, 1) := by decide +kernel
theorem dX10_adds_26 : decode cX10_adds 26 = .ok (.iload_n 1, 1) := by decide +kernel
theorem dX10_adds_27 : decode cX10_adds 27 = .ok (.iadd, 1) := by decide +kernel
theorem dX10_adds_28 : decode cX10_adds 28 = .ok (.iastore, 1) := by decide +kernel
theorem dX10_adds_29 : decode cX10_adds 29 = .ok (.aload_n 0, 1) := by decide +kernel
theorem dX10_adds_30 : decode cX10_adds 30 = .ok (.dup, 1) := by decide +kernel
theorem dX10_adds_31 : decode cX10_adds 31 = .ok (.getfield 15, 3) := by decide +kernel
theorem dX10_adds_34 : decode cX10_adds 34 = .ok (.iconst 1, 1) := by decide +kernel
theorem dX10_adds_35 : decode cX10_adds 35 = .ok (.iadd, 1) := by decide +kernel
theorem dX10_adds_36 : decode cX10_adds 36 = .ok (.putfield 15, 3) := by decide +kernel
theorem dX10_adds_39 : decode cX10_adds 39 = .ok (.aload_n 0, 1) := by decide +kernel
theorem dX10_adds_40 : decode cX10_adds 40 = .ok (.iconst 2, 1) := by decide +kernel
theorem dX10_adds_41 : decode cX10_adds 41 = .ok (.putfield 19, 3) := by decide +kernel
theorem dX10_adds_44 : decode cX10_adds 44 = .ok (.iconst 1, 1) := by decide +kernel
theorem dX10_adds_45 : decode cX10_adds 45 = .ok (.ireturn, 1) := by decide +kernel
theorem dX10_closes_0 : decode cX10_closes 0 = .ok (.aload_n 0, 1) := by decide +kernel
theorem dX10_closes_1 : decode cX10_closes 1 = .ok (.getfield 19, 3) := by decide +kernel
theorem dX10_closes_4 : decode cX10_closes 4 = .ok (.iconst 2, 1) := by decide +kernel
theorem dX10_closes_5 : decode cX10_closes 5 = .ok (.if_icmp .ne 7, 3) := by decide +kernel
theorem dX10_closes_8 : decode cX10_closes 8 = .ok (.iconst 1, 1) := by decide +kernel
theorem dX10_closes_9 : decode cX10_closes 9 = .ok (.goto 4, 3) := by decide +kernel
theorem dX10_closes_12 : decode cX10_closes 12 = .ok (.iconst 0, 1) := by decide +kernel
theorem dX10_closes_13 : decode cX10_closes 13 = .ok (.ireturn, 1) := by decide +kernel
theorem dX11_init_0 : decode cX11_init 0 = .ok (.aload_n 0, 1) := by decide +kernel
theorem dX11_init_1 : decode cX11_init 1 = .ok (.invokespecial 1, 3) := by decide +kernel
theorem dX11_init_4 : decode cX11_init 4 = .ok (.aload_n 0, 1) := by decide +kernel
theorem dX11_init_5 : decode cX11_init 5 = .ok (.new 7, 3) := by decide +kernel
theorem dX11_init_8 : decode cX11_init 8 = .ok (.dup, 1) := by decide +kernel
theorem dX11_init_9 : decode cX11_init 9 = .ok (.invokespecial 9, 3) := by decide +kernel
theorem dX11_init_12 : decode cX11_init 12 = .ok (.putfield 10, 3) := by decide +kernel
theorem dX11_init_15 : decode cX11_init 15 = .ok (.aload_n 0, 1) := by decide +kernel
theorem dX11_init_16 : decode cX11_init 16 = .ok (.new 16, 3) := by decide +kernel
theorem dX11_init_19 : decode cX11_init 19 = .ok (.dup, 1) := by decide +kernel
theorem dX11_init_20 : decode cX11_init 20 = .ok (.invokespecial 18, 3) := by decide +kernel
theorem dX11_init_23 : decode cX11_init 23 = .ok (.putfield 19, 3) := by decide +kernel
theorem dX11_init_26 : decode cX11_init 26 = .ok (.aload_n 0, 1) := by decide +kernel
theorem dX11_init_27 : decode cX11_init 27 = .ok (.new 23, 3) := by decide +kernel
theorem dX11_init_30 : decode cX11_init 30 = .ok (.dup, 1) := by decide +kernel
theorem dX11_init_31 : decode cX11_init 31 = .ok (.invokespecial 25, 3) := by decide +kernel
theorem dX11_init_34 : decode cX11_init 34 = .ok (.putfield 26, 3) := by decide +kernel
theorem dX11_init_37 : decode cX11_init 37 = .ok (.aload_n 0, 1) := by decide +kernel
theorem dX11_init_38 : decode cX11_init 38 = .ok (.new 30, 3) := by decide +kernel
theorem dX11_init_41 : decode cX11_init 41 = .ok (.dup, 1) := by decide +kernel
theorem dX11_init_42 : decode cX11_init 42 = .ok (.invokespecial 32, 3) := by decide +kernel
theorem dX11_init_45 : decode cX11_init 45 = .ok (.putfield 33, 3) := by decide +kernel
theorem dX11_init_48 : decode cX11_init 48 = .ok (.aload_n 0, 1) := by decide +kernel
theorem dX11_init_49 : decode cX11_init 49 = .ok (.iconst 4, 1) := by decide +kernel
theorem dX11_init_50 : decode cX11_init 50 = .ok (.iconst 0, 1) := by decide +kernel
theorem dX11_init_51 : decode cX11_init 51 = .ok (.multianewarray 37 2, 4) := by decide +kernel
theorem dX11_init_55 : decode cX11_init 55 = .ok (.putfield 39, 3) := by decide +kernel
theorem dX11_init_58 : decode cX11_init 58 = .ok (.aload_n 0, 1) := by decide +kernel
theorem dX11_init_59 : decode cX11_init 59 = .ok (.new 42, 3) := by decide +kernel
theorem dX11_init_62 : decode cX11_init 62 = .ok (.dup, 1) := by decide +kernel
theorem dX11_init_63 : decode cX11_init 63 = .ok (.invokespecial 44, 3) := by decide +kernel
theorem dX11_init_66 : decode cX11_init 66 = .ok (.putfield 45, 3) := by decide +kernel
theorem dX11_init_69 : decode cX11_init 69 = .ok (.aload_n 0, 1) := by decide +kernel
theorem dX11_init_70 : decode cX11_init 70 = .ok (.iconst 2, 1) := by decide +kernel
theorem dX11_init_71 : decode cX11_init 71 = .ok (.putfield 49, 3) := by decide +kernel
theorem dX11_init_74 : decode cX11_init 74 = .ok (.new 53, 3) := by decide +kernel
theorem dX11_init_77 : decode cX11_init 77 = .ok (.dup, 1) := by decide +kernel
theorem dX11_init_78 : decode cX11_init 78 = .ok (.invokespecial 55, 3) := by decide +kernel
theorem dX11_init_81 : decode cX11_init 81 = .ok (.astore_n 1, 1) := by decide +kernel
theorem dX11_init_82 : decode cX11_init 82 = .ok (.new 56, 3) := by decide +kernel
theorem dX11_init_85 : decode cX11_init 85 = .ok (.dup, 1) := by decide +kernel
theorem dX11_init_86 : decode cX11_init 86 = .ok (.invokespecial 58, 3) := by decide +kernel
theorem dX11_init_89 : decode cX11_init 89 = .ok (.astore_n 2, 1) := by decide +kernel
theorem dX11_init_90 : decode cX11_init 90 = .ok (.new 59, 3) := by decide +kernel
theorem dX11_init_93 : decode cX11_init 93 = .ok (.dup, 1) := by decide +kernel
theorem dX11_init_94 : decode cX11_init 94 = .ok (.aload_n 1, 1) := by decide +kernel
theorem dX11_init_95 : decode cX11_init 95 = .ok (.aload_n 2, 1) := by decide +kernel
theorem dX11_init_96 : decode cX11_init 96 = .ok (.invokespecial 61, 3) := by decide +kernel
theorem dX11_init_99 : decode cX11_init 99 = .ok (.astore_n 3, 1) := by decide +kernel
theorem dX11_init_100 : decode cX11_init 100 = .ok (.new 59, 3) := by decide +kernel
theorem dX11_init_103 : decode cX11_init 103 = .ok (.dup, 1) := by decide +kernel
theorem dX11_init_104 : decode cX11_init 104 = .ok (.aload_n 1, 1) := by decide +kernel
theorem dX11_init_105 : decode cX11_init 105 = .ok (.aload_n 2, 1) := by decide +kernel
theorem dX11_init_106 : decode cX11_init 106 = .ok (.invokespecial 61, 3) := by decide +kernel
theorem dX11_init_109 : decode cX11_init 109 = .ok (.astore 4, 2) := by decide +kernel
theorem dX11_init_111 : decode cX11_init 111 = .ok (.aload_n 0, 1) := by decide +kernel
theorem dX11_init_112 : decode cX11_init 112 = .ok (.aload_n 1, 1) := by decide +kernel
theorem dX11_init_113 : decode cX11_init 113 = .ok (.putfield 64, 3) := by decide +kernel
theorem dX11_init_116 : decode cX11_init 116 = .ok (.aload_n 0, 1) := by decide +kernel
theorem dX11_init_117 : decode cX11_init 117 = .ok (.aload_n 2, 1) := by decide +kernel
theorem dX11_init_118 : decode cX11_init 118 = .ok (.putfield 68, 3) := by decide +kernel
theorem dX11_init_121 : decode cX11_init 121 = .ok (.aload_n 0, 1) := by decide +kernel
theorem dX11_init_122 : decode cX11_init 122 = .ok (.aload_n 3, 1) := by decide +kernel
theorem dX11_init_123 : decode cX11_init 123 = .ok (.putfield 72, 3) := by decide +kernel
theorem dX11_init_126 : decode cX11_init 126 = .ok (.aload_n 0, 1) := by decide +kernel
theorem dX11_init_127 : decode cX11_init 127 = .ok (.aload 4, 2) := by decide +kernel
theorem dX11_init_129 : decode cX11_init 129 = .ok (.putfield 76, 3) := by decide +kernel
theorem dX11_init_132 : decode cX11_init 132 = .ok (.aload_n 0, 1) := by decide +kernel
theorem dX11_init_133 : decode cX11_init 133 = .ok (.new 79, 3) := by decide +kernel
theorem dX11_init_136 : decode cX11_init 136 = .ok (.dup, 1) := by decide +kernel
theorem dX11_init_137 : decode cX11_init 137 = .ok (.aload_n 1, 1) := by decide +kernel
theorem dX11_init_138 : decode cX11_init 138 = .ok (.aload_n 3, 1) := by decide +kernel
theorem dX11_init_139 : decode cX11_init 139 = .ok (.aload 4, 2) := by decide +kernel
theorem dX11_init_141 : decode cX11_init 141 = .ok (.invokespecial 81, 3) := by decide +kernel
theorem dX11_init_144 : decode cX11_init 144 = .ok (.putfield 84, 3) := by decide +kernel
theorem dX11_init_147 : decode cX11_init 147 = .ok (.aload_n 0, 1) := by decide +kernel
theorem dX11_init_148 : decode cX11_init 148 = .ok (.new 88, 3) := by decide +kernel
theorem dX11_init_151 : decode cX11_init 151 = .ok (.dup, 1) := by decide +kernel
theorem dX11_init_152 : decode cX11_init 152 = .ok (.aload_n 1, 1) := by decide +kernel
theorem dX11_init_153 : decode cX11_init 153 = .ok (.aload_n 3, 1) := by decide +kernel
theorem dX11_init_154 : decode cX11_init 154 = .ok (.invokespecial 90, 3) := by decide +kernel
theorem dX11_init_157 : decode cX11_init 157 = .ok (.putfield 93, 3) := by decide +kernel
theorem dX11_init_160 : decode cX11_init 160 = .ok (.return_, 1) := by decide +kernel
theorem dX11_feed_0 : decode cX11_feed 0 = .ok (.iload_n 1, 1) := by decide +kernel
theorem dX11_feed_1 : decode cX11_feed 1 = .ok (.invokestatic 97, 3) := by decide +kernel
theorem dX11_feed_4 : decode cX11_feed 4 = .ok (.iload_n 2, 1) := by decide +kernel
theorem dX11_feed_5 : decode cX11_feed 5 = .ok (.invokestatic 97, 3) := by decide +kernel
theorem dX11_feed_8 : decode cX11_feed 8 = .ok (.iadd, 1) := by decide +kernel
theorem dX11_feed_9 : decode cX11_feed 9 = .ok (.iload_n 3, 1) := by decide +kernel
theorem dX11_feed_10 : decode cX11_feed 10 = .ok (.invokestatic 97, 3) := by decide +kernel
theorem dX11_feed_13 : decode cX11_feed 13 = .ok (.iadd, 1) := by decide +kernel
theorem dX11_feed_14 : decode cX11_feed 14 = .ok (.iload 4, 2) := by decide +kernel
theorem dX11_feed_16 : decode cX11_feed 16 = .ok (.invokestatic 97, 3) := by decide +kernel
theorem dX11_feed_19 : decode cX11_feed 19 = .ok (.iadd, 1) := by decide +kernel
theorem dX11_feed_20 : decode cX11_feed 20 = .ok (.iload 5, 2) := by decide +kernel
theorem dX11_feed_22 : decode cX11_feed 22 = .ok (.invokestatic 97, 3) := by decide +kernel
theorem dX11_feed_25 : decode cX11_feed 25 = .ok (.iadd, 1) := by decide +kernel
theorem dX11_feed_26 : decode cX11_feed 26 = .ok (.istore 6, 2) := by decide +kernel
theorem dX11_feed_28 : decode cX11_feed 28 = .ok (.aload_n 0, 1) := by decide +kernel
theorem dX11_feed_29 : decode cX11_feed 29 = .ok (.getfield 10, 3) := by decide +kernel
theorem dX11_feed_32 : decode cX11_feed 32 = .ok (.getfield 101, 3) := by decide +kernel
theorem dX11_feed_35 : decode cX11_feed 35 = .ok (.iload 6, 2) := by decide +kernel
theorem dX11_feed_37 : decode cX11_feed 37 = .ok (.iadd, 1) := by decide +kernel
theorem dX11_feed_38 : decode cX11_feed 38 = .ok (.sipush 240, 3) := by decide +kernel
theorem dX11_feed_41 : decode cX11_feed 41 = .ok (.if_icmp .le 5, 3) := by decide +kernel
theorem dX11_feed_44 : decode cX11_feed 44 = .ok (.iconst (-1), 1) := by decide +kernel
theorem dX11_feed_45 : decode cX11_feed 45 = .ok (.ireturn, 1) := by decide +kernel
theorem dX11_feed_46 : decode cX11_feed 46 = .ok (.aload_n 0, 1) := by decide +kernel
theorem dX11_feed_47 : decode cX11_feed 47 = .ok (.getfield 10, 3) := by decide +kernel
theorem dX11_feed_50 : decode cX11_feed 50 = .ok (.iload_n 1, 1) := by decide +kernel
theorem dX11_feed_51 : decode cX11_feed 51 = .ok (.invokevirtual 104, 3) := by decide +kernel
theorem dX11_feed_54 : decode cX11_feed 54 = .ok (.aload_n 0, 1) := by decide +kernel
theorem dX11_feed_55 : decode cX11_feed 55 = .ok (.getfield 10, 3) := by decide +kernel
theorem dX11_feed_58 : decode cX11_feed 58 = .ok (.iload_n 2, 1) := by decide +kernel
theorem dX11_feed_59 : decode cX11_feed 59 = .ok (.invokevirtual 104, 3) := by decide +kernel
theorem dX11_feed_62 : decode cX11_feed 62 = .ok (.aload_n 0, 1) := by decide +kernel
theorem dX11_feed_63 : decode cX11_feed 63 = .ok (.getfield 10, 3) := by decide +kernel
theorem dX11_feed_66 : decode cX11_feed 66 = .ok (.iload_n 3, 1) := by decide +kernel
theorem dX11_feed_67 : decode cX11_feed 67 = .ok (.invokevirtual 104, 3) := by decide +kernel
theorem dX11_feed_70 : decode cX11_feed 70 = .ok (.aload_n 0, 1) := by decide +kernel
theorem dX11_feed_71 : decode cX11_feed 71 = .ok (.getfield 10, 3) := by decide +kernel
theorem dX11_feed_74 : decode cX11_feed 74 = .ok (.iload 4, 2) := by decide +kernel
theorem dX11_feed_76 : decode cX11_feed 76 = .ok (.invokevirtual 104, 3) := by decide +kernel
theorem dX11_feed_79 : decode cX11_feed 79 = .ok (.aload_n 0, 1) := by decide +kernel
theorem dX11_feed_80 : decode cX11_feed 80 = .ok (.getfield 10, 3) := by decide +kernel
theorem dX11_feed_83 : decode cX11_feed 83 = .ok (.iload 5, 2) := by decide +kernel
theorem dX11_feed_85 : decode cX11_feed 85 = .ok (.invokevirtual 104, 3) := by decide +kernel
theorem dX11_feed_88 : decode cX11_feed 88 = .ok (.aload_n 0, 1) := by decide +kernel
theorem dX11_feed_89 : decode cX11_feed 89 = .ok (.getfield 10, 3) := by decide +kernel
theorem dX11_feed_92 : decode cX11_feed 92 = .ok (.getfield 101, 3) := by decide +kernel
theorem dX11_feed_95 : decode cX11_feed 95 = .ok (.ireturn, 1) := by decide +kernel
theorem dX11_end_0 : decode cX11_end 0 = .ok (.iload_n 1, 1) := by decide +kernel
theorem dX11_end_1 : decode cX11_end 1 = .ok (.ifCond .lt 14, 3) := by decide +kernel
theorem dX11_end_4 : decode cX11_end 4 = .ok (.iload_n 1, 1) := by decide +kernel
theorem dX11_end_5 : decode cX11_end 5 = .ok (.aload_n 0, 1) := by decide +kernel
theorem dX11_end_6 : decode cX11_end 6 = .ok (.getfield 10, 3) := by decide +kernel
theorem dX11_end_9 : decode cX11_end 9 = .ok (.getfield 101, 3) := by decide +kernel
theorem dX11_end_12 : decode cX11_end 12 = .ok (.if_icmp .le 5, 3) := by decide +kernel
theorem dX11_end_15 : decode cX11_end 15 = .ok (.iconst 0, 1) := by decide +kernel
theorem dX11_end_16 : decode cX11_end 16 = .ok (.ireturn, 1) := by decide +kernel
theorem dX11_end_17 : decode cX11_end 17 = .ok (.aload_n 0, 1) := by decide +kernel
theorem dX11_end_18 : decode cX11_end 18 = .ok (.getfield 10, 3) := by decide +kernel
theorem dX11_end_21 : decode cX11_end 21 = .ok (.iload_n 1, 1) := by decide +kernel
theorem dX11_end_22 : decode cX11_end 22 = .ok (.putfield 101, 3) := by decide +kernel
theorem dX11_end_25 : decode cX11_end 25 = .ok (.iconst 1, 1) := by decide +kernel
theorem dX11_end_26 : decode cX11_end 26 = .ok (.ireturn, 1) := by decide +kernel
theorem dX11_fault_0 : decode cX11_fault 0 = .ok (.aload_n 0, 1) := by decide +kernel
theorem dX11_fault_1 : decode cX11_fault 1 = .ok (.iload_n 1, 1) := by decide +kernel
theorem dX11_fault_2 : decode cX11_fault 2 = .ok (.invokevirtual 108, 3) := by decide +kernel
theorem dX11_fault_5 : decode cX11_fault 5 = .ok (.astore_n 2, 1) := by decide +kernel
theorem dX11_fault_6 : decode cX11_fault 6 = .ok (.aload_n 2, 1) := by decide +kernel
theorem dX11_fault_7 : decode cX11_fault 7 = .ok (.ifnonnull 8, 3) := by decide +kernel
theorem dX11_fault_10 : decode cX11_fault 10 = .ok (.bipush (-2), 2) := by decide +kernel
theorem dX11_fault_12 : decode cX11_fault 12 = .ok (.goto 11, 3) := by decide +kernel
theorem dX11_fault_15 : decode cX11_fault 15 = .ok (.aload_n 2, 1) := by decide +kernel
theorem dX11_fault_16 : decode cX11_fault 16 = .ok (.aload_n 0, 1) := by decide +kernel
theorem dX11_fault_17 : decode cX11_fault 17 = .ok (.getfield 10, 3) := by decide +kernel
theorem dX11_fault_20 : decode cX11_fault 20 = .ok (.invokevirtual 112, 3) := by decide +kernel
theorem dX11_fault_23 : decode cX11_fault 23 = .ok (.ireturn, 1) := by decide +kernel
theorem dX11_text_0 : decode cX11_text 0 = .ok (.aload_n 0, 1) := by decide +kernel
theorem dX11_text_1 : decode cX11_text 1 = .ok (.iload_n 1, 1) := by decide +kernel
theorem dX11_text_2 : decode cX11_text 2 = .ok (.invokevirtual 108, 3) := by decide +kernel
theorem dX11_text_5 : decode cX11_text 5 = .ok (.astore_n 2, 1) := by decide +kernel
theorem dX11_text_6 : decode cX11_text 6 = .ok (.aload_n 2, 1) := by decide +kernel
theorem dX11_text_7 : decode cX11_text 7 = .ok (.ifnull 15, 3) := by decide +kernel
theorem dX11_text_10 : decode cX11_text 10 = .ok (.aload_n 2, 1) := by decide +kernel
theorem dX11_text_11 : decode cX11_text 11 = .ok (.aload_n 0, 1) := by decide +kernel
theorem dX11_text_12 : decode cX11_text 12 = .ok (.getfield 10, 3) := by decide +kernel
theorem dX11_text_15 : decode cX11_text 15 = .ok (.invokevirtual 112, 3) := by decide +kernel
theorem dX11_text_18 : decode cX11_text 18 = .ok (.iconst (-1), 1) := by decide +kernel
theorem dX11_text_19 : decode cX11_text 19 = .ok (.if_icmp .eq 5, 3) := by decide +kernel
theorem dX11_text_22 : decode cX11_text 22 = .ok (.iconst (-1), 1) := by decide +kernel
theorem dX11_text_23 : decode cX11_text 23 = .ok (.ireturn, 1) := by decide +kernel
theorem dX11_text_24 : decode cX11_text 24 = .ok (.iload_n 1, 1) := by decide +kernel
theorem dX11_text_25 : decode cX11_text 25 = .ok (.ifCond .ne 11, 3) := by decide +kernel
theorem dX11_text_28 : decode cX11_text 28 = .ok (.aload_n 0, 1) := by decide +kernel
theorem dX11_text_29 : decode cX11_text 29 = .ok (.invokevirtual 118, 3) := by decide +kernel
theorem dX11_text_32 : decode cX11_text 32 = .ok (.istore_n 3, 1) := by decide +kernel
theorem dX11_text_33 : decode cX11_text 33 = .ok (.goto 28, 3) := by decide +kernel
theorem dX11_text_36 : decode cX11_text 36 = .ok (.iload_n 1, 1) := by decide +kernel
theorem dX11_text_37 : decode cX11_text 37 = .ok (.iconst 1, 1) := by decide +kernel
theorem dX11_text_38 : decode cX11_text 38 = .ok (.if_icmp .ne 18, 3) := by decide +kernel
theorem dX11_text_41 : decode cX11_text 41 = .ok (.aload_n 0, 1) := by decide +kernel
theorem dX11_text_42 : decode cX11_text 42 = .ok (.getfield 68, 3) := by decide +kernel
theorem dX11_text_45 : decode cX11_text 45 = .ok (.aload_n 0, 1) := by decide +kernel
theorem dX11_text_46 : decode cX11_text 46 = .ok (.getfield 26, 3) := by decide +kernel
theorem dX11_text_49 : decode cX11_text 49 = .ok (.invokevirtual 122, 3) := by decide +kernel
theorem dX11_text_52 : decode cX11_text 52 = .ok (.istore_n 3, 1) := by decide +kernel
theorem dX11_text_53 : decode cX11_text 53 = .ok (.goto 8, 3) := by decide +kernel
theorem dX11_text_56 : decode cX11_text 56 = .ok (.aload_n 0, 1) := by decide +kernel
theorem dX11_text_57 : decode cX11_text 57 = .ok (.invokevirtual 125, 3) := by decide +kernel
theorem dX11_text_60 : decode cX11_text 60 = .ok (.istore_n 3, 1) := by decide +kernel
theorem dX11_text_61 : decode cX11_text 61 = .ok (.iload_n 3, 1) := by decide +kernel
theorem dX11_text_62 : decode cX11_text 62 = .ok (.iconst (-1), 1) := by decide +kernel
theorem dX11_text_63 : decode cX11_text 63 = .ok (.if_icmp .eq 11, 3) := by decide +kernel
theorem dX11_text_66 : decode cX11_text 66 = .ok (.aload_n 0, 1) := by decide +kernel
theorem dX11_text_67 : decode cX11_text 67 = .ok (.getfield 10, 3) := by decide +kernel
theorem dX11_text_70 : decode cX11_text 70 = .ok (.iconst 0, 1) := by decide +kernel
theorem dX11_text_71 : decode cX11_text 71 = .ok (.putfield 101, 3) := by decide +kernel
theorem dX11_text_74 : decode cX11_text 74 = .ok (.iload_n 3, 1) := by decide +kernel
theorem dX11_text_75 : decode cX11_text 75 = .ok (.ireturn, 1) := by decide +kernel
theorem dX11_readerOf_0 : decode cX11_readerOf 0 = .ok (.iload_n 1, 1) := by decide +kernel
theorem dX11_readerOf_1 : decode cX11_readerOf 1 = .ok (.ifCond .ne 8, 3) := by decide +kernel
theorem dX11_readerOf_4 : decode cX11_readerOf 4 = .ok (.aload_n 0, 1) := by decide +kernel
theorem dX11_readerOf_5 : decode cX11_readerOf 5 = .ok (.getfield 19, 3) := by decide +kernel
theorem dX11_readerOf_8 : decode cX11_readerOf 8 = .ok (.areturn, 1) := by decide +kernel
theorem dX11_readerOf_9 : decode cX11_readerOf 9 = .ok (.iload_n 1, 1) := by decide +kernel
theorem dX11_readerOf_10 : decode cX11_readerOf 10 = .ok (.iconst 1, 1) := by decide +kernel
theorem dX11_readerOf_11 : decode cX11_readerOf 11 = .ok (.if_icmp .ne 8, 3) := by decide +kernel
theorem dX11_readerOf_14 : decode cX11_readerOf 14 = .ok (.aload_n 0, 1) := by decide +kernel
theorem dX11_readerOf_15 : decode cX11_readerOf 15 = .ok (.getfield 26, 3) := by decide +kernel
theorem dX11_readerOf_18 : decode cX11_readerOf 18 = .ok (.areturn, 1) := by decide +kernel
theorem dX11_readerOf_19 : decode cX11_readerOf 19 = .ok (.iload_n 1, 1) := by decide +kernel
theorem dX11_readerOf_20 : decode cX11_readerOf 20 = .ok (.iconst 2, 1) := by decide +kernel
theorem dX11_readerOf_21 : decode cX11_readerOf 21 = .ok (.if_icmp .ne 10, 3) := by decide +kernel
theorem dX11_readerOf_24 : decode cX11_readerOf 24 = .ok (.aload_n 0, 1) := by decide +kernel
theorem dX11_readerOf_25 : decode cX11_readerOf 25 = .ok (.getfield 33, 3) := by decide +kernel
theorem dX11_readerOf_28 : decode cX11_readerOf 28 = .ok (.goto 4, 3) := by decide +kernel
theorem dX11_readerOf_31 : decode cX11_readerOf 31 = .ok (.aconst_null, 1) := by decide +kernel
theorem dX11_readerOf_32 : decode cX11_readerOf 32 = .ok (.areturn, 1) := by decide +kernel
theorem dX11_settleHouse_0 : decode cX11_settleHouse 0 = .ok (.aload_n 0, 1) := by decide +kernel
theorem dX11_settleHouse_1 : decode cX11_settleHouse 1 = .ok (.getfield 64, 3) := by decide +kernel
theorem dX11_settleHouse_4 : decode cX11_settleHouse 4 = .ok (.aload_n 0, 1) := by decide +kernel
theorem dX11_settleHouse_5 : decode cX11_settleHouse 5 = .ok (.getfield 19, 3) := by decide +kernel
theorem dX11_settleHouse_8 : decode cX11_settleHouse 8 = .ok (.invokevirtual 128, 3) := by decide +kernel
theorem dX11_settleHouse_11 : decode cX11_settleHouse 11 = .ok (.aload_n 0, 1) := by decide +kernel
theorem dX11_settleHouse_12 : decode cX11_settleHouse 12 = .ok (.getfield 72, 3) := by decide +kernel
theorem dX11_settleHouse_15 : decode cX11_settleHouse 15 = .ok (.aload_n 0, 1) := by decide +kernel
theorem dX11_settleHouse_16 : decode cX11_settleHouse 16 = .ok (.getfield 19, 3) := by decide +kernel
theorem dX11_settleHouse_19 : decode cX11_settleHouse 19 = .ok (.invokevirtual 132, 3) := by decide +kernel
theorem dX11_settleHouse_22 : decode cX11_settleHouse 22 = .ok (.aload_n 0, 1) := by decide +kernel
theorem dX11_settleHouse_23 : decode cX11_settleHouse 23 = .ok (.getfield 45, 3) := by decide +kernel
theorem dX11_settleHouse_26 : decode cX11_settleHouse 26 = .ok (.invokevirtual 133, 3) := by decide +kernel
theorem dX11_settleHouse_29 : decode cX11_settleHouse 29 = .ok (.aload_n 0, 1) := by decide +kernel
theorem dX11_settleHouse_30 : decode cX11_settleHouse 30 = .ok (.getfield 93, 3) := by decide +kernel
theorem dX11_settleHouse_33 : decode cX11_settleHouse 33 = .ok (.iconst 0, 1) := by decide +kernel
theorem dX11_settleHouse_34 : decode cX11_settleHouse 34 = .ok (.putfield 136, 3) := by decide +kernel
theorem dX11_settleHouse_37 : decode cX11_settleHouse 37 = .ok (.aload_n 0, 1) := by decide +kernel
theorem dX11_settleHouse_38 : decode cX11_settleHouse 38 = .ok (.getfield 64, 3) := by decide +kernel
theorem dX11_settleHouse_41 : decode cX11_settleHouse 41 = .ok (.getfield 137, 3) := by decide +kernel
theorem dX11_settleHouse_44 : decode cX11_settleHouse 44 = .ok (.ireturn, 1) := by decide +kernel
theorem dX11_addWinter_0 : decode cX11_addWinter 0 = .ok (.aload_n 0, 1) := by decide +kernel
theorem dX11_addWinter_1 : decode cX11_addWinter 1 = .ok (.getfield 140, 3) := by decide +kernel
theorem dX11_addWinter_4 : decode cX11_addWinter 4 = .ok (.iconst 4, 1) := by decide +kernel
theorem dX11_addWinter_5 : decode cX11_addWinter 5 = .ok (.if_icmp .lt 5, 3) := by decide +kernel
theorem dX11_addWinter_8 : decode cX11_addWinter 8 = .ok (.iconst (-1), 1) := by decide +kernel
theorem dX11_addWinter_9 : decode cX11_addWinter 9 = .ok (.ireturn, 1) := by decide +kernel
theorem dX11_addWinter_10 : decode cX11_addWinter 10 = .ok (.aload_n 0, 1) := by decide +kernel
theorem dX11_addWinter_11 : decode cX11_addWinter 11 = .ok (.getfield 39, 3) := by decide +kernel
theorem dX11_addWinter_14 : decode cX11_addWinter 14 = .ok (.aload_n 0, 1) := by decide +kernel
theorem dX11_addWinter_15 : decode cX11_addWinter 15 = .ok (.getfield 140, 3) := by decide +kernel
theorem dX11_addWinter_18 : decode cX11_addWinter 18 = .ok (.aload_n 0, 1) := by decide +kernel
theorem dX11_addWinter_19 : decode cX11_addWinter 19 = .ok (.getfield 33, 3) := by decide +kernel
theorem dX11_addWinter_22 : decode cX11_addWinter 22 = .ok (.invokevirtual 143, 3) := by decide +kernel
theorem dX11_addWinter_25 : decode cX11_addWinter 25 = .ok (.aastore, 1) := by decide +kernel
theorem dX11_addWinter_26 : decode cX11_addWinter 26 = .ok (.aload_n 0, 1) := by decide +kernel
theorem dX11_addWinter_27 : decode cX11_addWinter 27 = .ok (.dup, 1) := by decide +kernel
theorem dX11_addWinter_28 : decode cX11_addWinter 28 = .ok (.getfield 140, 3) := by decide +kernel
theorem dX11_addWinter_31 : decode cX11_addWinter 31 = .ok (.iconst 1, 1) := by decide +kernel
theorem dX11_addWinter_32 : decode cX11_addWinter 32 = .ok (.iadd, 1) := by decide +kernel
theorem dX11_addWinter_33 : decode cX11_addWinter 33 = .ok (.putfield 140, 3) := by decide +kernel
theorem dX11_addWinter_36 : decode cX11_addWinter 36 = .ok (.aload_n 0, 1) := by decide +kernel
theorem dX11_addWinter_37 : decode cX11_addWinter 37 = .ok (.getfield 140, 3) := by decide +kernel
theorem dX11_addWinter_40 : decode cX11_addWinter 40 = .ok (.iconst 1, 1) := by decide +kernel
theorem dX11_addWinter_41 : decode cX11_addWinter 41 = .ok (.isub, 1) := by decide +kernel
theorem dX11_addWinter_42 : decode cX11_addWinter 42 = .ok (.ireturn, 1) := by decide +kernel
theorem dX11_rule_0 : decode cX11_rule 0 = .ok (.aload_n 0, 1) := by decide +kernel
theorem dX11_rule_1 : decode cX11_rule 1 = .ok (.getfield 64, 3) := by decide +kernel
theorem dX11_rule_4 : decode cX11_rule 4 = .ok (.invokevirtual 147, 3) := by decide +kernel
theorem dX11_rule_7 : decode cX11_rule 7 = .ok (.ifCond .ne 5, 3) := by decide +kernel
theorem dX11_rule_10 : decode cX11_rule 10 = .ok (.iconst (-1), 1) := by decide +kernel
theorem dX11_rule_11 : decode cX11_rule 11 = .ok (.ireturn, 1) := by decide +kernel
theorem dX11_rule_12 : decode cX11_rule 12 = .ok (.iload_n 1, 1) := by decide +kernel
theorem dX11_rule_13 : decode cX11_rule 13 = .ok (.tableswitch 51 0 2 #[27, 35, 43], 27) := by decide +kernel
theorem dX11_rule_40 : decode cX11_rule 40 = .ok (.aload_n 0, 1) := by decide +kernel
theorem dX11_rule_41 : decode cX11_rule 41 = .ok (.getfield 72, 3) := by decide +kernel
theorem dX11_rule_44 : decode cX11_rule 44 = .ok (.invokevirtual 151, 3) := by decide +kernel
theorem dX11_rule_47 : decode cX11_rule 47 = .ok (.ireturn, 1) := by decide +kernel
theorem dX11_rule_48 : decode cX11_rule 48 = .ok (.aload_n 0, 1) := by decide +kernel
theorem dX11_rule_49 : decode cX11_rule 49 = .ok (.getfield 64, 3) := by decide +kernel
theorem dX11_rule_52 : decode cX11_rule 52 = .ok (.getfield 154, 3) := by decide +kernel
theorem dX11_rule_55 : decode cX11_rule 55 = .ok (.ireturn, 1) := by decide +kernel
theorem dX11_rule_56 : decode cX11_rule 56 = .ok (.aload_n 0, 1) := by decide +kernel
theorem dX11_rule_57 : decode cX11_rule 57 = .ok (.getfield 64, 3) := by decide +kernel
theorem dX11_rule_60 : decode cX11_rule 60 = .ok (.getfield 157, 3) := by decide +kernel
theorem dX11_rule_63 : decode cX11_rule 63 = .ok (.ireturn, 1) := by decide +kernel
theorem dX11_rule_64 : decode cX11_rule 64 = .ok (.iconst (-1), 1) := by decide +kernel
theorem dX11_rule_65 : decode cX11_rule 65 = .ok (.ireturn, 1) := by decide +kernel
theorem dX11_drink_0 : decode cX11_drink 0 = .ok (.aload_n 0, 1) := by decide +kernel
theorem dX11_drink_1 : decode cX11_drink 1 = .ok (.getfield 64, 3) := by decide +kernel
theorem dX11_drink_4 : decode cX11_drink 4 = .ok (.iload_n 1, 1) := by decide +kernel
theorem dX11_drink_5 : decode cX11_drink 5 = .ok (.invokevirtual 160, 3) := by decide +kernel
theorem dX11_drink_8 : decode cX11_drink 8 = .ok (.ifCond .ne 5, 3) := by decide +kernel
theorem dX11_drink_11 : decode cX11_drink 11 = .ok (.iconst (-1), 1) := by decide +kernel
theorem dX11_drink_12 : decode cX11_drink 12 = .ok (.ireturn, 1) := by decide +kernel
theorem dX11_drink_13 : decode cX11_drink 13 = .ok (.iload_n 2, 1) := by decide +kernel
theorem dX11_drink_14 : decode cX11_drink 14 = .ok (.ifCond .ne 13, 3) := by decide +kernel
theorem dX11_drink_17 : decode cX11_drink 17 = .ok (.aload_n 0, 1) := by decide +kernel
theorem dX11_drink_18 : decode cX11_drink 18 = .ok (.getfield 64, 3) := by decide +kernel
theorem dX11_drink_21 : decode cX11_drink 21 = .ok (.getfield 164, 3) := by decide +kernel
theorem dX11_drink_24 : decode cX11_drink 24 = .ok (.iload_n 1, 1) := by decide +kernel
theorem dX11_drink_25 : decode cX11_drink 25 = .ok (.iaload, 1) := by decide +kernel
theorem dX11_drink_26 : decode cX11_drink 26 = .ok (.ireturn, 1) := by decide +kernel
theorem dX11_drink_27 : decode cX11_drink 27 = .ok (.iload_n 2, 1) := by decide +kernel
theorem dX11_drink_28 : decode cX11_drink 28 = .ok (.iconst 1, 1) := by decide +kernel
theorem dX11_drink_29 : decode cX11_drink 29 = .ok (.if_icmp .ne 14, 3) := by decide +kernel
theorem dX11_drink_32 : decode cX11_drink 32 = .ok (.aload_n 0, 1) := by decide +kernel
theorem dX11_drink_33 : decode cX11_drink 33 = .ok (.getfield 72, 3) := by decide +kernel
theorem dX11_drink_36 : decode cX11_drink 36 = .ok (.iload_n 1, 1) := by decide +kernel
theorem dX11_drink_37 : decode cX11_drink 37 = .ok (.invokevirtual 168, 3) := by decide +kernel
theorem dX11_drink_40 : decode cX11_drink 40 = .ok (.goto 4, 3) := by decide +kernel
theorem dX11_drink_43 : decode cX11_drink 43 = .ok (.iconst (-1), 1) := by decide +kernel
theorem dX11_drink_44 : decode cX11_drink 44 = .ok (.ireturn, 1) := by decide +kernel
theorem dX11_guest_0 : decode cX11_guest 0 = .ok (.aload_n 0, 1) := by decide +kernel
theorem dX11_guest_1 : decode cX11_guest 1 = .ok (.getfield 64, 3) := by decide +kernel
theorem dX11_guest_4 : decode cX11_guest 4 = .ok (.iload_n 1, 1) := by decide +kernel
theorem dX11_guest_5 : decode cX11_guest 5 = .ok (.invokevirtual 171, 3) := by decide +kernel
theorem dX11_guest_8 : decode cX11_guest 8 = .ok (.ifCond .eq 12, 3) := by decide +kernel
theorem dX11_guest_11 : decode cX11_guest 11 = .ok (.iload_n 2, 1) := by decide +kernel
theorem dX11_guest_12 : decode cX11_guest 12 = .ok (.ifCond .lt 8, 3) := by decide +kernel
theorem dX11_guest_15 : decode cX11_guest 15 = .ok (.iload_n 2, 1) := by decide +kernel
theorem dX11_guest_16 : decode cX11_guest 16 = .ok (.iconst 3, 1) := by decide +kernel
theorem dX11_guest_17 : decode cX11_guest 17 = .ok (.if_icmp .le 13, 3) := by decide +kernel
theorem dX11_guest_20 : decode cX11_guest 20 = .ok (.new 174, 3) := by decide +kernel
theorem dX11_guest_23 : decode cX11_guest 23 = .ok (.dup, 1) := by decide +kernel
theorem dX11_guest_24 : decode cX11_guest 24 = .ok (.ldc 176, 2) := by decide +kernel
theorem dX11_guest_26 : decode cX11_guest 26 = .ok (.invokespecial 178, 3) := by decide +kernel
theorem dX11_guest_29 : decode cX11_guest 29 = .ok (.athrow, 1) := by decide +kernel
theorem dX11_guest_30 : decode cX11_guest 30 = .ok (.iload_n 2, 1) := by decide +kernel
theorem dX11_guest_31 : decode cX11_guest 31 = .ok (.tableswitch 53 0 2 #[25, 35, 44], 25) := by decide +kernel
theorem dX11_guest_56 : decode cX11_guest 56 = .ok (.aload_n 0, 1) := by decide +kernel
theorem dX11_guest_57 : decode cX11_guest 57 = .ok (.getfield 64, 3) := by decide +kernel
theorem dX11_guest_60 : decode cX11_guest 60 = .ok (.getfield 181, 3) := by decide +kernel
theorem dX11_guest_63 : decode cX11_guest 63 = .ok (.iload_n 1, 1) := by decide +kernel
theorem dX11_guest_64 : decode cX11_guest 64 = .ok (.iaload, 1) := by decide +kernel
theorem dX11_guest_65 : decode cX11_guest 65 = .ok (.ireturn, 1) := by decide +kernel
theorem dX11_guest_66 : decode cX11_guest 66 = .ok (.aload_n 0, 1) := by decide +kernel
theorem dX11_guest_67 : decode cX11_guest 67 = .ok (.getfield 72, 3) := by decide +kernel
theorem dX11_guest_70 : decode cX11_guest 70 = .ok (.iload_n 1, 1) := by decide +kernel
theorem dX11_guest_71 : decode cX11_guest 71 = .ok (.invokevirtual 184, 3) := by decide +kernel
theorem dX11_guest_74 : decode cX11_guest 74 = .ok (.ireturn, 1) := by decide +kernel
theorem dX11_guest_75 : decode cX11_guest 75 = .ok (.aload_n 0, 1) := by decide +kernel
theorem dX11_guest_76 : decode cX11_guest 76 = .ok (.getfield 72, 3) := by decide +kernel
theorem dX11_guest_79 : decode cX11_guest 79 = .ok (.iload_n 1, 1) := by decide +kernel
theorem dX11_guest_80 : decode cX11_guest 80 = .ok (.invokevirtual 187, 3) := by decide +kernel
theorem dX11_guest_83 : decode cX11_guest 83 = .ok (.ireturn, 1) := by decide +kernel
theorem dX11_guest_84 : decode cX11_guest 84 = .ok (.aload_n 0, 1) := by decide +kernel
theorem dX11_guest_85 : decode cX11_guest 85 = .ok (.getfield 72, 3) := by decide +kernel
theorem dX11_guest_88 : decode cX11_guest 88 = .ok (.iload_n 1, 1) := by decide +kernel
theorem dX11_guest_89 : decode cX11_guest 89 = .ok (.invokevirtual 190, 3) := by decide +kernel
theorem dX11_guest_92 : decode cX11_guest 92 = .ok (.ireturn, 1) := by decide +kernel
theorem dX11_law_0 : decode cX11_law 0 = .ok (.iload_n 1, 1) := by decide +kernel
theorem dX11_law_1 : decode cX11_law 1 = .ok (.iconst (-1), 1) := by decide +kernel
theorem dX11_law_2 : decode cX11_law 2 = .ok (.if_icmp .lt 14, 3) := by decide +kernel
theorem dX11_law_5 : decode cX11_law 5 = .ok (.iload_n 1, 1) := by decide +kernel
theorem dX11_law_6 : decode cX11_law 6 = .ok (.aload_n 0, 1) := by decide +kernel
theorem dX11_law_7 : decode cX11_law 7 = .ok (.getfield 68, 3) := by decide +kernel
theorem dX11_law_10 : decode cX11_law 10 = .ok (.getfield 193, 3) := by decide +kernel
theorem dX11_law_13 : decode cX11_law 13 = .ok (.if_icmp .lt 5, 3) := by decide +kernel
theorem dX11_law_16 : decode cX11_law 16 = .ok (.iconst 0, 1) := by decide +kernel
theorem dX11_law_17 : decode cX11_law 17 = .ok (.ireturn, 1) := by decide +kernel
theorem dX11_law_18 : decode cX11_law 18 = .ok (.aload_n 0, 1) := by decide +kernel
theorem dX11_law_19 : decode cX11_law 19 = .ok (.getfield 68, 3) := by decide +kernel
theorem dX11_law_22 : decode cX11_law 22 = .ok (.iload_n 1, 1) := by decide +kernel
theorem dX11_law_23 : decode cX11_law 23 = .ok (.putfield 196, 3) := by decide +kernel
theorem dX11_law_26 : decode cX11_law 26 = .ok (.iconst 1, 1) := by decide +kernel
theorem dX11_law_27 : decode cX11_law 27 = .ok (.ireturn, 1) := by decide +kernel
theorem dX11_snow_0 : decode cX11_snow 0 = .ok (.iload_n 1, 1) := by decide +kernel
theorem dX11_snow_1 : decode cX11_snow 1 = .ok (.ifCond .lt 17, 3) := by decide +kernel
theorem dX11_snow_4 : decode cX11_snow 4 = .ok (.iload_n 1, 1) := by decide +kernel
theorem dX11_snow_5 : decode cX11_snow 5 = .ok (.bipush 9, 2) := by decide +kernel
theorem dX11_snow_7 : decode cX11_snow 7 = .ok (.if_icmp .gt 11, 3) := by decide +kernel
theorem dX11_snow_10 : decode cX11_snow 10 = .ok (.iload_n 1, 1) := by decide +kernel
theorem dX11_snow_11 : decode cX11_snow 11 = .ok (.aload_n 0, 1) := by decide +kernel
theorem dX11_snow_12 : decode cX11_snow 12 = .ok (.getfield 49, 3) := by decide +kernel
theorem dX11_snow_15 : decode cX11_snow 15 = .ok (.if_icmp .ne 5, 3) := by decide +kernel
theorem dX11_snow_18 : decode cX11_snow 18 = .ok (.iconst 0, 1) := by decide +kernel
theorem dX11_snow_19 : decode cX11_snow 19 = .ok (.ireturn, 1) := by decide +kernel
theorem dX11_snow_20 : decode cX11_snow 20 = .ok (.aload_n 0, 1) := by decide +kernel
theorem dX11_snow_21 : decode cX11_snow 21 = .ok (.iload_n 1, 1) := by decide +kernel
theorem dX11_snow_22 : decode cX11_snow 22 = .ok (.putfield 49, 3) := by decide +kernel
theorem dX11_snow_25 : decode cX11_snow 25 = .ok (.iconst 1, 1) := by decide +kernel
theorem dX11_snow_26 : decode cX11_snow 26 = .ok (.ireturn, 1) := by decide +kernel
theorem dX11_visit_0 : decode cX11_visit 0 = .ok (.aload_n 0, 1) := by decide +kernel
theorem dX11_visit_1 : decode cX11_visit 1 = .ok (.iconst 0, 1) := by decide +kernel
theorem dX11_visit_2 : decode cX11_visit 2 = .ok (.iload_n 1, 1) := by decide +kernel
theorem dX11_visit_3 : decode cX11_visit 3 = .ok (.invokevirtual 199, 3) := by decide +kernel
theorem dX11_visit_6 : decode cX11_visit 6 = .ok (.ifCond .eq 13, 3) := by decide +kernel
theorem dX11_visit_9 : decode cX11_visit 9 = .ok (.aload_n 0, 1) := by decide +kernel
theorem dX11_visit_10 : decode cX11_visit 10 = .ok (.getfield 72, 3) := by decide +kernel
theorem dX11_visit_13 : decode cX11_visit 13 = .ok (.invokevirtual 151, 3) := by decide +kernel
theorem dX11_visit_16 : decode cX11_visit 16 = .ok (.goto 4, 3) := by decide +kernel
theorem dX11_visit_19 : decode cX11_visit 19 = .ok (.iconst (-1), 1) := by decide +kernel
theorem dX11_visit_20 : decode cX11_visit 20 = .ok (.ireturn, 1) := by decide +kernel
theorem dX11_month_0 : decode cX11_month 0 = .ok (.aload_n 0, 1) := by decide +kernel
theorem dX11_month_1 : decode cX11_month 1 = .ok (.iconst 1, 1) := by decide +kernel
theorem dX11_month_2 : decode cX11_month 2 = .ok (.iconst 0, 1) := by decide +kernel
theorem dX11_month_3 : decode cX11_month 3 = .ok (.invokevirtual 199, 3) := by decide +kernel
theorem dX11_month_6 : decode cX11_month 6 = .ok (.ifCond .eq 13, 3) := by decide +kernel
theorem dX11_month_9 : decode cX11_month 9 = .ok (.aload_n 0, 1) := by decide +kernel
theorem dX11_month_10 : decode cX11_month 10 = .ok (.getfield 72, 3) := by decide +kernel
theorem dX11_month_13 : decode cX11_month 13 = .ok (.invokevirtual 203, 3) := by decide +kernel
theorem dX11_month_16 : decode cX11_month 16 = .ok (.goto 4, 3) := by decide +kernel
theorem dX11_month_19 : decode cX11_month 19 = .ok (.iconst (-1), 1) := by decide +kernel
theorem dX11_month_20 : decode cX11_month 20 = .ok (.ireturn, 1) := by decide +kernel
theorem dX11_host_0 : decode cX11_host 0 = .ok (.aload_n 0, 1) := by decide +kernel
theorem dX11_host_1 : decode cX11_host 1 = .ok (.iconst 2, 1) := by decide +kernel
theorem dX11_host_2 : decode cX11_host 2 = .ok (.iload_n 1, 1) := by decide +kernel
theorem dX11_host_3 : decode cX11_host 3 = .ok (.invokevirtual 199, 3) := by decide +kernel
theorem dX11_host_6 : decode cX11_host 6 = .ok (.ireturn, 1) := by decide +kernel
theorem dX11_pay_0 : decode cX11_pay 0 = .ok (.aload_n 0, 1) := by decide +kernel
theorem dX11_pay_1 : decode cX11_pay 1 = .ok (.getfield 64, 3) := by decide +kernel
theorem dX11_pay_4 : decode cX11_pay 4 = .ok (.iload_n 1, 1) := by decide +kernel
theorem dX11_pay_5 : decode cX11_pay 5 = .ok (.invokevirtual 171, 3) := by decide +kernel
theorem dX11_pay_8 : decode cX11_pay 8 = .ok (.ifCond .eq 29, 3) := by decide +kernel
theorem dX11_pay_11 : decode cX11_pay 11 = .ok (.iload_n 2, 1) := by decide +kernel
theorem dX11_pay_12 : decode cX11_pay 12 = .ok (.iconst 1, 1) := by decide +kernel
theorem dX11_pay_13 : decode cX11_pay 13 = .ok (.if_icmp .lt 24, 3) := by decide +kernel
theorem dX11_pay_16 : decode cX11_pay 16 = .ok (.iload_n 2, 1) := by decide +kernel
theorem dX11_pay_17 : decode cX11_pay 17 = .ok (.bipush 50, 2) := by decide +kernel
theorem dX11_pay_19 : decode cX11_pay 19 = .ok (.if_icmp .gt 18, 3) := by decide +kernel
theorem dX11_pay_22 : decode cX11_pay 22 = .ok (.aload_n 0, 1) := by decide +kernel
theorem dX11_pay_23 : decode cX11_pay 23 = .ok (.getfield 72, 3) := by decide +kernel
theorem dX11_pay_26 : decode cX11_pay 26 = .ok (.iload_n 1, 1) := by decide +kernel
theorem dX11_pay_27 : decode cX11_pay 27 = .ok (.invokevirtual 184, 3) := by decide +kernel
theorem dX11_pay_30 : decode cX11_pay 30 = .ok (.iload_n 2, 1) := by decide +kernel
theorem dX11_pay_31 : decode cX11_pay 31 = .ok (.iadd, 1) := by decide +kernel
theorem dX11_pay_32 : decode cX11_pay 32 = .ok (.bipush 99, 2) := by decide +kernel
theorem dX11_pay_34 : decode cX11_pay 34 = .ok (.if_icmp .le 5, 3) := by decide +kernel
theorem dX11_pay_37 : decode cX11_pay 37 = .ok (.iconst (-1), 1) := by decide +kernel
theorem dX11_pay_38 : decode cX11_pay 38 = .ok (.ireturn, 1) := by decide +kernel
theorem dX11_pay_39 : decode cX11_pay 39 = .ok (.aload_n 0, 1) := by decide +kernel
theorem dX11_pay_40 : decode cX11_pay 40 = .ok (.getfield 45, 3) := by decide +kernel
theorem dX11_pay_43 : decode cX11_pay 43 = .ok (.aload_n 0, 1) := by decide +kernel
theorem dX11_pay_44 : decode cX11_pay 44 = .ok (.getfield 72, 3) := by decide +kernel
theorem dX11_pay_47 : decode cX11_pay 47 = .ok (.getfield 206, 3) := by decide +kernel
theorem dX11_pay_50 : decode cX11_pay 50 = .ok (.invokevirtual 209, 3) := by decide +kernel
theorem dX11_pay_53 : decode cX11_pay 53 = .ok (.aload_n 0, 1) := by decide +kernel
theorem dX11_pay_54 : decode cX11_pay 54 = .ok (.getfield 72, 3) := by decide +kernel
theorem dX11_pay_57 : decode cX11_pay 57 = .ok (.iload_n 1, 1) := by decide +kernel
theorem dX11_pay_58 : decode cX11_pay 58 = .ok (.iload_n 2, 1) := by decide +kernel
theorem dX11_pay_59 : decode cX11_pay 59 = .ok (.invokevirtual 213, 3) := by decide +kernel
theorem dX11_pay_62 : decode cX11_pay 62 = .ok (.aload_n 0, 1) := by decide +kernel
theorem dX11_pay_63 : decode cX11_pay 63 = .ok (.getfield 72, 3) := by decide +kernel
theorem dX11_pay_66 : decode cX11_pay 66 = .ok (.iload_n 1, 1) := by decide +kernel
theorem dX11_pay_67 : decode cX11_pay 67 = .ok (.invokevirtual 184, 3) := by decide +kernel
theorem dX11_pay_70 : decode cX11_pay 70 = .ok (.ireturn, 1) := by decide +kernel
theorem dX11_price_0 : decode cX11_price 0 = .ok (.aload_n 0, 1) := by decide +kernel
theorem dX11_price_1 : decode cX11_price 1 = .ok (.getfield 64, 3) := by decide +kernel
theorem dX11_price_4 : decode cX11_price 4 = .ok (.iload_n 1, 1) := by decide +kernel
theorem dX11_price_5 : decode cX11_price 5 = .ok (.invokevirtual 160, 3) := by decide +kernel
theorem dX11_price_8 : decode cX11_price 8 = .ok (.ifCond .eq 25, 3) := by decide +kernel
theorem dX11_price_11 : decode cX11_price 11 = .ok (.iload_n 2, 1) := by decide +kernel
theorem dX11_price_12 : decode cX11_price 12 = .ok (.ifCond .lt 21, 3) := by decide +kernel
theorem dX11_price_15 : decode cX11_price 15 = .ok (.iload_n 2, 1) := by decide +kernel
theorem dX11_price_16 : decode cX11_price 16 = .ok (.bipush 60, 2) := by decide +kernel
theorem dX11_price_18 : decode cX11_price 18 = .ok (.if_icmp .gt 15, 3) := by decide +kernel
theorem dX11_price_21 : decode cX11_price 21 = .ok (.iload_n 2, 1) := by decide +kernel
theorem dX11_price_22 : decode cX11_price 22 = .ok (.aload_n 0, 1) := by decide +kernel
theorem dX11_price_23 : decode cX11_price 23 = .ok (.getfield 72, 3) := by decide +kernel
theorem dX11_price_26 : decode cX11_price 26 = .ok (.iload_n 1, 1) := by decide +kernel
theorem dX11_price_27 : decode cX11_price 27 = .ok (.invokevirtual 168, 3) := by decide +kernel
theorem dX11_price_30 : decode cX11_price 30 = .ok (.if_icmp .ne 5, 3) := by decide +kernel
theorem dX11_price_33 : decode cX11_price 33 = .ok (.iconst (-1), 1) := by decide +kernel
theorem dX11_price_34 : decode cX11_price 34 = .ok (.ireturn, 1) := by decide +kernel
theorem dX11_price_35 : decode cX11_price 35 = .ok (.aload_n 0, 1) := by decide +kernel
theorem dX11_price_36 : decode cX11_price 36 = .ok (.getfield 72, 3) := by decide +kernel
theorem dX11_price_39 : decode cX11_price 39 = .ok (.iload_n 1, 1) := by decide +kernel
theorem dX11_price_40 : decode cX11_price 40 = .ok (.invokevirtual 168, 3) := by decide +kernel
theorem dX11_price_43 : decode cX11_price 43 = .ok (.istore_n 3, 1) := by decide +kernel
theorem dX11_price_44 : decode cX11_price 44 = .ok (.aload_n 0, 1) := by decide +kernel
theorem dX11_price_45 : decode cX11_price 45 = .ok (.getfield 45, 3) := by decide +kernel
theorem dX11_price_48 : decode cX11_price 48 = .ok (.aload_n 0, 1) := by decide +kernel
theorem dX11_price_49 : decode cX11_price 49 = .ok (.getfield 72, 3) := by decide +kernel
theorem dX11_price_52 : decode cX11_price 52 = .ok (.getfield 206, 3) := by decide +kernel
theorem dX11_price_55 : decode cX11_price 55 = .ok (.invokevirtual 209, 3) := by decide +kernel
theorem dX11_price_58 : decode cX11_price 58 = .ok (.aload_n 0, 1) := by decide +kernel
theorem dX11_price_59 : decode cX11_price 59 = .ok (.getfield 72, 3) := by decide +kernel
theorem dX11_price_62 : decode cX11_price 62 = .ok (.iload_n 1, 1) := by decide +kernel
theorem dX11_price_63 : decode cX11_price 63 = .ok (.iload_n 2, 1) := by decide +kernel
theorem dX11_price_64 : decode cX11_price 64 = .ok (.invokevirtual 217, 3) := by decide +kernel
theorem dX11_price_67 : decode cX11_price 67 = .ok (.iload_n 3, 1) := by decide +kernel
theorem dX11_price_68 : decode cX11_price 68 = .ok (.ireturn, 1) := by decide +kernel
