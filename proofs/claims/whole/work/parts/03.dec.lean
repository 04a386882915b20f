theorem dX0_init_0 : decode cX0_init 0 = .ok (.aload_n 0, 1) := by decide +kernel
theorem dX0_init_1 : decode cX0_init 1 = .ok (.aload_n 1, 1) := by decide +kernel
theorem dX0_init_2 : decode cX0_init 2 = .ok (.invokespecial 1, 3) := by decide +kernel
theorem dX0_init_5 : decode cX0_init 5 = .ok (.return_, 1) := by decide +kernel
theorem dX0_isAsked_0 : decode cX0_isAsked 0 = .ok (.aload_n 0, 1) := by decide +kernel
theorem dX0_isAsked_1 : decode cX0_isAsked 1 = .ok (.iload_n 1, 1) := by decide +kernel
theorem dX0_isAsked_2 : decode cX0_isAsked 2 = .ok (.iload_n 2, 1) := by decide +kernel
theorem dX0_isAsked_3 : decode cX0_isAsked 3 = .ok (.iload_n 3, 1) := by decide +kernel
theorem dX0_isAsked_4 : decode cX0_isAsked 4 = .ok (.invokespecial 7, 3) := by decide +kernel
theorem dX0_isAsked_7 : decode cX0_isAsked 7 = .ok (.istore 4, 2) := by decide +kernel
theorem dX0_isAsked_9 : decode cX0_isAsked 9 = .ok (.iload 4, 2) := by decide +kernel
theorem dX0_isAsked_11 : decode cX0_isAsked 11 = .ok (.bipush 7, 2) := by decide +kernel
theorem dX0_isAsked_13 : decode cX0_isAsked 13 = .ok (.if_icmp .le 11, 3) := by decide +kernel
theorem dX0_isAsked_16 : decode cX0_isAsked 16 = .ok (.iload 4, 2) := by decide +kernel
theorem dX0_isAsked_18 : decode cX0_isAsked 18 = .ok (.bipush 7, 2) := by decide +kernel
theorem dX0_isAsked_20 : decode cX0_isAsked 20 = .ok (.isub, 1) := by decide +kernel
theorem dX0_isAsked_21 : decode cX0_isAsked 21 = .ok (.goto 4, 3) := by decide +kernel
theorem dX0_isAsked_24 : decode cX0_isAsked 24 = .ok (.iconst 0, 1) := by decide +kernel
theorem dX0_isAsked_25 : decode cX0_isAsked 25 = .ok (.ireturn, 1) := by decide +kernel
theorem dX0_takes_0 : decode cX0_takes 0 = .ok (.aload_n 0, 1) := by decide +kernel
theorem dX0_takes_1 : decode cX0_takes 1 = .ok (.getfield 11, 3) := by decide +kernel
theorem dX0_takes_4 : decode cX0_takes 4 = .ok (.bipush 60, 2) := by decide +kernel
theorem dX0_takes_6 : decode cX0_takes 6 = .ok (.invokevirtual 17, 3) := by decide +kernel
theorem dX0_takes_9 : decode cX0_takes 9 = .ok (.iconst 0, 1) := by decide +kernel
theorem dX0_takes_10 : decode cX0_takes 10 = .ok (.aload_n 0, 1) := by decide +kernel
theorem dX0_takes_11 : decode cX0_takes 11 = .ok (.iload_n 1, 1) := by decide +kernel
theorem dX0_takes_12 : decode cX0_takes 12 = .ok (.invokespecial 23, 3) := by decide +kernel
theorem dX0_takes_15 : decode cX0_takes 15 = .ok (.isub, 1) := by decide +kernel
theorem dX0_takes_16 : decode cX0_takes 16 = .ok (.ireturn, 1) := by decide +kernel
theorem dX0_halves_0 : decode cX0_halves 0 = .ok (.aload_n 0, 1) := by decide +kernel
theorem dX0_halves_1 : decode cX0_halves 1 = .ok (.getfield 11, 3) := by decide +kernel
theorem dX0_halves_4 : decode cX0_halves 4 = .ok (.bipush 61, 2) := by decide +kernel
theorem dX0_halves_6 : decode cX0_halves 6 = .ok (.invokevirtual 17, 3) := by decide +kernel
theorem dX0_halves_9 : decode cX0_halves 9 = .ok (.aload_n 0, 1) := by decide +kernel
theorem dX0_halves_10 : decode cX0_halves 10 = .ok (.iload_n 1, 1) := by decide +kernel
theorem dX0_halves_11 : decode cX0_halves 11 = .ok (.invokespecial 27, 3) := by decide +kernel
theorem dX0_halves_14 : decode cX0_halves 14 = .ok (.aload_n 0, 1) := by decide +kernel
theorem dX0_halves_15 : decode cX0_halves 15 = .ok (.aload_n 0, 1) := by decide +kernel
theorem dX0_halves_16 : decode cX0_halves 16 = .ok (.getfield 30, 3) := by decide +kernel
theorem dX0_halves_19 : decode cX0_halves 19 = .ok (.invokevirtual 34, 3) := by decide +kernel
theorem dX0_halves_22 : decode cX0_halves 22 = .ok (.isub, 1) := by decide +kernel
theorem dX0_halves_23 : decode cX0_halves 23 = .ok (.ireturn, 1) := by decide +kernel
theorem dX1_init_0 : decode cX1_init 0 = .ok (.aload_n 0, 1) := by decide +kernel
theorem dX1_init_1 : decode cX1_init 1 = .ok (.invokespecial 3, 3) := by decide +kernel
theorem dX1_init_4 : decode cX1_init 4 = .ok (.aload_n 0, 1) := by decide +kernel
theorem dX1_init_5 : decode cX1_init 5 = .ok (.iconst 4, 1) := by decide +kernel
theorem dX1_init_6 : decode cX1_init 6 = .ok (.newarray .int, 2) := by decide +kernel
theorem dX1_init_8 : decode cX1_init 8 = .ok (.dup, 1) := by decide +kernel
theorem dX1_init_9 : decode cX1_init 9 = .ok (.iconst 0, 1) := by decide +kernel
theorem dX1_init_10 : decode cX1_init 10 = .ok (.iconst (-1), 1) := by decide +kernel
theorem dX1_init_11 : decode cX1_init 11 = .ok (.iastore, 1) := by decide +kernel
theorem dX1_init_12 : decode cX1_init 12 = .ok (.dup, 1) := by decide +kernel
theorem dX1_init_13 : decode cX1_init 13 = .ok (.iconst 1, 1) := by decide +kernel
theorem dX1_init_14 : decode cX1_init 14 = .ok (.iconst (-1), 1) := by decide +kernel
theorem dX1_init_15 : decode cX1_init 15 = .ok (.iastore, 1) := by decide +kernel
theorem dX1_init_16 : decode cX1_init 16 = .ok (.dup, 1) := by decide +kernel
theorem dX1_init_17 : decode cX1_init 17 = .ok (.iconst 2, 1) := by decide +kernel
theorem dX1_init_18 : decode cX1_init 18 = .ok (.iconst (-1), 1) := by decide +kernel
theorem dX1_init_19 : decode cX1_init 19 = .ok (.iastore, 1) := by decide +kernel
theorem dX1_init_20 : decode cX1_init 20 = .ok (.dup, 1) := by decide +kernel
theorem dX1_init_21 : decode cX1_init 21 = .ok (.iconst 3, 1) := by decide +kernel
theorem dX1_init_22 : decode cX1_init 22 = .ok (.iconst (-1), 1) := by decide +kernel
theorem dX1_init_23 : decode cX1_init 23 = .ok (.iastore, 1) := by decide +kernel
theorem dX1_init_24 : decode cX1_init 24 = .ok (.putfield 11, 3) := by decide +kernel
theorem dX1_init_27 : decode cX1_init 27 = .ok (.aload_n 0, 1) := by decide +kernel
theorem dX1_init_28 : decode cX1_init 28 = .ok (.iconst 4, 1) := by decide +kernel
theorem dX1_init_29 : decode cX1_init 29 = .ok (.newarray .int, 2) := by decide +kernel
theorem dX1_init_31 : decode cX1_init 31 = .ok (.putfield 15, 3) := by decide +kernel
theorem dX1_init_34 : decode cX1_init 34 = .ok (.aload_n 0, 1) := by decide +kernel
theorem dX1_init_35 : decode cX1_init 35 = .ok (.iconst 4, 1) := by decide +kernel
theorem dX1_init_36 : decode cX1_init 36 = .ok (.bipush 40, 2) := by decide +kernel
theorem dX1_init_38 : decode cX1_init 38 = .ok (.multianewarray 18 2, 4) := by decide +kernel
theorem dX1_init_42 : decode cX1_init 42 = .ok (.putfield 20, 3) := by decide +kernel
theorem dX1_init_45 : decode cX1_init 45 = .ok (.aload_n 0, 1) := by decide +kernel
theorem dX1_init_46 : decode cX1_init 46 = .ok (.iconst 4, 1) := by decide +kernel
theorem dX1_init_47 : decode cX1_init 47 = .ok (.newarray .int, 2) := by decide +kernel
theorem dX1_init_49 : decode cX1_init 49 = .ok (.putfield 23, 3) := by decide +kernel
theorem dX1_init_52 : decode cX1_init 52 = .ok (.aload_n 0, 1) := by decide +kernel
theorem dX1_init_53 : decode cX1_init 53 = .ok (.iconst 4, 1) := by decide +kernel
theorem dX1_init_54 : decode cX1_init 54 = .ok (.newarray .int, 2) := by decide +kernel
theorem dX1_init_56 : decode cX1_init 56 = .ok (.putfield 26, 3) := by decide +kernel
theorem dX1_init_59 : decode cX1_init 59 = .ok (.aload_n 0, 1) := by decide +kernel
theorem dX1_init_60 : decode cX1_init 60 = .ok (.iconst 4, 1) := by decide +kernel
theorem dX1_init_61 : decode cX1_init 61 = .ok (.newarray .int, 2) := by decide +kernel
theorem dX1_init_63 : decode cX1_init 63 = .ok (.putfield 29, 3) := by decide +kernel
theorem dX1_init_66 : decode cX1_init 66 = .ok (.aload_n 0, 1) := by decide +kernel
theorem dX1_init_67 : decode cX1_init 67 = .ok (.bipush 30, 2) := by decide +kernel
theorem dX1_init_69 : decode cX1_init 69 = .ok (.newarray .int, 2) := by decide +kernel
theorem dX1_init_71 : decode cX1_init 71 = .ok (.putfield 32, 3) := by decide +kernel
theorem dX1_init_74 : decode cX1_init 74 = .ok (.return_, 1) := by decide +kernel
theorem dX1_isPlace_0 : decode cX1_isPlace 0 = .ok (.iload_n 2, 1) := by decide +kernel
theorem dX1_isPlace_1 : decode cX1_isPlace 1 = .ok (.ifCond .lt 17, 3) := by decide +kernel
theorem dX1_isPlace_4 : decode cX1_isPlace 4 = .ok (.iload_n 2, 1) := by decide +kernel
theorem dX1_isPlace_5 : decode cX1_isPlace 5 = .ok (.aload_n 0, 1) := by decide +kernel
theorem dX1_isPlace_6 : decode cX1_isPlace 6 = .ok (.getfield 15, 3) := by decide +kernel
theorem dX1_isPlace_9 : decode cX1_isPlace 9 = .ok (.iload_n 1, 1) := by decide +kernel
theorem dX1_isPlace_10 : decode cX1_isPlace 10 = .ok (.iaload, 1) := by decide +kernel
theorem dX1_isPlace_11 : decode cX1_isPlace 11 = .ok (.if_icmp .ge 7, 3) := by decide +kernel
theorem dX1_isPlace_14 : decode cX1_isPlace 14 = .ok (.iconst 1, 1) := by decide +kernel
theorem dX1_isPlace_15 : decode cX1_isPlace 15 = .ok (.goto 4, 3) := by decide +kernel
theorem dX1_isPlace_18 : decode cX1_isPlace 18 = .ok (.iconst 0, 1) := by decide +kernel
theorem dX1_isPlace_19 : decode cX1_isPlace 19 = .ok (.ireturn, 1) := by decide +kernel
theorem dX1_refusal_0 : decode cX1_refusal 0 = .ok (.aload_n 0, 1) := by decide +kernel
theorem dX1_refusal_1 : decode cX1_refusal 1 = .ok (.getfield 11, 3) := by decide +kernel
theorem dX1_refusal_4 : decode cX1_refusal 4 = .ok (.iload_n 1, 1) := by decide +kernel
theorem dX1_refusal_5 : decode cX1_refusal 5 = .ok (.iaload, 1) := by decide +kernel
theorem dX1_refusal_6 : decode cX1_refusal 6 = .ok (.iconst (-1), 1) := by decide +kernel
theorem dX1_refusal_7 : decode cX1_refusal 7 = .ok (.if_icmp .ne 6, 3) := by decide +kernel
theorem dX1_refusal_10 : decode cX1_refusal 10 = .ok (.bipush (-11), 2) := by decide +kernel
theorem dX1_refusal_12 : decode cX1_refusal 12 = .ok (.ireturn, 1) := by decide +kernel
theorem dX1_refusal_13 : decode cX1_refusal 13 = .ok (.aload_n 0, 1) := by decide +kernel
theorem dX1_refusal_14 : decode cX1_refusal 14 = .ok (.getfield 11, 3) := by decide +kernel
theorem dX1_refusal_17 : decode cX1_refusal 17 = .ok (.iload_n 1, 1) := by decide +kernel
theorem dX1_refusal_18 : decode cX1_refusal 18 = .ok (.iaload, 1) := by decide +kernel
theorem dX1_refusal_19 : decode cX1_refusal 19 = .ok (.iload_n 2, 1) := by decide +kernel
theorem dX1_refusal_20 : decode cX1_refusal 20 = .ok (.if_icmp .ne 7, 3) := by decide +kernel
theorem dX1_refusal_23 : decode cX1_refusal 23 = .ok (.iconst 0, 1) := by decide +kernel
theorem dX1_refusal_24 : decode cX1_refusal 24 = .ok (.goto 5, 3) := by decide +kernel
theorem dX1_refusal_27 : decode cX1_refusal 27 = .ok (.bipush (-13), 2) := by decide +kernel
theorem dX1_refusal_29 : decode cX1_refusal 29 = .ok (.ireturn, 1) := by decide +kernel
theorem dX1_narrowed_0 : decode cX1_narrowed 0 = .ok (.iload_n 1, 1) := by decide +kernel
theorem dX1_narrowed_1 : decode cX1_narrowed 1 = .ok (.tableswitch 51 0 4 #[35, 38, 51, 51, 41], 35) := by decide +kernel
theorem dX1_narrowed_36 : decode cX1_narrowed 36 = .ok (.iload_n 2, 1) := by decide +kernel
theorem dX1_narrowed_37 : decode cX1_narrowed 37 = .ok (.i2b, 1) := by decide +kernel
theorem dX1_narrowed_38 : decode cX1_narrowed 38 = .ok (.ireturn, 1) := by decide +kernel
theorem dX1_narrowed_39 : decode cX1_narrowed 39 = .ok (.iload_n 2, 1) := by decide +kernel
theorem dX1_narrowed_40 : decode cX1_narrowed 40 = .ok (.i2s, 1) := by decide +kernel
theorem dX1_narrowed_41 : decode cX1_narrowed 41 = .ok (.ireturn, 1) := by decide +kernel
theorem dX1_narrowed_42 : decode cX1_narrowed 42 = .ok (.iload_n 2, 1) := by decide +kernel
theorem dX1_narrowed_43 : decode cX1_narrowed 43 = .ok (.ifCond .eq 7, 3) := by decide +kernel
theorem dX1_narrowed_46 : decode cX1_narrowed 46 = .ok (.iconst 1, 1) := by decide +kernel
theorem dX1_narrowed_47 : decode cX1_narrowed 47 = .ok (.goto 4, 3) := by decide +kernel
theorem dX1_narrowed_50 : decode cX1_narrowed 50 = .ok (.iconst 0, 1) := by decide +kernel
theorem dX1_narrowed_51 : decode cX1_narrowed 51 = .ok (.ireturn, 1) := by decide +kernel
theorem dX1_narrowed_52 : decode cX1_narrowed 52 = .ok (.iload_n 2, 1) := by decide +kernel
theorem dX1_narrowed_53 : decode cX1_narrowed 53 = .ok (.ireturn, 1) := by decide +kernel
theorem dX1_hold_0 : decode cX1_hold 0 = .ok (.aload_n 0, 1) := by decide +kernel
theorem dX1_hold_1 : decode cX1_hold 1 = .ok (.getfield 23, 3) := by decide +kernel
theorem dX1_hold_4 : decode cX1_hold 4 = .ok (.iload_n 1, 1) := by decide +kernel
theorem dX1_hold_5 : decode cX1_hold 5 = .ok (.iload_n 2, 1) := by decide +kernel
theorem dX1_hold_6 : decode cX1_hold 6 = .ok (.iastore, 1) := by decide +kernel
theorem dX1_hold_7 : decode cX1_hold 7 = .ok (.aload_n 0, 1) := by decide +kernel
theorem dX1_hold_8 : decode cX1_hold 8 = .ok (.getfield 26, 3) := by decide +kernel
theorem dX1_hold_11 : decode cX1_hold 11 = .ok (.iload_n 1, 1) := by decide +kernel
theorem dX1_hold_12 : decode cX1_hold 12 = .ok (.iload_n 3, 1) := by decide +kernel
theorem dX1_hold_13 : decode cX1_hold 13 = .ok (.iastore, 1) := by decide +kernel
theorem dX1_hold_14 : decode cX1_hold 14 = .ok (.aload_n 0, 1) := by decide +kernel
theorem dX1_hold_15 : decode cX1_hold 15 = .ok (.getfield 29, 3) := by decide +kernel
theorem dX1_hold_18 : decode cX1_hold 18 = .ok (.iload_n 1, 1) := by decide +kernel
theorem dX1_hold_19 : decode cX1_hold 19 = .ok (.iload 4, 2) := by decide +kernel
theorem dX1_hold_21 : decode cX1_hold 21 = .ok (.iastore, 1) := by decide +kernel
theorem dX1_hold_22 : decode cX1_hold 22 = .ok (.iconst 1, 1) := by decide +kernel
theorem dX1_hold_23 : decode cX1_hold 23 = .ok (.ireturn, 1) := by decide +kernel
theorem dX1_holdRow_0 : decode cX1_holdRow 0 = .ok (.aload_n 0, 1) := by decide +kernel
theorem dX1_holdRow_1 : decode cX1_holdRow 1 = .ok (.iload_n 1, 1) := by decide +kernel
theorem dX1_holdRow_2 : decode cX1_holdRow 2 = .ok (.aload_n 0, 1) := by decide +kernel
theorem dX1_holdRow_3 : decode cX1_holdRow 3 = .ok (.getfield 11, 3) := by decide +kernel
theorem dX1_holdRow_6 : decode cX1_holdRow 6 = .ok (.iload_n 2, 1) := by decide +kernel
theorem dX1_holdRow_7 : decode cX1_holdRow 7 = .ok (.iaload, 1) := by decide +kernel
theorem dX1_holdRow_8 : decode cX1_holdRow 8 = .ok (.iconst (-1), 1) := by decide +kernel
theorem dX1_holdRow_9 : decode cX1_holdRow 9 = .ok (.if_icmp .ne 7, 3) := by decide +kernel
theorem dX1_holdRow_12 : decode cX1_holdRow 12 = .ok (.iconst 0, 1) := by decide +kernel
theorem dX1_holdRow_13 : decode cX1_holdRow 13 = .ok (.goto 4, 3) := by decide +kernel
theorem dX1_holdRow_16 : decode cX1_holdRow 16 = .ok (.iconst 2, 1) := by decide +kernel
theorem dX1_holdRow_17 : decode cX1_holdRow 17 = .ok (.aload_n 0, 1) := by decide +kernel
theorem dX1_holdRow_18 : decode cX1_holdRow 18 = .ok (.getfield 11, 3) := by decide +kernel
theorem dX1_holdRow_21 : decode cX1_holdRow 21 = .ok (.iload_n 2, 1) := by decide +kernel
theorem dX1_holdRow_22 : decode cX1_holdRow 22 = .ok (.iaload, 1) := by decide +kernel
theorem dX1_holdRow_23 : decode cX1_holdRow 23 = .ok (.aload_n 0, 1) := by decide +kernel
theorem dX1_holdRow_24 : decode cX1_holdRow 24 = .ok (.getfield 15, 3) := by decide +kernel
theorem dX1_holdRow_27 : decode cX1_holdRow 27 = .ok (.iload_n 2, 1) := by decide +kernel
theorem dX1_holdRow_28 : decode cX1_holdRow 28 = .ok (.iaload, 1) := by decide +kernel
theorem dX1_holdRow_29 : decode cX1_holdRow 29 = .ok (.invokevirtual 35, 3) := by decide +kernel
theorem dX1_holdRow_32 : decode cX1_holdRow 32 = .ok (.ireturn, 1) := by decide +kernel
theorem dX1_startTrace_0 : decode cX1_startTrace 0 = .ok (.aload_n 0, 1) := by decide +kernel
theorem dX1_startTrace_1 : decode cX1_startTrace 1 = .ok (.iconst 0, 1) := by decide +kernel
theorem dX1_startTrace_2 : decode cX1_startTrace 2 = .ok (.putfield 39, 3) := by decide +kernel
theorem dX1_startTrace_5 : decode cX1_startTrace 5 = .ok (.aload_n 0, 1) := by decide +kernel
theorem dX1_startTrace_6 : decode cX1_startTrace 6 = .ok (.iconst 0, 1) := by decide +kernel
theorem dX1_startTrace_7 : decode cX1_startTrace 7 = .ok (.putfield 43, 3) := by decide +kernel
theorem dX1_startTrace_10 : decode cX1_startTrace 10 = .ok (.return_, 1) := by decide +kernel
theorem dX1_began_0 : decode cX1_began 0 = .ok (.aload_n 0, 1) := by decide +kernel
theorem dX1_began_1 : decode cX1_began 1 = .ok (.getfield 43, 3) := by decide +kernel
theorem dX1_began_4 : decode cX1_began 4 = .ok (.ifCond .ne 32, 3) := by decide +kernel
theorem dX1_began_7 : decode cX1_began 7 = .ok (.aload_n 0, 1) := by decide +kernel
theorem dX1_began_8 : decode cX1_began 8 = .ok (.getfield 39, 3) := by decide +kernel
theorem dX1_began_11 : decode cX1_began 11 = .ok (.bipush 30, 2) := by decide +kernel
theorem dX1_began_13 : decode cX1_began 13 = .ok (.if_icmp .ge 23, 3) := by decide +kernel
theorem dX1_began_16 : decode cX1_began 16 = .ok (.aload_n 0, 1) := by decide +kernel
theorem dX1_began_17 : decode cX1_began 17 = .ok (.getfield 32, 3) := by decide +kernel
theorem dX1_began_20 : decode cX1_began 20 = .ok (.aload_n 0, 1) := by decide +kernel
theorem dX1_began_21 : decode cX1_began 21 = .ok (.getfield 39, 3) := by decide +kernel
theorem dX1_began_24 : decode cX1_began 24 = .ok (.iload_n 1, 1) := by decide +kernel
theorem dX1_began_25 : decode cX1_began 25 = .ok (.iastore, 1) := by decide +kernel
theorem dX1_began_26 : decode cX1_began 26 = .ok (.aload_n 0, 1) := by decide +kernel
theorem dX1_began_27 : decode cX1_began 27 = .ok (.dup, 1) := by decide +kernel
theorem dX1_began_28 : decode cX1_began 28 = .ok (.getfield 39, 3) := by decide +kernel
theorem dX1_began_31 : decode cX1_began 31 = .ok (.iconst 1, 1) := by decide +kernel
theorem dX1_began_32 : decode cX1_began 32 = .ok (.iadd, 1) := by decide +kernel
theorem dX1_began_33 : decode cX1_began 33 = .ok (.putfield 39, 3) := by decide +kernel
theorem dX1_began_36 : decode cX1_began 36 = .ok (.return_, 1) := by decide +kernel
theorem dX2_init_0 : decode cX2_init 0 = .ok (.aload_n 0, 1) := by decide +kernel
theorem dX2_init_1 : decode cX2_init 1 = .ok (.aload_n 1, 1) := by decide +kernel
theorem dX2_init_2 : decode cX2_init 2 = .ok (.invokespecial 1, 3) := by decide +kernel
theorem dX2_init_5 : decode cX2_init 5 = .ok (.return_, 1) := by decide +kernel
theorem dX2_gives_0 : decode cX2_gives 0 = .ok (.aload_n 0, 1) := by decide +kernel
theorem dX2_gives_1 : decode cX2_gives 1 = .ok (.getfield 7, 3) := by decide +kernel
theorem dX2_gives_4 : decode cX2_gives 4 = .ok (.bipush 20, 2) := by decide +kernel
theorem dX2_gives_6 : decode cX2_gives 6 = .ok (.invokevirtual 13, 3) := by decide +kernel
theorem dX2_gives_9 : decode cX2_gives 9 = .ok (.aload_n 0, 1) := by decide +kernel
theorem dX2_gives_10 : decode cX2_gives 10 = .ok (.iload_n 1, 1) := by decide +kernel
theorem dX2_gives_11 : decode cX2_gives 11 = .ok (.invokespecial 19, 3) := by decide +kernel
theorem dX2_gives_14 : decode cX2_gives 14 = .ok (.iconst 2, 1) := by decide +kernel
theorem dX2_gives_15 : decode cX2_gives 15 = .ok (.imul, 1) := by decide +kernel
theorem dX2_gives_16 : decode cX2_gives 16 = .ok (.ireturn, 1) := by decide +kernel
theorem dX3_init_0 : decode cX3_init 0 = .ok (.aload_n 0, 1) := by decide +kernel
theorem dX3_init_1 : decode cX3_init 1 = .ok (.aload_n 1, 1) := by decide +kernel
theorem dX3_init_2 : decode cX3_init 2 = .ok (.invokespecial 1, 3) := by decide +kernel
theorem dX3_init_5 : decode cX3_init 5 = .ok (.return_, 1) := by decide +kernel
theorem dX3_isAsked_0 : decode cX3_isAsked 0 = .ok (.iload_n 2, 1) := by decide +kernel
theorem dX3_isAsked_1 : decode cX3_isAsked 1 = .ok (.bipush 10, 2) := by decide +kernel
theorem dX3_isAsked_3 : decode cX3_isAsked 3 = .ok (.idiv, 1) := by decide +kernel
theorem dX3_isAsked_4 : decode cX3_isAsked 4 = .ok (.istore 4, 2) := by decide +kernel
theorem dX3_isAsked_6 : decode cX3_isAsked 6 = .ok (.iload_n 1, 1) := by decide +kernel
theorem dX3_isAsked_7 : decode cX3_isAsked 7 = .ok (.iload 4, 2) := by decide +kernel
theorem dX3_isAsked_9 : decode cX3_isAsked 9 = .ok (.if_icmp .le 10, 3) := by decide +kernel
theorem dX3_isAsked_12 : decode cX3_isAsked 12 = .ok (.iload_n 1, 1) := by decide +kernel
theorem dX3_isAsked_13 : decode cX3_isAsked 13 = .ok (.iload 4, 2) := by decide +kernel
theorem dX3_isAsked_15 : decode cX3_isAsked 15 = .ok (.isub, 1) := by decide +kernel
theorem dX3_isAsked_16 : decode cX3_isAsked 16 = .ok (.goto 4, 3) := by decide +kernel
theorem dX3_isAsked_19 : decode cX3_isAsked 19 = .ok (.iconst 0, 1) := by decide +kernel
theorem dX3_isAsked_20 : decode cX3_isAsked 20 = .ok (.ireturn, 1) := by decide +kernel
theorem dX3_takes_0 : decode cX3_takes 0 = .ok (.aload_n 0, 1) := by decide +kernel
theorem dX3_takes_1 : decode cX3_takes 1 = .ok (.getfield 7, 3) := by decide +kernel
theorem dX3_takes_4 : decode cX3_takes 4 = .ok (.bipush 30, 2) := by decide +kernel
theorem dX3_takes_6 : decode cX3_takes 6 = .ok (.invokevirtual 13, 3) := by decide +kernel
theorem dX3_takes_9 : decode cX3_takes 9 = .ok (.aload_n 0, 1) := by decide +kernel
theorem dX3_takes_10 : decode cX3_takes 10 = .ok (.iload_n 1, 1) := by decide +kernel
theorem dX3_takes_11 : decode cX3_takes 11 = .ok (.invokespecial 19, 3) := by decide +kernel
theorem dX3_takes_14 : decode cX3_takes 14 = .ok (.aload_n 0, 1) := by decide +kernel
theorem dX3_takes_15 : decode cX3_takes 15 = .ok (.getfield 23, 3) := by decide +kernel
theorem dX3_takes_18 : decode cX3_takes 18 = .ok (.ixor, 1) := by decide +kernel
theorem dX3_takes_19 : decode cX3_takes 19 = .ok (.ireturn, 1) := by decide +kernel
theorem dX4_init_0 : decode cX4_init 0 = .ok (.aload_n 0, 1) := by decide +kernel
theorem dX4_init_1 : decode cX4_init 1 = .ok (.invokespecial 1, 3) := by decide +kernel
theorem dX4_init_4 : decode cX4_init 4 = .ok (.aload_n 0, 1) := by decide +kernel
theorem dX4_init_5 : decode cX4_init 5 = .ok (.aload_n 1, 1) := by decide +kernel
theorem dX4_init_6 : decode cX4_init 6 = .ok (.putfield 7, 3) := by decide +kernel
theorem dX4_init_9 : decode cX4_init 9 = .ok (.return_, 1) := by decide +kernel
theorem dX4_isAsked_0 : decode cX4_isAsked 0 = .ok (.iload_n 1, 1) := by decide +kernel
theorem dX4_isAsked_1 : decode cX4_isAsked 1 = .ok (.ireturn, 1) := by decide +kernel
theorem dX4_gives_0 : decode cX4_gives 0 = .ok (.aload_n 0, 1) := by decide +kernel
theorem dX4_gives_1 : decode cX4_gives 1 = .ok (.getfield 7, 3) := by decide +kernel
theorem dX4_gives_4 : decode cX4_gives 4 = .ok (.bipush 10, 2) := by decide +kernel
theorem dX4_gives_6 : decode cX4_gives 6 = .ok (.invokevirtual 13, 3) := by decide +kernel
theorem dX4_gives_9 : decode cX4_gives 9 = .ok (.iload_n 1, 1) := by decide +kernel
theorem dX4_gives_10 : decode cX4_gives 10 = .ok (.aload_n 0, 1) := by decide +kernel
theorem dX4_gives_11 : decode cX4_gives 11 = .ok (.getfield 19, 3) := by decide +kernel
theorem dX4_gives_14 : decode cX4_gives 14 = .ok (.iadd, 1) := by decide +kernel
theorem dX4_gives_15 : decode cX4_gives 15 = .ok (.ireturn, 1) := by decide +kernel
theorem dX4_takes_0 : decode cX4_takes 0 = .ok (.aload_n 0, 1) := by decide +kernel
theorem dX4_takes_1 : decode cX4_takes 1 = .ok (.getfield 7, 3) := by decide +kernel
theorem dX4_takes_4 : decode cX4_takes 4 = .ok (.bipush 11, 2) := by decide +kernel
theorem dX4_takes_6 : decode cX4_takes 6 = .ok (.invokevirtual 13, 3) := by decide +kernel
theorem dX4_takes_9 : decode cX4_takes 9 = .ok (.aload_n 0, 1) := by decide +kernel
theorem dX4_takes_10 : decode cX4_takes 10 = .ok (.iload_n 1, 1) := by decide +kernel
theorem dX4_takes_11 : decode cX4_takes 11 = .ok (.invokevirtual 23, 3) := by decide +kernel
theorem dX4_takes_14 : decode cX4_takes 14 = .ok (.aload_n 0, 1) := by decide +kernel
theorem dX4_takes_15 : decode cX4_takes 15 = .ok (.getfield 27, 3) := by decide +kernel
theorem dX4_takes_18 : decode cX4_takes 18 = .ok (.isub, 1) := by decide +kernel
theorem dX4_takes_19 : decode cX4_takes 19 = .ok (.ireturn, 1) := by decide +kernel
theorem dX4_halves_0 : decode cX4_halves 0 = .ok (.aload_n 0, 1) := by decide +kernel
theorem dX4_halves_1 : decode cX4_halves 1 = .ok (.getfield 7, 3) := by decide +kernel
theorem dX4_halves_4 : decode cX4_halves 4 = .ok (.bipush 12, 2) := by decide +kernel
theorem dX4_halves_6 : decode cX4_halves 6 = .ok (.invokevirtual 13, 3) := by decide +kernel
theorem dX4_halves_9 : decode cX4_halves 9 = .ok (.aload_n 0, 1) := by decide +kernel
theorem dX4_halves_10 : decode cX4_halves 10 = .ok (.getfield 19, 3) := by decide +kernel
theorem dX4_halves_13 : decode cX4_halves 13 = .ok (.aload_n 0, 1) := by decide +kernel
theorem dX4_halves_14 : decode cX4_halves 14 = .ok (.getfield 27, 3) := by decide +kernel
theorem dX4_halves_17 : decode cX4_halves 17 = .ok (.if_icmp .ne 13, 3) := by decide +kernel
theorem dX4_halves_20 : decode cX4_halves 20 = .ok (.aload_n 0, 1) := by decide +kernel
theorem dX4_halves_21 : decode cX4_halves 21 = .ok (.getfield 7, 3) := by decide +kernel
theorem dX4_halves_24 : decode cX4_halves 24 = .ok (.iconst 1, 1) := by decide +kernel
theorem dX4_halves_25 : decode cX4_halves 25 = .ok (.putfield 30, 3) := by decide +kernel
theorem dX4_halves_28 : decode cX4_halves 28 = .ok (.iconst 0, 1) := by decide +kernel
theorem dX4_halves_29 : decode cX4_halves 29 = .ok (.ireturn, 1) := by decide +kernel
theorem dX4_halves_30 : decode cX4_halves 30 = .ok (.iload_n 1, 1) := by decide +kernel
theorem dX4_halves_31 : decode cX4_halves 31 = .ok (.aload_n 0, 1) := by decide +kernel
theorem dX4_halves_32 : decode cX4_halves 32 = .ok (.getfield 19, 3) := by decide +kernel
theorem dX4_halves_35 : decode cX4_halves 35 = .ok (.aload_n 0, 1) := by decide +kernel
theorem dX4_halves_36 : decode cX4_halves 36 = .ok (.getfield 27, 3) := by decide +kernel
theorem dX4_halves_39 : decode cX4_halves 39 = .ok (.isub, 1) := by decide +kernel
theorem dX4_halves_40 : decode cX4_halves 40 = .ok (.idiv, 1) := by decide +kernel
theorem dX4_halves_41 : decode cX4_halves 41 = .ok (.ireturn, 1) := by decide +kernel
theorem dX4_owes_0 : decode cX4_owes 0 = .ok (.aload_n 0, 1) := by decide +kernel
theorem dX4_owes_1 : decode cX4_owes 1 = .ok (.getfield 7, 3) := by decide +kernel
theorem dX4_owes_4 : decode cX4_owes 4 = .ok (.bipush 13, 2) := by decide +kernel
theorem dX4_owes_6 : decode cX4_owes 6 = .ok (.invokevirtual 13, 3) := by decide +kernel
theorem dX4_owes_9 : decode cX4_owes 9 = .ok (.aload_n 0, 1) := by decide +kernel
theorem dX4_owes_10 : decode cX4_owes 10 = .ok (.iload_n 1, 1) := by decide +kernel
theorem dX4_owes_11 : decode cX4_owes 11 = .ok (.invokevirtual 34, 3) := by decide +kernel
theorem dX4_owes_14 : decode cX4_owes 14 = .ok (.aload_n 0, 1) := by decide +kernel
theorem dX4_owes_15 : decode cX4_owes 15 = .ok (.getfield 19, 3) := by decide +kernel
theorem dX4_owes_18 : decode cX4_owes 18 = .ok (.ixor, 1) := by decide +kernel
theorem dX4_owes_19 : decode cX4_owes 19 = .ok (.ireturn, 1) := by decide +kernel
theorem dX5_init_0 : decode cX5_init 0 = .ok (.aload_n 0, 1) := by decide +kernel
theorem dX5_init_1 : decode cX5_init 1 = .ok (.aload_n 1, 1) := by decide +kernel
theorem dX5_init_2 : decode cX5_init 2 = .ok (.invokespecial 1, 3) := by decide +kernel
theorem dX5_init_5 : decode cX5_init 5 = .ok (.return_, 1) := by decide +kernel
theorem dX5_isAsked_0 : decode cX5_isAsked 0 = .ok (.iconst 2, 1) := by decide +kernel
theorem dX5_isAsked_1 : decode cX5_isAsked 1 = .ok (.iload_n 1, 1) := by decide +kernel
theorem dX5_isAsked_2 : decode cX5_isAsked 2 = .ok (.imul, 1) := by decide +kernel
theorem dX5_isAsked_3 : decode cX5_isAsked 3 = .ok (.ireturn, 1) := by decide +kernel
theorem dX5_halves_0 : decode cX5_halves 0 = .ok (.aload_n 0, 1) := by decide +kernel
theorem dX5_halves_1 : decode cX5_halves 1 = .ok (.getfield 7, 3) := by decide +kernel
theorem dX5_halves_4 : decode cX5_halves 4 = .ok (.bipush 40, 2) := by decide +kernel
theorem dX5_halves_6 : decode cX5_halves 6 = .ok (.invokevirtual 13, 3) := by decide +kernel
theorem dX5_halves_9 : decode cX5_halves 9 = .ok (.aload_n 0, 1) := by decide +kernel
theorem dX5_halves_10 : decode cX5_halves 10 = .ok (.iload_n 1, 1) := by decide +kernel
theorem dX5_halves_11 : decode cX5_halves 11 = .ok (.iconst 3, 1) := by decide +kernel
theorem dX5_halves_12 : decode cX5_halves 12 = .ok (.isub, 1) := by decide +kernel
theorem dX5_halves_13 : decode cX5_halves 13 = .ok (.invokespecial 19, 3) := by decide +kernel
theorem dX5_halves_16 : decode cX5_halves 16 = .ok (.ireturn, 1) := by decide +kernel
theorem dX6_init_0 : decode cX6_init 0 = .ok (.aload_n 0, 1) := by decide +kernel
theorem dX6_init_1 : decode cX6_init 1 = .ok (.invokespecial 7, 3) := by decide +kernel
theorem dX6_init_4 : decode cX6_init 4 = .ok (.aload_n 0, 1) := by decide +kernel
theorem dX6_init_5 : decode cX6_init 5 = .ok (.sipush 200, 3) := by decide +kernel
theorem dX6_init_8 : decode cX6_init 8 = .ok (.newarray .int, 2) := by decide +kernel
theorem dX6_init_10 : decode cX6_init 10 = .ok (.putfield 13, 3) := by decide +kernel
theorem dX6_init_13 : decode cX6_init 13 = .ok (.aload_n 0, 1) := by decide +kernel
theorem dX6_init_14 : decode cX6_init 14 = .ok (.sipush 201, 3) := by decide +kernel
theorem dX6_init_17 : decode cX6_init 17 = .ok (.newarray .int, 2) := by decide +kernel
theorem dX6_init_19 : decode cX6_init 19 = .ok (.putfield 17, 3) := by decide +kernel
theorem dX6_init_22 : decode cX6_init 22 = .ok (.aload_n 0, 1) := by decide +kernel
theorem dX6_init_23 : decode cX6_init 23 = .ok (.sipush 201, 3) := by decide +kernel
theorem dX6_init_26 : decode cX6_init 26 = .ok (.newarray .int, 2) := by decide +kernel
theorem dX6_init_28 : decode cX6_init 28 = .ok (.putfield 20, 3) := by decide +kernel
theorem dX6_init_31 : decode cX6_init 31 = .ok (.aload_n 0, 1) := by decide +kernel
theorem dX6_init_32 : decode cX6_init 32 = .ok (.new 1, 3) := by decide +kernel
theorem dX6_init_35 : decode cX6_init 35 = .ok (.dup, 1) := by decide +kernel
theorem dX6_init_36 : decode cX6_init 36 = .ok (.invokespecial 23, 3) := by decide +kernel
theorem dX6_init_39 : decode cX6_init 39 = .ok (.putfield 24, 3) := by decide +kernel
theorem dX6_init_42 : decode cX6_init 42 = .ok (.return_, 1) := by decide +kernel
theorem dX6_read_0 : decode cX6_read 0 = .ok (.aload_n 0, 1) := by decide +kernel
theorem dX6_read_1 : decode cX6_read 1 = .ok (.invokevirtual 28, 3) := by decide +kernel
theorem dX6_read_4 : decode cX6_read 4 = .ok (.aload_n 0, 1) := by decide +kernel
theorem dX6_read_5 : decode cX6_read 5 = .ok (.iconst 0, 1) := by decide +kernel
theorem dX6_read_6 : decode cX6_read 6 = .ok (.putfield 31, 3) := by decide +kernel
theorem dX6_read_9 : decode cX6_read 9 = .ok (.aload_n 0, 1) := by decide +kernel
theorem dX6_read_10 : decode cX6_read 10 = .ok (.iconst 0, 1) := by decide +kernel
theorem dX6_read_11 : decode cX6_read 11 = .ok (.putfield 35, 3) := by decide +kernel
theorem dX6_read_14 : decode cX6_read 14 = .ok (.aload_n 0, 1) := by decide +kernel
theorem dX6_read_15 : decode cX6_read 15 = .ok (.getfield 24, 3) := by decide +kernel
theorem dX6_read_18 : decode cX6_read 18 = .ok (.invokevirtual 38, 3) := by decide +kernel
theorem dX6_read_21 : decode cX6_read 21 = .ok (.iconst 1, 1) := by decide +kernel
theorem dX6_read_22 : decode cX6_read 22 = .ok (.istore_n 1, 1) := by decide +kernel
theorem dX6_read_23 : decode cX6_read 23 = .ok (.iconst 0, 1) := by decide +kernel
theorem dX6_read_24 : decode cX6_read 24 = .ok (.istore_n 2, 1) := by decide +kernel
theorem dX6_read_25 : decode cX6_read 25 = .ok (.iload_n 2, 1) := by decide +kernel
theorem dX6_read_26 : decode cX6_read 26 = .ok (.bipush 8, 2) := by decide +kernel
theorem dX6_read_28 : decode cX6_read 28 = .ok (.if_icmp .ge 33, 3) := by decide +kernel
theorem dX6_read_31 : decode cX6_read 31 = .ok (.iload_n 1, 1) := by decide +kernel
theorem dX6_read_32 : decode cX6_read 32 = .ok (.ifCond .eq 29, 3) := by decide +kernel
theorem dX6_read_35 : decode cX6_read 35 = .ok (.aload_n 0, 1) := by decide +kernel
theorem dX6_read_36 : decode cX6_read 36 = .ok (.getfield 17, 3) := by decide +kernel
theorem dX6_read_39 : decode cX6_read 39 = .ok (.aload_n 0, 1) := by decide +kernel
theorem dX6_read_40 : decode cX6_read 40 = .ok (.getfield 35, 3) := by decide +kernel
theorem dX6_read_43 : decode cX6_read 43 = .ok (.iaload, 1) := by decide +kernel
theorem dX6_read_44 : decode cX6_read 44 = .ok (.sipush 30000, 3) := by decide +kernel
theorem dX6_read_47 : decode cX6_read 47 = .ok (.if_icmp .eq 14, 3) := by decide +kernel
theorem dX6_read_50 : decode cX6_read 50 = .ok (.aload_n 0, 1) := by decide +kernel
theorem dX6_read_51 : decode cX6_read 51 = .ok (.invokevirtual 41, 3) := by decide +kernel
theorem dX6_read_54 : decode cX6_read 54 = .ok (.istore_n 1, 1) := by decide +kernel
theorem dX6_read_55 : decode cX6_read 55 = .ok (.iinc 2 1, 3) := by decide +kernel
theorem dX6_read_58 : decode cX6_read 58 = .ok (.goto (-33), 3) := by decide +kernel
theorem dX6_read_61 : decode cX6_read 61 = .ok (.iload_n 1, 1) := by decide +kernel
theorem dX6_read_62 : decode cX6_read 62 = .ok (.ifCond .eq 23, 3) := by decide +kernel
theorem dX6_read_65 : decode cX6_read 65 = .ok (.aload_n 0, 1) := by decide +kernel
theorem dX6_read_66 : decode cX6_read 66 = .ok (.getfield 17, 3) := by decide +kernel
theorem dX6_read_69 : decode cX6_read 69 = .ok (.aload_n 0, 1) := by decide +kernel
theorem dX6_read_70 : decode cX6_read 70 = .ok (.getfield 35, 3) := by decide +kernel
theorem dX6_read_73 : decode cX6_read 73 = .ok (.iaload, 1) := by decide +kernel
theorem dX6_read_74 : decode cX6_read 74 = .ok (.sipush 30000, 3) := by decide +kernel
theorem dX6_read_77 : decode cX6_read 77 = .ok (.if_icmp .ne 8, 3) := by decide +kernel
theorem dX6_read_80 : decode cX6_read 80 = .ok (.bipush (-3), 2) := by decide +kernel
theorem dX6_read_82 : decode cX6_read 82 = .ok (.goto 12, 3) := by decide +kernel
theorem dX6_read_85 : decode cX6_read 85 = .ok (.aload_n 0, 1) := by decide +kernel
theorem dX6_read_86 : decode cX6_read 86 = .ok (.getfield 20, 3) := by decide +kernel
theorem dX6_read_89 : decode cX6_read 89 = .ok (.aload_n 0, 1) := by decide +kernel
theorem dX6_read_90 : decode cX6_read 90 = .ok (.getfield 35, 3) := by decide +kernel
theorem dX6_read_93 : decode cX6_read 93 = .ok (.iaload, 1) := by decide +kernel
theorem dX6_read_94 : decode cX6_read 94 = .ok (.ireturn, 1) := by decide +kernel
theorem dX6_cut_0 : decode cX6_cut 0 = .ok (.iconst 0, 1) := by decide +kernel
theorem dX6_cut_1 : decode cX6_cut 1 = .ok (.istore_n 1, 1) := by decide +kernel
theorem dX6_cut_2 : decode cX6_cut 2 = .ok (.iconst 0, 1) := by decide +kernel
theorem dX6_cut_3 : decode cX6_cut 3 = .ok (.istore_n 2, 1) := by decide +kernel
theorem dX6_cut_4 : decode cX6_cut 4 = .ok (.iconst 0, 1) := by decide +kernel
theorem dX6_cut_5 : decode cX6_cut 5 = .ok (.istore_n 3, 1) := by decide +kernel
theorem dX6_cut_6 : decode cX6_cut 6 = .ok (.iload_n 3, 1) := by decide +kernel
theorem dX6_cut_7 : decode cX6_cut 7 = .ok (.sipush 200, 3) := by decide +kernel
theorem dX6_cut_10 : decode cX6_cut 10 = .ok (.if_icmp .ge 61, 3) := by decide +kernel
theorem dX6_cut_13 : decode cX6_cut 13 = .ok (.iload_n 2, 1) := by decide +kernel
theorem dX6_cut_14 : decode cX6_cut 14 = .ok (.aload_n 0, 1) := by decide +kernel
theorem dX6_cut_15 : decode cX6_cut 15 = .ok (.getfield 31, 3) := by decide +kernel
theorem dX6_cut_18 : decode cX6_cut 18 = .ok (.if_icmp .ge 53, 3) := by decide +kernel
theorem dX6_cut_21 : decode cX6_cut 21 = .ok (.aload_n 0, 1) := by decide +kernel
theorem dX6_cut_22 : decode cX6_cut 22 = .ok (.iload_n 2, 1) := by decide +kernel
theorem dX6_cut_23 : decode cX6_cut 23 = .ok (.invokevirtual 45, 3) := by decide +kernel
theorem dX6_cut_26 : decode cX6_cut 26 = .ok (.istore 4, 2) := by decide +kernel
theorem dX6_cut_28 : decode cX6_cut 28 = .ok (.aload_n 0, 1) := by decide +kernel
theorem dX6_cut_29 : decode cX6_cut 29 = .ok (.getfield 13, 3) := by decide +kernel
theorem dX6_cut_32 : decode cX6_cut 32 = .ok (.iload_n 2, 1) := by decide +kernel
theorem dX6_cut_33 : decode cX6_cut 33 = .ok (.iaload, 1) := by decide +kernel
theorem dX6_cut_34 : decode cX6_cut 34 = .ok (.bipush 32, 2) := by decide +kernel
theorem dX6_cut_36 : decode cX6_cut 36 = .ok (.if_icmp .eq 26, 3) := by decide +kernel
theorem dX6_cut_39 : decode cX6_cut 39 = .ok (.aload_n 0, 1) := by decide +kernel
theorem dX6_cut_40 : decode cX6_cut 40 = .ok (.getfield 17, 3) := by decide +kernel
theorem dX6_cut_43 : decode cX6_cut 43 = .ok (.iload_n 1, 1) := by decide +kernel
theorem dX6_cut_44 : decode cX6_cut 44 = .ok (.aload_n 0, 1) := by decide +kernel
theorem dX6_cut_45 : decode cX6_cut 45 = .ok (.iload_n 2, 1) := by decide +kernel
theorem dX6_cut_46 : decode cX6_cut 46 = .ok (.iload 4, 2) := by decide +kernel
theorem dX6_cut_48 : decode cX6_cut 48 = .ok (.invokevirtual 49, 3) := by decide +kernel
theorem dX6_cut_51 : decode cX6_cut 51 = .ok (.iastore, 1) := by decide +kernel
theorem dX6_cut_52 : decode cX6_cut 52 = .ok (.aload_n 0, 1) := by decide +kernel
theorem dX6_cut_53 : decode cX6_cut 53 = .ok (.getfield 20, 3) := by decide +kernel
theorem dX6_cut_56 : decode cX6_cut 56 = .ok (.iload_n 1, 1) := by decide +kernel
theorem dX6_cut_57 : decode cX6_cut 57 = .ok (.iload_n 2, 1) := by decide +kernel
theorem dX6_cut_58 : decode cX6_cut 58 = .ok (.iastore, 1) := by decide +kernel
theorem dX6_cut_59 : decode cX6_cut 59 = .ok (.iinc 1 1, 3) := by decide +kernel
theorem dX6_cut_62 : decode cX6_cut 62 = .ok (.iload 4, 2) := by decide +kernel
theorem dX6_cut_64 : decode cX6_cut 64 = .ok (.istore_n 2, 1) := by decide +kernel
theorem dX6_cut_65 : decode cX6_cut 65 = .ok (.iinc 3 1, 3) := by decide +kernel
theorem dX6_cut_68 : decode cX6_cut 68 = .ok (.goto (-62), 3) := by decide +kernel
theorem dX6_cut_71 : decode cX6_cut 71 = .ok (.aload_n 0, 1) := by decide +kernel
theorem dX6_cut_72 : decode cX6_cut 72 = .ok (.getfield 17, 3) := by decide +kernel
theorem dX6_cut_75 : decode cX6_cut 75 = .ok (.iload_n 1, 1) := by decide +kernel
theorem dX6_cut_76 : decode cX6_cut 76 = .ok (.sipush 30000, 3) := by decide +kernel
theorem dX6_cut_79 : decode cX6_cut 79 = .ok (.iastore, 1) := by decide +kernel
theorem dX6_cut_80 : decode cX6_cut 80 = .ok (.aload_n 0, 1) := by decide +kernel
theorem dX6_cut_81 : decode cX6_cut 81 = .ok (.getfield 20, 3) := by decide +kernel
theorem dX6_cut_84 : decode cX6_cut 84 = .ok (.iload_n 1, 1) := by decide +kernel
theorem dX6_cut_85 : decode cX6_cut 85 = .ok (.aload_n 0, 1) := by decide +kernel
theorem dX6_cut_86 : decode cX6_cut 86 = .ok (.getfield 31, 3) := by decide +kernel
theorem dX6_cut_89 : decode cX6_cut 89 = .ok (.iastore, 1) := by decide +kernel
theorem dX6_cut_90 : decode cX6_cut 90 = .ok (.return_, 1) := by decide +kernel
theorem dX6_endOf_0 : decode cX6_endOf 0 = .ok (.iload_n 1, 1) := by decide +kernel
theorem dX6_endOf_1 : decode cX6_endOf 1 = .ok (.iconst 1, 1) := by decide +kernel
theorem dX6_endOf_2 : decode cX6_endOf 2 = .ok (.iadd, 1) := by decide +kernel
theorem dX6_endOf_3 : decode cX6_endOf 3 = .ok (.istore_n 2, 1) := by decide +kernel
theorem dX6_endOf_4 : decode cX6_endOf 4 = .ok (.aload_n 0, 1) := by decide +kernel
theorem dX6_endOf_5 : decode cX6_endOf 5 = .ok (.getfield 13, 3) := by decide +kernel
theorem dX6_endOf_8 : decode cX6_endOf 8 = .ok (.iload_n 1, 1) := by decide +kernel
theorem dX6_endOf_9 : decode cX6_endOf 9 = .ok (.iaload, 1) := by decide +kernel
theorem dX6_endOf_10 : decode cX6_endOf 10 = .ok (.invokestatic 53, 3) := by decide +kernel
theorem dX6_endOf_13 : decode cX6_endOf 13 = .ok (.ifCond .eq 29, 3) := by decide +kernel
theorem dX6_endOf_16 : decode cX6_endOf 16 = .ok (.iload_n 2, 1) := by decide +kernel
theorem dX6_endOf_17 : decode cX6_endOf 17 = .ok (.aload_n 0, 1) := by decide +kernel
theorem dX6_endOf_18 : decode cX6_endOf 18 = .ok (.getfield 31, 3) := by decide +kernel
theorem dX6_endOf_21 : decode cX6_endOf 21 = .ok (.if_icmp .ge 59, 3) := by decide +kernel
theorem dX6_endOf_24 : decode cX6_endOf 24 = .ok (.aload_n 0, 1) := by decide +kernel
theorem dX6_endOf_25 : decode cX6_endOf 25 = .ok (.getfield 13, 3) := by decide +kernel
theorem dX6_endOf_28 : decode cX6_endOf 28 = .ok (.iload_n 2, 1) := by decide +kernel
theorem dX6_endOf_29 : decode cX6_endOf 29 = .ok (.iaload, 1) := by decide +kernel
theorem dX6_endOf_30 : decode cX6_endOf 30 = .ok (.invokestatic 53, 3) := by decide +kernel
theorem dX6_endOf_33 : decode cX6_endOf 33 = .ok (.ifCond .eq 47, 3) := by decide +kernel
theorem dX6_endOf_36 : decode cX6_endOf 36 = .ok (.iinc 2 1, 3) := by decide +kernel
theorem dX6_endOf_39 : decode cX6_endOf 39 = .ok (.goto (-23), 3) := by decide +kernel
theorem dX6_endOf_42 : decode cX6_endOf 42 = .ok (.aload_n 0, 1) := by decide +kernel
theorem dX6_endOf_43 : decode cX6_endOf 43 = .ok (.getfield 13, 3) := by decide +kernel
theorem dX6_endOf_46 : decode cX6_endOf 46 = .ok (.iload_n 1, 1) := by decide +kernel
theorem dX6_endOf_47 : decode cX6_endOf 47 = .ok (.iaload, 1) := by decide +kernel
theorem dX6_endOf_48 : decode cX6_endOf 48 = .ok (.invokestatic 57, 3) := by decide +kernel
theorem dX6_endOf_51 : decode cX6_endOf 51 = .ok (.ifCond .eq 29, 3) := by decide +kernel
theorem dX6_endOf_54 : decode cX6_endOf 54 = .ok (.iload_n 2, 1) := by decide +kernel
theorem dX6_endOf_55 : decode cX6_endOf 55 = .ok (.aload_n 0, 1) := by decide +kernel
theorem dX6_endOf_56 : decode cX6_endOf 56 = .ok (.getfield 31, 3) := by decide +kernel
theorem dX6_endOf_59 : decode cX6_endOf 59 = .ok (.if_icmp .ge 21, 3) := by decide +kernel
theorem dX6_endOf_62 : decode cX6_endOf 62 = .ok (.aload_n 0, 1) := by decide +kernel
theorem dX6_endOf_63 : decode cX6_endOf 63 = .ok (.getfield 13, 3) := by decide +kernel
theorem dX6_endOf_66 : decode cX6_endOf 66 = .ok (.iload_n 2, 1) := by decide +kernel
theorem dX6_endOf_67 : decode cX6_endOf 67 = .ok (.iaload, 1) := by decide +kernel
theorem dX6_endOf_68 : decode cX6_endOf 68 = .ok (.invokestatic 57, 3) := by decide +kernel
theorem dX6_endOf_71 : decode cX6_endOf 71 = .ok (.ifCond .eq 9, 3) := by decide +kernel
theorem dX6_endOf_74 : decode cX6_endOf 74 = .ok (.iinc 2 1, 3) := by decide +kernel
theorem dX6_endOf_77 : decode cX6_endOf 77 = .ok (.goto (-23), 3) := by decide +kernel
theorem dX6_endOf_80 : decode cX6_endOf 80 = .ok (.iload_n 2, 1) := by decide +kernel
theorem dX6_endOf_81 : decode cX6_endOf 81 = .ok (.ireturn, 1) := by decide +kernel
theorem dX6_codeOf_0 : decode cX6_codeOf 0 = .ok (.aload_n 0, 1) := by decide +kernel
theorem dX6_codeOf_1 : decode cX6_codeOf 1 = .ok (.getfield 13, 3) := by decide +kernel
theorem dX6_codeOf_4 : decode cX6_codeOf 4 = .ok (.iload_n 1, 1) := by decide +kernel
theorem dX6_codeOf_5 : decode cX6_codeOf 5 = .ok (.iaload, 1) := by decide +kernel
theorem dX6_codeOf_6 : decode cX6_codeOf 6 = .ok (.invokestatic 53, 3) := by decide +kernel
theorem dX6_codeOf_9 : decode cX6_codeOf 9 = .ok (.ifCond .eq 39, 3) := by decide +kernel
theorem dX6_codeOf_12 : decode cX6_codeOf 12 = .ok (.sipush 10000, 3) := by decide +kernel
theorem dX6_codeOf_15 : decode cX6_codeOf 15 = .ok (.istore_n 3, 1) := by decide +kernel
theorem dX6_codeOf_16 : decode cX6_codeOf 16 = .ok (.iload_n 3, 1) := by decide +kernel
theorem dX6_codeOf_17 : decode cX6_codeOf 17 = .ok (.sipush 10018, 3) := by decide +kernel
theorem dX6_codeOf_20 : decode cX6_codeOf 20 = .ok (.if_icmp .ge 24, 3) := by decide +kernel
theorem dX6_codeOf_23 : decode cX6_codeOf 23 = .ok (.aload_n 0, 1) := by decide +kernel
theorem dX6_codeOf_24 : decode cX6_codeOf 24 = .ok (.iload_n 3, 1) := by decide +kernel
theorem dX6_codeOf_25 : decode cX6_codeOf 25 = .ok (.invokestatic 60, 3) := by decide +kernel
theorem dX6_codeOf_28 : decode cX6_codeOf 28 = .ok (.iload_n 1, 1) := by decide +kernel
theorem dX6_codeOf_29 : decode cX6_codeOf 29 = .ok (.iload_n 2, 1) := by decide +kernel
theorem dX6_codeOf_30 : decode cX6_codeOf 30 = .ok (.invokevirtual 64, 3) := by decide +kernel
theorem dX6_codeOf_33 : decode cX6_codeOf 33 = .ok (.ifCond .eq 5, 3) := by decide +kernel
theorem dX6_codeOf_36 : decode cX6_codeOf 36 = .ok (.iload_n 3, 1) := by decide +kernel
theorem dX6_codeOf_37 : decode cX6_codeOf 37 = .ok (.ireturn, 1) := by decide +kernel
theorem dX6_codeOf_38 : decode cX6_codeOf 38 = .ok (.iinc 3 1, 3) := by decide +kernel
theorem dX6_codeOf_41 : decode cX6_codeOf 41 = .ok (.goto (-25), 3) := by decide +kernel
theorem dX6_codeOf_44 : decode cX6_codeOf 44 = .ok (.sipush 30001, 3) := by decide +kernel
theorem dX6_codeOf_47 : decode cX6_codeOf 47 = .ok (.ireturn, 1) := by decide +kernel
theorem dX6_codeOf_48 : decode cX6_codeOf 48 = .ok (.aload_n 0, 1) := by decide +kernel
theorem dX6_codeOf_49 : decode cX6_codeOf 49 = .ok (.getfield 13, 3) := by decide +kernel
theorem dX6_codeOf_52 : decode cX6_codeOf 52 = .ok (.iload_n 1, 1) := by decide +kernel
theorem dX6_codeOf_53 : decode cX6_codeOf 53 = .ok (.iaload, 1) := by decide +kernel
theorem dX6_codeOf_54 : decode cX6_codeOf 54 = .ok (.invokestatic 57, 3) := by decide +kernel
theorem dX6_codeOf_57 : decode cX6_codeOf 57 = .ok (.ifCond .ne 14, 3) := by decide +kernel
theorem dX6_codeOf_60 : decode cX6_codeOf 60 = .ok (.sipush 20000, 3) := by decide +kernel
theorem dX6_codeOf_63 : decode cX6_codeOf 63 = .ok (.aload_n 0, 1) := by decide +kernel
theorem dX6_codeOf_64 : decode cX6_codeOf 64 = .ok (.getfield 13, 3) := by decide +kernel
theorem dX6_codeOf_67 : decode cX6_codeOf 67 = .ok (.iload_n 1, 1) := by decide +kernel
theorem dX6_codeOf_68 : decode cX6_codeOf 68 = .ok (.iaload, 1) := by decide +kernel
theorem dX6_codeOf_69 : decode cX6_codeOf 69 = .ok (.iadd, 1) := by decide +kernel
theorem dX6_codeOf_70 : decode cX6_codeOf 70 = .ok (.ireturn, 1) := by decide +kernel
theorem dX6_codeOf_71 : decode cX6_codeOf 71 = .ok (.iload_n 2, 1) := by decide +kernel
theorem dX6_codeOf_72 : decode cX6_codeOf 72 = .ok (.iload_n 1, 1) := by decide +kernel
theorem dX6_codeOf_73 : decode cX6_codeOf 73 = .ok (.isub, 1) := by decide +kernel
theorem dX6_codeOf_74 : decode cX6_codeOf 74 = .ok (.iconst 4, 1) := by decide +kernel
theorem dX6_codeOf_75 : decode cX6_codeOf 75 = .ok (.if_icmp .le 7, 3) := by decide +kernel
theorem dX6_codeOf_78 : decode cX6_codeOf 78 = .ok (.sipush 30001, 3) := by decide +kernel
theorem dX6_codeOf_81 : decode cX6_codeOf 81 = .ok (.ireturn, 1) := by decide +kernel
theorem dX6_codeOf_82 : decode cX6_codeOf 82 = .ok (.iconst 0, 1) := by decide +kernel
theorem dX6_codeOf_83 : decode cX6_codeOf 83 = .ok (.istore_n 3, 1) := by decide +kernel
theorem dX6_codeOf_84 : decode cX6_codeOf 84 = .ok (.iload_n 1, 1) := by decide +kernel
theorem dX6_codeOf_85 : decode cX6_codeOf 85 = .ok (.istore 4, 2) := by decide +kernel
theorem dX6_codeOf_87 : decode cX6_codeOf 87 = .ok (.iload 4, 2) := by decide +kernel
theorem dX6_codeOf_89 : decode cX6_codeOf 89 = .ok (.iload_n 2, 1) := by decide +kernel
theorem dX6_codeOf_90 : decode cX6_codeOf 90 = .ok (.if_icmp .ge 25, 3) := by decide +kernel
theorem dX6_codeOf_93 : decode cX6_codeOf 93 = .ok (.iload_n 3, 1) := by decide +kernel
theorem dX6_codeOf_94 : decode cX6_codeOf 94 = .ok (.bipush 10, 2) := by decide +kernel
theorem dX6_codeOf_96 : decode cX6_codeOf 96 = .ok (.imul, 1) := by decide +kernel
theorem dX6_codeOf_97 : decode cX6_codeOf 97 = .ok (.aload_n 0, 1) := by decide +kernel
theorem dX6_codeOf_98 : decode cX6_codeOf 98 = .ok (.getfield 13, 3) := by decide +kernel
theorem dX6_codeOf_101 : decode cX6_codeOf 101 = .ok (.iload 4, 2) := by decide +kernel
theorem dX6_codeOf_103 : decode cX6_codeOf 103 = .ok (.iaload, 1) := by decide +kernel
theorem dX6_codeOf_104 : decode cX6_codeOf 104 = .ok (.iadd, 1) := by decide +kernel
theorem dX6_codeOf_105 : decode cX6_codeOf 105 = .ok (.bipush 48, 2) := by decide +kernel
theorem dX6_codeOf_107 : decode cX6_codeOf 107 = .ok (.isub, 1) := by decide +kernel
theorem dX6_codeOf_108 : decode cX6_codeOf 108 = .ok (.istore_n 3, 1) := by decide +kernel
theorem dX6_codeOf_109 : decode cX6_codeOf 109 = .ok (.iinc 4 1, 3) := by decide +kernel
theorem dX6_codeOf_112 : decode cX6_codeOf 112 = .ok (.goto (-25), 3) := by decide +kernel
theorem dX6_codeOf_115 : decode cX6_codeOf 115 = .ok (.iload_n 3, 1) := by decide +kernel
theorem dX6_codeOf_116 : decode cX6_codeOf 116 = .ok (.ireturn, 1) := by decide +kernel
theorem dX6_isSame_0 : decode cX6_isSame 0 = .ok (.aload_n 1, 1) := by decide +kernel
theorem dX6_isSame_1 : decode cX6_isSame 1 = .ok (.invokevirtual 68, 3) := by decide +kernel
theorem dX6_isSame_4 : decode cX6_isSame 4 = .ok (.iload_n 3, 1) := by decide +kernel
theorem dX6_isSame_5 : decode cX6_isSame 5 = .ok (.iload_n 2, 1) := by decide +kernel
theorem dX6_isSame_6 : decode cX6_isSame 6 = .ok (.isub, 1) := by decide +kernel
theorem dX6_isSame_7 : decode cX6_isSame 7 = .ok (.if_icmp .eq 5, 3) := by decide +kernel
theorem dX6_isSame_10 : decode cX6_isSame 10 = .ok (.iconst 0, 1) := by decide +kernel
theorem dX6_isSame_11 : decode cX6_isSame 11 = .ok (.ireturn, 1) := by decide +kernel
theorem dX6_isSame_12 : decode cX6_isSame 12 = .ok (.iload_n 2, 1) := by decide +kernel
theorem dX6_isSame_13 : decode cX6_isSame 13 = .ok (.istore 4, 2) := by decide +kernel
theorem dX6_isSame_15 : decode cX6_isSame 15 = .ok (.iload 4, 2) := by decide +kernel
theorem dX6_isSame_17 : decode cX6_isSame 17 = .ok (.iload_n 3, 1) := by decide +kernel
theorem dX6_isSame_18 : decode cX6_isSame 18 = .ok (.if_icmp .ge 29, 3) := by decide +kernel
theorem dX6_isSame_21 : decode cX6_isSame 21 = .ok (.aload_n 1, 1) := by decide +kernel
theorem dX6_isSame_22 : decode cX6_isSame 22 = .ok (.iload 4, 2) := by decide +kernel
theorem dX6_isSame_24 : decode cX6_isSame 24 = .ok (.iload_n 2, 1) := by decide +kernel
theorem dX6_isSame_25 : decode cX6_isSame 25 = .ok (.isub, 1) := by decide +kernel
theorem dX6_isSame_26 : decode cX6_isSame 26 = .ok (.invokevirtual 74, 3) := by decide +kernel
theorem dX6_isSame_29 : decode cX6_isSame 29 = .ok (.aload_n 0, 1) := by decide +kernel
theorem dX6_isSame_30 : decode cX6_isSame 30 = .ok (.getfield 13, 3) := by decide +kernel
theorem dX6_isSame_33 : decode cX6_isSame 33 = .ok (.iload 4, 2) := by decide +kernel
theorem dX6_isSame_35 : decode cX6_isSame 35 = .ok (.iaload, 1) := by decide +kernel
theorem dX6_isSame_36 : decode cX6_isSame 36 = .ok (.if_icmp .eq 5, 3) := by decide +kernel
theorem dX6_isSame_39 : decode cX6_isSame 39 = .ok (.iconst 0, 1) := by decide +kernel
theorem dX6_isSame_40 : decode cX6_isSame 40 = .ok (.ireturn, 1) := by decide +kernel
theorem dX6_isSame_41 : decode cX6_isSame 41 = .ok (.iinc 4 1, 3) := by decide +kernel
theorem dX6_isSame_44 : decode cX6_isSame 44 = .ok (.goto (-29), 3) := by decide +kernel
theorem dX6_isSame_47 : decode cX6_isSame 47 = .ok (.iconst 1, 1) := by decide +kernel
theorem dX6_isSame_48 : decode cX6_isSame 48 = .ok (.ireturn, 1) := by decide +kernel
theorem dX6_isLetter_0 : decode cX6_isLetter 0 = .ok (.iload_n 0, 1) := by decide +kernel
theorem dX6_isLetter_1 : decode cX6_isLetter 1 = .ok (.bipush 97, 2) := by decide +kernel
theorem dX6_isLetter_3 : decode cX6_isLetter 3 = .ok (.if_icmp .lt 13, 3) := by decide +kernel
theorem dX6_isLetter_6 : decode cX6_isLetter 6 = .ok (.iload_n 0, 1) := by decide +kernel
theorem dX6_isLetter_7 : decode cX6_isLetter 7 = .ok (.bipush 122, 2) := by decide +kernel
theorem dX6_isLetter_9 : decode cX6_isLetter 9 = .ok (.if_icmp .gt 7, 3) := by decide +kernel
theorem dX6_isLetter_12 : decode cX6_isLetter 12 = .ok (.iconst 1, 1) := by decide +kernel
theorem dX6_isLetter_13 : decode cX6_isLetter 13 = .ok (.goto 4, 3) := by decide +kernel
theorem dX6_isLetter_16 : decode cX6_isLetter 16 = .ok (.iconst 0, 1) := by decide +kernel
theorem dX6_isLetter_17 : decode cX6_isLetter 17 = .ok (.ireturn, 1) := by decide +kernel
theorem dX6_isDigit_0 : decode cX6_isDigit 0 = .ok (.iload_n 0, 1) := by decide +kernel
theorem dX6_isDigit_1 : decode cX6_isDigit 1 = .ok (.bipush 48, 2) := by decide +kernel
theorem dX6_isDigit_3 : decode cX6_isDigit 3 = .ok (.if_icmp .lt 13, 3) := by decide +kernel
theorem dX6_isDigit_6 : decode cX6_isDigit 6 = .ok (.iload_n 0, 1) := by decide +kernel
theorem dX6_isDigit_7 : decode cX6_isDigit 7 = .ok (.bipush 57, 2) := by decide +kernel
theorem dX6_isDigit_9 : decode cX6_isDigit 9 = .ok (.if_icmp .gt 7, 3) := by decide +kernel
theorem dX6_isDigit_12 : decode cX6_isDigit 12 = .ok (.iconst 1, 1) := by decide +kernel
theorem dX6_isDigit_13 : decode cX6_isDigit 13 = .ok (.goto 4, 3) := by decide +kernel
theorem dX6_isDigit_16 : decode cX6_isDigit 16 = .ok (.iconst 0, 1) := by decide +kernel
theorem dX6_isDigit_17 : decode cX6_isDigit 17 = .ok (.ireturn, 1) := by decide +kernel
theorem dX6_wordOf_0 : decode cX6_wordOf 0 = .ok (.iload_n 0, 1) := by decide +kernel
theorem dX6_wordOf_1 : decode cX6_wordOf 1 = .ok (.tableswitch 141 10000 10017 #[87, 90, 93, 96, 99, 102, 105, 108, 111, 114, 117, 120, 123, 126, 129, 132, 135, 138], 87) := by decide +kernel
theorem dX6_wordOf_88 : decode cX6_wordOf 88 = .ok (.ldc 78, 2) := by decide +kernel
theorem dX6_wordOf_90 : decode cX6_wordOf 90 = .ok (.areturn, 1) := by decide +kernel
theorem dX6_wordOf_91 : decode cX6_wordOf 91 = .ok (.ldc 80, 2) := by decide +kernel
theorem dX6_wordOf_93 : decode cX6_wordOf 93 = .ok (.areturn, 1) := by decide +kernel
theorem dX6_wordOf_94 : decode cX6_wordOf 94 = .ok (.ldc 82, 2) := by decide +kernel
theorem dX6_wordOf_96 : decode cX6_wordOf 96 = .ok (.areturn, 1) := by decide +kernel
theorem dX6_wordOf_97 : decode cX6_wordOf 97 = .ok (.ldc 84, 2) := by decide +kernel
theorem dX6_wordOf_99 : decode cX6_wordOf 99 = .ok (.areturn, 1) := by decide +kernel
theorem dX6_wordOf_100 : decode cX6_wordOf 100 = .ok (.ldc 86, 2) := by decide +kernel
theorem dX6_wordOf_102 : decode cX6_wordOf 102 = .ok (.areturn, 1) := by decide +kernel
theorem dX6_wordOf_103 : decode cX6_wordOf 103 = .ok (.ldc 88, 2) := by decide +kernel
theorem dX6_wordOf_105 : decode cX6_wordOf 105 = .ok (.areturn, 1) := by decide +kernel
theorem dX6_wordOf_106 : decode cX6_wordOf 106 = .ok (.ldc 90, 2) := by decide +kernel
theorem dX6_wordOf_108 : decode cX6_wordOf 108 = .ok (.areturn, 1) := by decide +kernel
theorem dX6_wordOf_109 : decode cX6_wordOf 109 = .ok (.ldc 92, 2) := by decide +kernel
theorem dX6_wordOf_111 : decode cX6_wordOf 111 = .ok (.areturn, 1) := by decide +kernel
theorem dX6_wordOf_112 : decode cX6_wordOf 112 = .ok (.ldc 94, 2) := by decide +kernel
theorem dX6_wordOf_114 : decode cX6_wordOf 114 = .ok (.areturn, 1) := by decide +kernel
theorem dX6_wordOf_115 : decode cX6_wordOf 115 = .ok (.ldc 96, 2) := by decide +kernel
theorem dX6_wordOf_117 : decode cX6_wordOf 117 = .ok (.areturn, 1) := by decide +kernel
theorem dX6_wordOf_118 : decode cX6_wordOf 118 = .ok (.ldc 98, 2) := by decide +kernel
theorem dX6_wordOf_120 : decode cX6_wordOf 120 = .ok (.areturn, 1) := by decide +kernel
theorem dX6_wordOf_121 : decode cX6_wordOf 121 = .ok (.ldc 100, 2) := by decide +kernel
theorem dX6_wordOf_123 : decode cX6_wordOf 123 = .ok (.areturn, 1) := by decide +kernel
theorem dX6_wordOf_124 : decode cX6_wordOf 124 = .ok (.ldc 102, 2) := by decide +kernel
theorem dX6_wordOf_126 : decode cX6_wordOf 126 = .ok (.areturn, 1) := by decide +kernel
theorem dX6_wordOf_127 : decode cX6_wordOf 127 = .ok (.ldc 104, 2) := by decide +kernel
theorem dX6_wordOf_129 : decode cX6_wordOf 129 = .ok (.areturn, 1) := by decide +kernel
theorem dX6_wordOf_130 : decode cX6_wordOf 130 = .ok (.ldc 106, 2) := by decide +kernel
theorem dX6_wordOf_132 : decode cX6_wordOf 132 = .ok (.areturn, 1) := by decide +kernel
theorem dX6_wordOf_133 : decode cX6_wordOf 133 = .ok (.ldc 108, 2) := by decide +kernel
theorem dX6_wordOf_135 : decode cX6_wordOf 135 = .ok (.areturn, 1) := by decide +kernel
theorem dX6_wordOf_136 : decode cX6_wordOf 136 = .ok (.ldc 110, 2) := by decide +kernel
theorem dX6_wordOf_138 : decode cX6_wordOf 138 = .ok (.areturn, 1) := by decide +kernel
theorem dX6_wordOf_139 : decode cX6_wordOf 139 = .ok (.ldc 112, 2) := by decide +kernel
theorem dX6_wordOf_141 : decode cX6_wordOf 141 = .ok (.areturn, 1) := by decide +kernel
theorem dX6_wordOf_142 : decode cX6_wordOf 142 = .ok (.ldc 114, 2) := by decide +kernel
theorem dX6_wordOf_144 : decode cX6_wordOf 144 = .ok (.areturn, 1) := by decide +kernel
theorem dX6_readRule_0 : decode cX6_readRule 0 = .ok (.aload_n 0, 1) := by decide +kernel
theorem dX6_readRule_1 : decode cX6_readRule 1 = .ok (.getfield 17, 3) := by decide +kernel
theorem dX6_readRule_4 : decode cX6_readRule 4 = .ok (.aload_n 0, 1) := by decide +kernel
theorem dX6_readRule_5 : decode cX6_readRule 5 = .ok (.getfield 35, 3) := by decide +kernel
theorem dX6_readRule_8 : decode cX6_readRule 8 = .ok (.iaload, 1) := by decide +kernel
theorem dX6_readRule_9 : decode cX6_readRule 9 = .ok (.sipush 10005, 3) := by decide +kernel
theorem dX6_readRule_12 : decode cX6_readRule 12 = .ok (.isub, 1) := by decide +kernel
theorem dX6_readRule_13 : decode cX6_readRule 13 = .ok (.istore_n 1, 1) := by decide +kernel
theorem dX6_readRule_14 : decode cX6_readRule 14 = .ok (.iload_n 1, 1) := by decide +kernel
theorem dX6_readRule_15 : decode cX6_readRule 15 = .ok (.iconst 0, 1) := by decide +kernel
theorem dX6_readRule_16 : decode cX6_readRule 16 = .ok (.iconst 5, 1) := by decide +kernel
theorem dX6_readRule_17 : decode cX6_readRule 17 = .ok (.invokestatic 116, 3) := by decide +kernel
theorem dX6_readRule_20 : decode cX6_readRule 20 = .ok (.ifCond .ne 5, 3) := by decide +kernel
theorem dX6_readRule_23 : decode cX6_readRule 23 = .ok (.iconst 0, 1) := by decide +kernel
theorem dX6_readRule_24 : decode cX6_readRule 24 = .ok (.ireturn, 1) := by decide +kernel
theorem dX6_readRule_25 : decode cX6_readRule 25 = .ok (.aload_n 0, 1) := by decide +kernel
theorem dX6_readRule_26 : decode cX6_readRule 26 = .ok (.dup, 1) := by decide +kernel
theorem dX6_readRule_27 : decode cX6_readRule 27 = .ok (.getfield 35, 3) := by decide +kernel
theorem dX6_readRule_30 : decode cX6_readRule 30 = .ok (.iconst 1, 1) := by decide +kernel
theorem dX6_readRule_31 : decode cX6_readRule 31 = .ok (.iadd, 1) := by decide +kernel
theorem dX6_readRule_32 : decode cX6_readRule 32 = .ok (.putfield 35, 3) := by decide +kernel
theorem dX6_readRule_35 : decode cX6_readRule 35 = .ok (.aload_n 0, 1) := by decide +kernel
theorem dX6_readRule_36 : decode cX6_readRule 36 = .ok (.getfield 17, 3) := by decide +kernel
theorem dX6_readRule_39 : decode cX6_readRule 39 = .ok (.aload_n 0, 1) := by decide +kernel
theorem dX6_readRule_40 : decode cX6_readRule 40 = .ok (.getfield 35, 3) := by decide +kernel
theorem dX6_readRule_43 : decode cX6_readRule 43 = .ok (.iaload, 1) := by decide +kernel
theorem dX6_readRule_44 : decode cX6_readRule 44 = .ok (.sipush 10011, 3) := by decide +kernel
theorem dX6_readRule_47 : decode cX6_readRule 47 = .ok (.if_icmp .ne 23, 3) := by decide +kernel
theorem dX6_readRule_50 : decode cX6_readRule 50 = .ok (.aload_n 0, 1) := by decide +kernel
theorem dX6_readRule_51 : decode cX6_readRule 51 = .ok (.dup, 1) := by decide +kernel
theorem dX6_readRule_52 : decode cX6_readRule 52 = .ok (.getfield 35, 3) := by decide +kernel
theorem dX6_readRule_55 : decode cX6_readRule 55 = .ok (.iconst 1, 1) := by decide +kernel
theorem dX6_readRule_56 : decode cX6_readRule 56 = .ok (.iadd, 1) := by decide +kernel
theorem dX6_readRule_57 : decode cX6_readRule 57 = .ok (.putfield 35, 3) := by decide +kernel
theorem dX6_readRule_60 : decode cX6_readRule 60 = .ok (.aload_n 0, 1) := by decide +kernel
theorem dX6_readRule_61 : decode cX6_readRule 61 = .ok (.iconst 0, 1) := by decide +kernel
theorem dX6_readRule_62 : decode cX6_readRule 62 = .ok (.invokevirtual 120, 3) := by decide +kernel
theorem dX6_readRule_65 : decode cX6_readRule 65 = .ok (.ifCond .ne 5, 3) := by decide +kernel
theorem dX6_readRule_68 : decode cX6_readRule 68 = .ok (.iconst 0, 1) := by decide +kernel
theorem dX6_readRule_69 : decode cX6_readRule 69 = .ok (.ireturn, 1) := by decide +kernel
theorem dX6_readRule_70 : decode cX6_readRule 70 = .ok (.aload_n 0, 1) := by decide +kernel
theorem dX6_readRule_71 : decode cX6_readRule 71 = .ok (.getfield 17, 3) := by decide +kernel
theorem dX6_readRule_74 : decode cX6_readRule 74 = .ok (.aload_n 0, 1) := by decide +kernel
theorem dX6_readRule_75 : decode cX6_readRule 75 = .ok (.getfield 35, 3) := by decide +kernel
theorem dX6_readRule_78 : decode cX6_readRule 78 = .ok (.iaload, 1) := by decide +kernel
theorem dX6_readRule_79 : decode cX6_readRule 79 = .ok (.istore_n 2, 1) := by decide +kernel
theorem dX6_readRule_80 : decode cX6_readRule 80 = .ok (.iload_n 2, 1) := by decide +kernel
theorem dX6_readRule_81 : decode cX6_readRule 81 = .ok (.sipush 10012, 3) := by decide +kernel
theorem dX6_readRule_84 : decode cX6_readRule 84 = .ok (.if_icmp .eq 19, 3) := by decide +kernel
theorem dX6_readRule_87 : decode cX6_readRule 87 = .ok (.iload_n 2, 1) := by decide +kernel
theorem dX6_readRule_88 : decode cX6_readRule 88 = .ok (.sipush 10013, 3) := by decide +kernel
theorem dX6_readRule_91 : decode cX6_readRule 91 = .ok (.if_icmp .eq 12, 3) := by decide +kernel
theorem dX6_readRule_94 : decode cX6_readRule 94 = .ok (.iload_n 2, 1) := by decide +kernel
theorem dX6_readRule_95 : decode cX6_readRule 95 = .ok (.sipush 10014, 3) := by decide +kernel
theorem dX6_readRule_98 : decode cX6_readRule 98 = .ok (.if_icmp .eq 5, 3) := by decide +kernel
theorem dX6_readRule_101 : decode cX6_readRule 101 = .ok (.iconst 0, 1) := by decide +kernel
theorem dX6_readRule_102 : decode cX6_readRule 102 = .ok (.ireturn, 1) := by decide +kernel
theorem dX6_readRule_103 : decode cX6_readRule 103 = .ok (.aload_n 0, 1) := by decide +kernel
theorem dX6_readRule_104 : decode cX6_readRule 104 = .ok (.dup, 1) := by decide +kernel
theorem dX6_readRule_105 : decode cX6_readRule 105 = .ok (.getfield 35, 3) := by decide +kernel
theorem dX6_readRule_108 : decode cX6_readRule 108 = .ok (.iconst 1, 1) := by decide +kernel
theorem dX6_readRule_109 : decode cX6_readRule 109 = .ok (.iadd, 1) := by decide +kernel
theorem dX6_readRule_110 : decode cX6_readRule 110 = .ok (.putfield 35, 3) := by decide +kernel
theorem dX6_readRule_113 : decode cX6_readRule 113 = .ok (.iconst 0, 1) := by decide +kernel
theorem dX6_readRule_114 : decode cX6_readRule 114 = .ok (.istore_n 3, 1) := by decide +kernel
theorem dX6_readRule_115 : decode cX6_readRule 115 = .ok (.iload_n 2, 1) := by decide +kernel
theorem dX6_readRule_116 : decode cX6_readRule 116 = .ok (.sipush 10014, 3) := by decide +kernel
theorem dX6_readRule_119 : decode cX6_readRule 119 = .ok (.if_icmp .eq 35, 3) := by decide +kernel
theorem dX6_readRule_122 : decode cX6_readRule 122 = .ok (.aload_n 0, 1) := by decide +kernel
theorem dX6_readRule_123 : decode cX6_readRule 123 = .ok (.getfield 17, 3) := by decide +kernel
theorem dX6_readRule_126 : decode cX6_readRule 126 = .ok (.aload_n 0, 1) := by decide +kernel
theorem dX6_readRule_127 : decode cX6_readRule 127 = .ok (.getfield 35, 3) := by decide +kernel
theorem dX6_readRule_130 : decode cX6_readRule 130 = .ok (.iaload, 1) := by decide +kernel
theorem dX6_readRule_131 : decode cX6_readRule 131 = .ok (.istore_n 3, 1) := by decide +kernel
theorem dX6_readRule_132 : decode cX6_readRule 132 = .ok (.iload_n 3, 1) := by decide +kernel
theorem dX6_readRule_133 : decode cX6_readRule 133 = .ok (.iconst 0, 1) := by decide +kernel
theorem dX6_readRule_134 : decode cX6_readRule 134 = .ok (.bipush 99, 2) := by decide +kernel
theorem dX6_readRule_136 : decode cX6_readRule 136 = .ok (.invokestatic 116, 3) := by decide +kernel
theorem dX6_readRule_139 : decode cX6_readRule 139 = .ok (.ifCond .ne 5, 3) := by decide +kernel
theorem dX6_readRule_142 : decode cX6_readRule 142 = .ok (.iconst 0, 1) := by decide +kernel
theorem dX6_readRule_143 : decode cX6_readRule 143 = .ok (.ireturn, 1) := by decide +kernel
theorem dX6_readRule_144 : decode cX6_readRule 144 = .ok (.aload_n 0, 1) := by decide +kernel
theorem dX6_readRule_145 : decode cX6_readRule 145 = .ok (.dup, 1) := by decide +kernel
theorem dX6_readRule_146 : decode cX6_readRule 146 = .ok (.getfield 35, 3) := by decide +kernel
theorem dX6_readRule_149 : decode cX6_readRule 149 = .ok (.iconst 1, 1) := by decide +kernel
theorem dX6_readRule_150 : decode cX6_readRule 150 = .ok (.iadd, 1) := by decide +kernel
theorem dX6_readRule_151 : decode cX6_readRule 151 = .ok (.putfield 35, 3) := by decide +kernel
theorem dX6_readRule_154 : decode cX6_readRule 154 = .ok (.aload_n 0, 1) := by decide +kernel
theorem dX6_readRule_155 : decode cX6_readRule 155 = .ok (.getfield 17, 3) := by decide +kernel
theorem dX6_readRule_158 : decode cX6_readRule 158 = .ok (.aload_n 0, 1) := by decide +kernel
theorem dX6_readRule_159 : decode cX6_readRule 159 = .ok (.getfield 35, 3) := by decide +kernel
theorem dX6_readRule_162 : decode cX6_readRule 162 = .ok (.iaload, 1) := by decide +kernel
theorem dX6_readRule_163 : decode cX6_readRule 163 = .ok (.sipush 20059, 3) := by decide +kernel
theorem dX6_readRule_166 : decode cX6_readRule 166 = .ok (.if_icmp .eq 5, 3) := by decide +kernel
theorem dX6_readRule_169 : decode cX6_readRule 169 = .ok (.iconst 0, 1) := by decide +kernel
theorem dX6_readRule_170 : decode cX6_readRule 170 = .ok (.ireturn, 1) := by decide +kernel
theorem dX6_readRule_171 : decode cX6_readRule 171 = .ok (.aload_n 0, 1) := by decide +kernel
theorem dX6_readRule_172 : decode cX6_readRule 172 = .ok (.dup, 1) := by decide +kernel
theorem dX6_readRule_173 : decode cX6_readRule 173 = .ok (.getfield 35, 3) := by decide +kernel
theorem dX6_readRule_176 : decode cX6_readRule 176 = .ok (.iconst 1, 1) := by decide +kernel
theorem dX6_readRule_177 : decode cX6_readRule 177 = .ok (.iadd, 1) := by decide +kernel
theorem dX6_readRule_178 : decode cX6_readRule 178 = .ok (.putfield 35, 3) := by decide +kernel
theorem dX6_readRule_181 : decode cX6_readRule 181 = .ok (.aload_n 0, 1) := by decide +kernel
theorem dX6_readRule_182 : decode cX6_readRule 182 = .ok (.getfield 24, 3) := by decide +kernel
theorem dX6_readRule_185 : decode cX6_readRule 185 = .ok (.iload_n 1, 1) := by decide +kernel
theorem dX6_readRule_186 : decode cX6_readRule 186 = .ok (.iload_n 2, 1) := by decide +kernel
theorem dX6_readRule_187 : decode cX6_readRule 187 = .ok (.iload_n 3, 1) := by decide +kernel
theorem dX6_readRule_188 : decode cX6_readRule 188 = .ok (.invokevirtual 123, 3) := by decide +kernel
theorem dX6_readRule_191 : decode cX6_readRule 191 = .ok (.iconst 1, 1) := by decide +kernel
theorem dX6_readRule_192 : decode cX6_readRule 192 = .ok (.ireturn, 1) := by decide +kernel
theorem dX6_readCondition_0 : decode cX6_readCondition 0 = .ok (.aload_n 0, 1) := by decide +kernel
theorem dX6_readCondition_1 : decode cX6_readCondition 1 = .ok (.iload_n 1, 1) := by decide +kernel
theorem dX6_readCondition_2 : decode cX6_readCondition 2 = .ok (.invokevirtual 127, 3) := by decide +kernel
theorem dX6_readCondition_5 : decode cX6_readCondition 5 = .ok (.istore_n 2, 1) := by decide +kernel
theorem dX6_readCondition_6 : decode cX6_readCondition 6 = .ok (.iconst 0, 1) := by decide +kernel
theorem dX6_readCondition_7 : decode cX6_readCondition 7 = .ok (.istore_n 3, 1) := by decide +kernel
theorem dX6_readCondition_8 : decode cX6_readCondition 8 = .ok (.iload_n 3, 1) := by decide +kernel
theorem dX6_readCondition_9 : decode cX6_readCondition 9 = .ok (.sipush 200, 3) := by decide +kernel
theorem dX6_readCondition_12 : decode cX6_readCondition 12 = .ok (.if_icmp .ge 53, 3) := by decide +kernel
theorem dX6_readCondition_15 : decode cX6_readCondition 15 = .ok (.iload_n 2, 1) := by decide +kernel
theorem dX6_readCondition_16 : decode cX6_readCondition 16 = .ok (.ifCond .eq 49, 3) := by decide +kernel
theorem dX6_readCondition_19 : decode cX6_readCondition 19 = .ok (.aload_n 0, 1) := by decide +kernel
theorem dX6_readCondition_20 : decode cX6_readCondition 20 = .ok (.getfield 17, 3) := by decide +kernel
theorem dX6_readCondition_23 : decode cX6_readCondition 23 = .ok (.aload_n 0, 1) := by decide +kernel
theorem dX6_readCondition_24 : decode cX6_readCondition 24 = .ok (.getfield 35, 3) := by decide +kernel
theorem dX6_readCondition_27 : decode cX6_readCondition 27 = .ok (.iaload, 1) := by decide +kernel
theorem dX6_readCondition_28 : decode cX6_readCondition 28 = .ok (.sipush 10015, 3) := by decide +kernel
theorem dX6_readCondition_31 : decode cX6_readCondition 31 = .ok (.if_icmp .ne 34, 3) := by decide +kernel
theorem dX6_readCondition_34 : decode cX6_readCondition 34 = .ok (.aload_n 0, 1) := by decide +kernel
theorem dX6_readCondition_35 : decode cX6_readCondition 35 = .ok (.dup, 1) := by decide +kernel
theorem dX6_readCondition_36 : decode cX6_readCondition 36 = .ok (.getfield 35, 3) := by decide +kernel
theorem dX6_readCondition_39 : decode cX6_readCondition 39 = .ok (.iconst 1, 1) := by decide +kernel
theorem dX6_readCondition_40 : decode cX6_readCondition 40 = .ok (.iadd, 1) := by decide +kernel
theorem dX6_readCondition_41 : decode cX6_readCondition 41 = .ok (.putfield 35, 3) := by decide +kernel
theorem dX6_readCondition_44 : decode cX6_readCondition 44 = .ok (.aload_n 0, 1) := by decide +kernel
theorem dX6_readCondition_45 : decode cX6_readCondition 45 = .ok (.iload_n 1, 1) := by decide +kernel
theorem dX6_readCondition_46 : decode cX6_readCondition 46 = .ok (.invokevirtual 127, 3) := by decide +kernel
theorem dX6_readCondition_49 : decode cX6_readCondition 49 = .ok (.istore_n 2, 1) := by decide +kernel
theorem dX6_readCondition_50 : decode cX6_readCondition 50 = .ok (.aload_n 0, 1) := by decide +kernel
theorem dX6_readCondition_51 : decode cX6_readCondition 51 = .ok (.getfield 24, 3) := by decide +kernel
theorem dX6_readCondition_54 : decode cX6_readCondition 54 = .ok (.bipush (-2), 2) := by decide +kernel
theorem dX6_readCondition_56 : decode cX6_readCondition 56 = .ok (.invokevirtual 130, 3) := by decide +kernel
theorem dX6_readCondition_59 : decode cX6_readCondition 59 = .ok (.iinc 3 1, 3) := by decide +kernel
theorem dX6_readCondition_62 : decode cX6_readCondition 62 = .ok (.goto (-54), 3) := by decide +kernel
theorem dX6_readCondition_65 : decode cX6_readCondition 65 = .ok (.iload_n 2, 1) := by decide +kernel
theorem dX6_readCondition_66 : decode cX6_readCondition 66 = .ok (.ireturn, 1) := by decide +kernel
theorem dX6_readAll_0 : decode cX6_readAll 0 = .ok (.aload_n 0, 1) := by decide +kernel
theorem dX6_readAll_1 : decode cX6_readAll 1 = .ok (.iload_n 1, 1) := by decide +kernel
theorem dX6_readAll_2 : decode cX6_readAll 2 = .ok (.invokevirtual 134, 3) := by decide +kernel
theorem dX6_readAll_5 : decode cX6_readAll 5 = .ok (.istore_n 2, 1) := by decide +kernel
theorem dX6_readAll_6 : decode cX6_readAll 6 = .ok (.iconst 0, 1) := by decide +kernel
theorem dX6_readAll_7 : decode cX6_readAll 7 = .ok (.istore_n 3, 1) := by decide +kernel
theorem dX6_readAll_8 : decode cX6_readAll 8 = .ok (.iload_n 3, 1) := by decide +kernel
theorem dX6_readAll_9 : decode cX6_readAll 9 = .ok (.sipush 200, 3) := by decide +kernel
theorem dX6_readAll_12 : decode cX6_readAll 12 = .ok (.if_icmp .ge 52, 3) := by decide +kernel
theorem dX6_readAll_15 : decode cX6_readAll 15 = .ok (.iload_n 2, 1) := by decide +kernel
theorem dX6_readAll_16 : decode cX6_readAll 16 = .ok (.ifCond .eq 48, 3) := by decide +kernel
theorem dX6_readAll_19 : decode cX6_readAll 19 = .ok (.aload_n 0, 1) := by decide +kernel
theorem dX6_readAll_20 : decode cX6_readAll 20 = .ok (.getfield 17, 3) := by decide +kernel
theorem dX6_readAll_23 : decode cX6_readAll 23 = .ok (.aload_n 0, 1) := by decide +kernel
theorem dX6_readAll_24 : decode cX6_readAll 24 = .ok (.getfield 35, 3) := by decide +kernel
theorem dX6_readAll_27 : decode cX6_readAll 27 = .ok (.iaload, 1) := by decide +kernel
theorem dX6_readAll_28 : decode cX6_readAll 28 = .ok (.sipush 10016, 3) := by decide +kernel
theorem dX6_readAll_31 : decode cX6_readAll 31 = .ok (.if_icmp .ne 33, 3) := by decide +kernel
theorem dX6_readAll_34 : decode cX6_readAll 34 = .ok (.aload_n 0, 1) := by decide +kernel
theorem dX6_readAll_35 : decode cX6_readAll 35 = .ok (.dup, 1) := by decide +kernel
theorem dX6_readAll_36 : decode cX6_readAll 36 = .ok (.getfield 35, 3) := by decide +kernel
theorem dX6_readAll_39 : decode cX6_readAll 39 = .ok (.iconst 1, 1) := by decide +kernel
theorem dX6_readAll_40 : decode cX6_readAll 40 = .ok (.iadd, 1) := by decide +kernel
theorem dX6_readAll_41 : decode cX6_readAll 41 = .ok (.putfield 35, 3) := by decide +kernel
theorem dX6_readAll_44 : decode cX6_readAll 44 = .ok (.aload_n 0, 1) := by decide +kernel
theorem dX6_readAll_45 : decode cX6_readAll 45 = .ok (.iload_n 1, 1) := by decide +kernel
theorem dX6_readAll_46 : decode cX6_readAll 46 = .ok (.invokevirtual 134, 3) := by decide +kernel
theorem dX6_readAll_49 : decode cX6_readAll 49 = .ok (.istore_n 2, 1) := by decide +kernel
theorem dX6_readAll_50 : decode cX6_readAll 50 = .ok (.aload_n 0, 1) := by decide +kernel
theorem dX6_readAll_51 : decode cX6_readAll 51 = .ok (.getfield 24, 3) := by decide +kernel
theorem dX6_readAll_54 : decode cX6_readAll 54 = .ok (.iconst (-1), 1) := by decide +kernel
theorem dX6_readAll_55 : decode cX6_readAll 55 = .ok (.invokevirtual 130, 3) := by decide +kernel
theorem dX6_readAll_58 : decode cX6_readAll 58 = .ok (.iinc 3 1, 3) := by decide +kernel
theorem dX6_readAll_61 : decode cX6_readAll 61 = .ok (.goto (-53), 3) := by decide +kernel
theorem dX6_readAll_64 : decode cX6_readAll 64 = .ok (.iload_n 2, 1) := by decide +kernel
theorem dX6_readAll_65 : decode cX6_readAll 65 = .ok (.ireturn, 1) := by decide +kernel
theorem dX6_readOne_0 : decode cX6_readOne 0 = .ok (.iconst 0, 1) := by decide +kernel
theorem dX6_readOne_1 : decode cX6_readOne 1 = .ok (.istore_n 2, 1) := by decide +kernel
theorem dX6_readOne_2 : decode cX6_readOne 2 = .ok (.iconst 0, 1) := by decide +kernel
theorem dX6_readOne_3 : decode cX6_readOne 3 = .ok (.istore_n 3, 1) := by decide +kernel
theorem dX6_readOne_4 : decode cX6_readOne 4 = .ok (.iload_n 3, 1) := by decide +kernel
theorem dX6_readOne_5 : decode cX6_readOne 5 = .ok (.sipush 200, 3) := by decide +kernel
theorem dX6_readOne_8 : decode cX6_readOne 8 = .ok (.if_icmp .ge 44, 3) := by decide +kernel
theorem dX6_readOne_11 : decode cX6_readOne 11 = .ok (.aload_n 0, 1) := by decide +kernel
theorem dX6_readOne_12 : decode cX6_readOne 12 = .ok (.getfield 17, 3) := by decide +kernel
theorem dX6_readOne_15 : decode cX6_readOne 15 = .ok (.aload_n 0, 1) := by decide +kernel
theorem dX6_readOne_16 : decode cX6_readOne 16 = .ok (.getfield 35, 3) := by decide +kernel
theorem dX6_readOne_19 : decode cX6_readOne 19 = .ok (.iaload, 1) := by decide +kernel
theorem dX6_readOne_20 : decode cX6_readOne 20 = .ok (.sipush 10017, 3) := by decide +kernel
theorem dX6_readOne_23 : decode cX6_readOne 23 = .ok (.if_icmp .ne 29, 3) := by decide +kernel
theorem dX6_readOne_26 : decode cX6_readOne 26 = .ok (.aload_n 0, 1) := by decide +kernel
theorem dX6_readOne_27 : decode cX6_readOne 27 = .ok (.dup, 1) := by decide +kernel
theorem dX6_readOne_28 : decode cX6_readOne 28 = .ok (.getfield 35, 3) := by decide +kernel
theorem dX6_readOne_31 : decode cX6_readOne 31 = .ok (.iconst 1, 1) := by decide +kernel
theorem dX6_readOne_32 : decode cX6_readOne 32 = .ok (.iadd, 1) := by decide +kernel
theorem dX6_readOne_33 : decode cX6_readOne 33 = .ok (.putfield 35, 3) := by decide +kernel
theorem dX6_readOne_36 : decode cX6_readOne 36 = .ok (.iload_n 2, 1) := by decide +kernel
theorem dX6_readOne_37 : decode cX6_readOne 37 = .ok (.ifCond .ne 7, 3) := by decide +kernel
theorem dX6_readOne_40 : decode cX6_readOne 40 = .ok (.iconst 1, 1) := by decide +kernel
theorem dX6_readOne_41 : decode cX6_readOne 41 = .ok (.goto 4, 3) := by decide +kernel
theorem dX6_readOne_44 : decode cX6_readOne 44 = .ok (.iconst 0, 1) := by decide +kernel
theorem dX6_readOne_45 : decode cX6_readOne 45 = .ok (.istore_n 2, 1) := by decide +kernel
theorem dX6_readOne_46 : decode cX6_readOne 46 = .ok (.iinc 3 1, 3) := by decide +kernel
theorem dX6_readOne_49 : decode cX6_readOne 49 = .ok (.goto (-45), 3) := by decide +kernel
theorem dX6_readOne_52 : decode cX6_readOne 52 = .ok (.aload_n 0, 1) := by decide +kernel
theorem dX6_readOne_53 : decode cX6_readOne 53 = .ok (.getfield 17, 3) := by decide +kernel
theorem dX6_readOne_56 : decode cX6_readOne 56 = .ok (.aload_n 0, 1) := by decide +kernel
theorem dX6_readOne_57 : decode cX6_readOne 57 = .ok (.getfield 35, 3) := by decide +kernel
theorem dX6_readOne_60 : decode cX6_readOne 60 = .ok (.iaload, 1) := by decide +kernel
theorem dX6_readOne_61 : decode cX6_readOne 61 = .ok (.sipush 20040, 3) := by decide +kernel
theorem dX6_readOne_64 : decode cX6_readOne 64 = .ok (.if_icmp .ne 11, 3) := by decide +kernel
theorem dX6_readOne_67 : decode cX6_readOne 67 = .ok (.aload_n 0, 1) := by decide +kernel
theorem dX6_readOne_68 : decode cX6_readOne 68 = .ok (.iload_n 1, 1) := by decide +kernel
theorem dX6_readOne_69 : decode cX6_readOne 69 = .ok (.invokevirtual 137, 3) := by decide +kernel
theorem dX6_readOne_72 : decode cX6_readOne 72 = .ok (.goto 7, 3) := by decide +kernel
theorem dX6_readOne_75 : decode cX6_readOne 75 = .ok (.aload_n 0, 1) := by decide +kernel
theorem dX6_readOne_76 : decode cX6_readOne 76 = .ok (.invokevirtual 140, 3) := by decide +kernel
theorem dX6_readOne_79 : decode cX6_readOne 79 = .ok (.istore_n 3, 1) := by decide +kernel
theorem dX6_readOne_80 : decode cX6_readOne 80 = .ok (.iload_n 2, 1) := by decide +kernel
theorem dX6_readOne_81 : decode cX6_readOne 81 = .ok (.ifCond .eq 12, 3) := by decide +kernel
theorem dX6_readOne_84 : decode cX6_readOne 84 = .ok (.aload_n 0, 1) := by decide +kernel
theorem dX6_readOne_85 : decode cX6_readOne 85 = .ok (.getfield 24, 3) := by decide +kernel
theorem dX6_readOne_88 : decode cX6_readOne 88 = .ok (.bipush (-3), 2) := by decide +kernel
theorem dX6_readOne_90 : decode cX6_readOne 90 = .ok (.invokevirtual 130, 3) := by decide +kernel
theorem dX6_readOne_93 : decode cX6_readOne 93 = .ok (.iload_n 3, 1) := by decide +kernel
theorem dX6_readOne_94 : decode cX6_readOne 94 = .ok (.ireturn, 1) := by decide +kernel
theorem dX6_readInner_0 : decode cX6_readInner 0 = .ok (.iload_n 1, 1) := by decide +kernel
theorem dX6_readInner_1 : decode cX6_readInner 1 = .ok (.iconst 3, 1) := by decide +kernel
theorem dX6_readInner_2 : decode cX6_readInner 2 = .ok (.if_icmp .lt 5, 3) := by decide +kernel
theorem dX6_readInner_5 : decode cX6_readInner 5 = .ok (.iconst 0, 1) := by decide +kernel
theorem dX6_readInner_6 : decode cX6_readInner 6 = .ok (.ireturn, 1) := by decide +kernel
theorem dX6_readInner_7 : decode cX6_readInner 7 = .ok (.aload_n 0, 1) := by decide +kernel
theorem dX6_readInner_8 : decode cX6_readInner 8 = .ok (.dup, 1) := by decide +kernel
theorem dX6_readInner_9 : decode cX6_readInner 9 = .ok (.getfield 35, 3) := by decide +kernel
theorem dX6_readInner_12 : decode cX6_readInner 12 = .ok (.iconst 1, 1) := by decide +kernel
theorem dX6_readInner_13 : decode cX6_readInner 13 = .ok (.iadd, 1) := by decide +kernel
theorem dX6_readInner_14 : decode cX6_readInner 14 = .ok (.putfield 35, 3) := by decide +kernel
theorem dX6_readInner_17 : decode cX6_readInner 17 = .ok (.aload_n 0, 1) := by decide +kernel
theorem dX6_readInner_18 : decode cX6_readInner 18 = .ok (.iload_n 1, 1) := by decide +kernel
theorem dX6_readInner_19 : decode cX6_readInner 19 = .ok (.iconst 1, 1) := by decide +kernel
theorem dX6_readInner_20 : decode cX6_readInner 20 = .ok (.iadd, 1) := by decide +kernel
theorem dX6_readInner_21 : decode cX6_readInner 21 = .ok (.invokevirtual 120, 3) := by decide +kernel
theorem dX6_readInner_24 : decode cX6_readInner 24 = .ok (.ifCond .eq 18, 3) := by decide +kernel
theorem dX6_readInner_27 : decode cX6_readInner 27 = .ok (.aload_n 0, 1) := by decide +kernel
theorem dX6_readInner_28 : decode cX6_readInner 28 = .ok (.getfield 17, 3) := by decide +kernel
theorem dX6_readInner_31 : decode cX6_readInner 31 = .ok (.aload_n 0, 1) := by decide +kernel
theorem dX6_readInner_32 : decode cX6_readInner 32 = .ok (.getfield 35, 3) := by decide +kernel
theorem dX6_readInner_35 : decode cX6_readInner 35 = .ok (.iaload, 1) := by decide +kernel
theorem dX6_readInner_36 : decode cX6_readInner 36 = .ok (.sipush 20041, 3) := by decide +kernel
theorem dX6_readInner_39 : decode cX6_readInner 39 = .ok (.if_icmp .eq 5, 3) := by decide +kernel
theorem dX6_readInner_42 : decode cX6_readInner 42 = .ok (.iconst 0, 1) := by decide +kernel
theorem dX6_readInner_43 : decode cX6_readInner 43 = .ok (.ireturn, 1) := by decide +kernel
theorem dX6_readInner_44 : decode cX6_readInner 44 = .ok (.aload_n 0, 1) := by decide +kernel
theorem dX6_readInner_45 : decode cX6_readInner 45 = .ok (.dup, 1) := by decide +kernel
theorem dX6_readInner_46 : decode cX6_readInner 46 = .ok (.getfield 35, 3) := by decide +kernel
theorem dX6_readInner_49 : decode cX6_readInner 49 = .ok (.iconst 1, 1) := by decide +kernel
theorem dX6_readInner_50 : decode cX6_readInner 50 = .ok (.iadd, 1) := by decide +kernel
theorem dX6_readInner_51 : decode cX6_readInner 51 = .ok (.putfield 35, 3) := by decide +kernel
theorem dX6_readInner_54 : decode cX6_readInner 54 = .ok (.iconst 1, 1) := by decide +kernel
theorem dX6_readInner_55 : decode cX6_readInner 55 = .ok (.ireturn, 1) := by decide +kernel
theorem dX6_readComparison_0 : decode cX6_readComparison 0 = .ok (.aload_n 0, 1) := by decide +kernel
theorem dX6_readComparison_1 : decode cX6_readComparison 1 = .ok (.getfield 17, 3) := by decide +kernel
theorem dX6_readComparison_4 : decode cX6_readComparison 4 = .ok (.aload_n 0, 1) := by decide +kernel
theorem dX6_readComparison_5 : decode cX6_readComparison 5 = .ok (.getfield 35, 3) := by decide +kernel
theorem dX6_readComparison_8 : decode cX6_readComparison 8 = .ok (.iaload, 1) := by decide +kernel
theorem dX6_readComparison_9 : decode cX6_readComparison 9 = .ok (.istore_n 1, 1) := by decide +kernel
theorem dX6_readComparison_10 : decode cX6_readComparison 10 = .ok (.iload_n 1, 1) := by decide +kernel
theorem dX6_readComparison_11 : decode cX6_readComparison 11 = .ok (.invokestatic 143, 3) := by decide +kernel
theorem dX6_readComparison_14 : decode cX6_readComparison 14 = .ok (.ifCond .ne 5, 3) := by decide +kernel
theorem dX6_readComparison_17 : decode cX6_readComparison 17 = .ok (.iconst 0, 1) := by decide +kernel
theorem dX6_readComparison_18 : decode cX6_readComparison 18 = .ok (.ireturn, 1) := by decide +kernel
theorem dX6_readComparison_19 : decode cX6_readComparison 19 = .ok (.aload_n 0, 1) := by decide +kernel
theorem dX6_readComparison_20 : decode cX6_readComparison 20 = .ok (.dup, 1) := by decide +kernel
theorem dX6_readComparison_21 : decode cX6_readComparison 21 = .ok (.getfield 35, 3) := by decide +kernel
theorem dX6_readComparison_24 : decode cX6_readComparison 24 = .ok (.iconst 1, 1) := by decide +kernel
theorem dX6_readComparison_25 : decode cX6_readComparison 25 = .ok (.iadd, 1) := by decide +kernel
theorem dX6_readComparison_26 : decode cX6_readComparison 26 = .ok (.putfield 35, 3) := by decide +kernel
theorem dX6_readComparison_29 : decode cX6_readComparison 29 = .ok (.aload_n 0, 1) := by decide +kernel
theorem dX6_readComparison_30 : decode cX6_readComparison 30 = .ok (.getfield 17, 3) := by decide +kernel
theorem dX6_readComparison_33 : decode cX6_readComparison 33 = .ok (.aload_n 0, 1) := by decide +kernel
theorem dX6_readComparison_34 : decode cX6_readComparison 34 = .ok (.getfield 35, 3) := by decide +kernel
theorem dX6_readComparison_37 : decode cX6_readComparison 37 = .ok (.iaload, 1) := by decide +kernel
theorem dX6_readComparison_38 : decode cX6_readComparison 38 = .ok (.sipush 20060, 3) := by decide +kernel
theorem dX6_readComparison_41 : decode cX6_readComparison 41 = .ok (.isub, 1) := by decide +kernel
theorem dX6_readComparison_42 : decode cX6_readComparison 42 = .ok (.istore_n 2, 1) := by decide +kernel
theorem dX6_readComparison_43 : decode cX6_readComparison 43 = .ok (.iload_n 2, 1) := by decide +kernel
theorem dX6_readComparison_44 : decode cX6_readComparison 44 = .ok (.iconst 0, 1) := by decide +kernel
theorem dX6_readComparison_45 : decode cX6_readComparison 45 = .ok (.iconst 2, 1) := by decide +kernel
theorem dX6_readComparison_46 : decode cX6_readComparison 46 = .ok (.invokestatic 116, 3) := by decide +kernel
theorem dX6_readComparison_49 : decode cX6_readComparison 49 = .ok (.ifCond .ne 5, 3) := by decide +kernel
theorem dX6_readComparison_52 : decode cX6_readComparison 52 = .ok (.iconst 0, 1) := by decide +kernel
theorem dX6_readComparison_53 : decode cX6_readComparison 53 = .ok (.ireturn, 1) := by decide +kernel
theorem dX6_readComparison_54 : decode cX6_readComparison 54 = .ok (.aload_n 0, 1) := by decide +kernel
theorem dX6_readComparison_55 : decode cX6_readComparison 55 = .ok (.dup, 1) := by decide +kernel
theorem dX6_readComparison_56 : decode cX6_readComparison 56 = .ok (.getfield 35, 3) := by decide +kernel
theorem dX6_readComparison_59 : decode cX6_readComparison 59 = .ok (.iconst 1, 1) := by decide +kernel
theorem dX6_readComparison_60 : decode cX6_readComparison 60 = .ok (.iadd, 1) := by decide +kernel
theorem dX6_readComparison_61 : decode cX6_readComparison 61 = .ok (.putfield 35, 3) := by decide +kernel
theorem dX6_readComparison_64 : decode cX6_readComparison 64 = .ok (.aload_n 0, 1) := by decide +kernel
theorem dX6_readComparison_65 : decode cX6_readComparison 65 = .ok (.getfield 17, 3) := by decide +kernel
theorem dX6_readComparison_68 : decode cX6_readComparison 68 = .ok (.aload_n 0, 1) := by decide +kernel
theorem dX6_readComparison_69 : decode cX6_readComparison 69 = .ok (.getfield 35, 3) := by decide +kernel
theorem dX6_readComparison_72 : decode cX6_readComparison 72 = .ok (.iaload, 1) := by decide +kernel
theorem dX6_readComparison_73 : decode cX6_readComparison 73 = .ok (.istore_n 3, 1) := by decide +kernel
theorem dX6_readComparison_74 : decode cX6_readComparison 74 = .ok (.iload_n 3, 1) := by decide +kernel
theorem dX6_readComparison_75 : decode cX6_readComparison 75 = .ok (.invokestatic 143, 3) := by decide +kernel
theorem dX6_readComparison_78 : decode cX6_readComparison 78 = .ok (.ifCond .ne 5, 3) := by decide +kernel
theorem dX6_readComparison_81 : decode cX6_readComparison 81 = .ok (.iconst 0, 1) := by decide +kernel
theorem dX6_readComparison_82 : decode cX6_readComparison 82 = .ok (.ireturn, 1) := by decide +kernel
theorem dX6_readComparison_83 : decode cX6_readComparison 83 = .ok (.aload_n 0, 1) := by decide +kernel
theorem dX6_readComparison_84 : decode cX6_readComparison 84 = .ok (.dup, 1) := by decide +kernel
theorem dX6_readComparison_85 : decode cX6_readComparison 85 = .ok (.getfield 35, 3) := by decide +kernel
theorem dX6_readComparison_88 : decode cX6_readComparison 88 = .ok (.iconst 1, 1) := by decide +kernel
theorem dX6_readComparison_89 : decode cX6_readComparison 89 = .ok (.iadd, 1) := by decide +kernel
theorem dX6_readComparison_90 : decode cX6_readComparison 90 = .ok (.putfield 35, 3) := by decide +kernel
theorem dX6_readComparison_93 : decode cX6_readComparison 93 = .ok (.aload_n 0, 1) := by decide +kernel
theorem dX6_readComparison_94 : decode cX6_readComparison 94 = .ok (.getfield 24, 3) := by decide +kernel
theorem dX6_readComparison_97 : decode cX6_readComparison 97 = .ok (.iload_n 2, 1) := by decide +kernel
theorem dX6_readComparison_98 : decode cX6_readComparison 98 = .ok (.bipush 28, 2) := by decide +kernel
theorem dX6_readComparison_100 : decode cX6_readComparison 100 = .ok (.ishl, 1) := by decide +kernel
theorem dX6_readComparison_101 : decode cX6_readComparison 101 = .ok (.iload_n 1, 1) := by decide +kernel
theorem dX6_readComparison_102 : decode cX6_readComparison 102 = .ok (.bipush 14, 2) := by decide +kernel
theorem dX6_readComparison_104 : decode cX6_readComparison 104 = .ok (.ishl, 1) := by decide +kernel
theorem dX6_readComparison_105 : decode cX6_readComparison 105 = .ok (.ior, 1) := by decide +kernel
theorem dX6_readComparison_106 : decode cX6_readComparison 106 = .ok (.iload_n 3, 1) := by decide +kernel
theorem dX6_readComparison_107 : decode cX6_readComparison 107 = .ok (.ior, 1) := by decide +kernel
theorem dX6_readComparison_108 : decode cX6_readComparison 108 = .ok (.invokevirtual 130, 3) := by decide +kernel
theorem dX6_readComparison_111 : decode cX6_readComparison 111 = .ok (.iconst 1, 1) := by decide +kernel
theorem dX6_readComparison_112 : decode cX6_readComparison 112 = .ok (.ireturn, 1) := by decide +kernel
theorem dX6_isValue_0 : decode cX6_isValue 0 = .ok (.iload_n 0, 1) := by decide +kernel
theorem dX6_isValue_1 : decode cX6_isValue 1 = .ok (.sipush 10005, 3) := by decide +kernel
theorem dX6_isValue_4 : decode cX6_isValue 4 = .ok (.if_icmp .ge 7, 3) := by decide +kernel
theorem dX6_isValue_7 : decode cX6_isValue 7 = .ok (.iconst 1, 1) := by decide +kernel
theorem dX6_isValue_8 : decode cX6_isValue 8 = .ok (.goto 4, 3) := by decide +kernel
theorem dX6_isValue_11 : decode cX6_isValue 11 = .ok (.iconst 0, 1) := by decide +kernel
theorem dX6_isValue_12 : decode cX6_isValue 12 = .ok (.ireturn, 1) := by decide +kernel
theorem dX7_init_0 : decode cX7_init 0 = .ok (.aload_n 0, 1) := by decide +kernel
theorem dX7_init_1 : decode cX7_init 1 = .ok (.invokespecial 3, 3) := by decide +kernel
theorem dX7_init_4 : decode cX7_init 4 = .ok (.aload_n 0, 1) := by decide +kernel
theorem dX7_init_5 : decode cX7_init 5 = .ok (.bipush 8, 2) := by decide +kernel
theorem dX7_init_7 : decode cX7_init 7 = .ok (.newarray .int, 2) := by decide +kernel
theorem dX7_init_9 : decode cX7_init 9 = .ok (.putfield 9, 3) := by decide +kernel
theorem dX7_init_12 : decode cX7_init 12 = .ok (.aload_n 0, 1) := by decide +kernel
theorem dX7_init_13 : decode cX7_init 13 = .ok (.bipush 8, 2) := by decide +kernel
theorem dX7_init_15 : decode cX7_init 15 = .ok (.newarray .int, 2) := by decide +kernel
theorem dX7_init_17 : decode cX7_init 17 = .ok (.putfield 15, 3) := by decide +kernel
theorem dX7_init_20 : decode cX7_init 20 = .ok (.aload_n 0, 1) := by decide +kernel
theorem dX7_init_21 : decode cX7_init 21 = .ok (.bipush 8, 2) := by decide +kernel
theorem dX7_init_23 : decode cX7_init 23 = .ok (.newarray .int, 2) := by decide +kernel
theorem dX7_init_25 : decode cX7_init 25 = .ok (.putfield 18, 3) := by decide +kernel
theorem dX7_init_28 : decode cX7_init 28 = .ok (.aload_n 0, 1) := by decide +kernel
theorem dX7_init_29 : decode cX7_init 29 = .ok (.bipush 8, 2) := by decide +kernel
theorem dX7_init_31 : decode cX7_init 31 = .ok (.newarray .int, 2) := by decide +kernel
theorem dX7_init_33 : decode cX7_init 33 = .ok (.putfield 21, 3) := by decide +kernel
theorem dX7_init_36 : decode cX7_init 36 = .ok (.aload_n 0, 1) := by decide +kernel
theorem dX7_init_37 : decode cX7_init 37 = .ok (.sipush 200, 3) := by decide +kernel
theorem dX7_init_40 : decode cX7_init 40 = .ok (.newarray .int, 2) := by decide +kernel
theorem dX7_init_42 : decode cX7_init 42 = .ok (.putfield 24, 3) := by decide +kernel
theorem dX7_init_45 : decode cX7_init 45 = .ok (.aload_n 0, 1) := by decide +kernel
theorem dX7_init_46 : decode cX7_init 46 = .ok (.iconst 5, 1) := by decide +kernel
theorem dX7_init_47 : decode cX7_init 47 = .ok (.newarray .int, 2) := by decide +kernel
theorem dX7_init_49 : decode cX7_init 49 = .ok (.putfield 27, 3) := by decide +kernel
theorem dX7_init_52 : decode cX7_init 52 = .ok (.return_, 1) := by decide +kernel
theorem dX7_copyFrom_0 : decode cX7_copyFrom 0 = .ok (.aload_n 0, 1) := by decide +kernel
theorem dX7_copyFrom_1 : decode cX7_copyFrom 1 = .ok (.aload_n 1, 1) := by decide +kernel
theorem dX7_copyFrom_2 : decode cX7_copyFrom 2 = .ok (.getfield 30, 3) := by decide +kernel
theorem dX7_copyFrom_5 : decode cX7_copyFrom 5 = .ok (.putfield 30, 3) := by decide +kernel
theorem dX7_copyFrom_8 : decode cX7_copyFrom 8 = .ok (.aload_n 0, 1) := by decide +kernel
theorem dX7_copyFrom_9 : decode cX7_copyFrom 9 = .ok (.aload_n 1, 1) := by decide +kernel
theorem dX7_copyFrom_10 : decode cX7_copyFrom 10 = .ok (.getfield 34, 3) := by decide +kernel
theorem dX7_copyFrom_13 : decode cX7_copyFrom 13 = .ok (.putfield 34, 3) := by decide +kernel
theorem dX7_copyFrom_16 : decode cX7_copyFrom 16 = .ok (.aload_n 1, 1) := by decide +kernel
theorem dX7_copyFrom_17 : decode cX7_copyFrom 17 = .ok (.getfield 9, 3) := by decide +kernel
theorem dX7_copyFrom_20 : decode cX7_copyFrom 20 = .ok (.iconst 0, 1) := by decide +kernel
theorem dX7_copyFrom_21 : decode cX7_copyFrom 21 = .ok (.aload_n 0, 1) := by decide +kernel
theorem dX7_copyFrom_22 : decode cX7_copyFrom 22 = .ok (.getfield 9, 3) := by decide +kernel
theorem dX7_copyFrom_25 : decode cX7_copyFrom 25 = .ok (.iconst 0, 1) := by decide +kernel
theorem dX7_copyFrom_26 : decode cX7_copyFrom 26 = .ok (.aload_n 0, 1) := by decide +kernel
theorem dX7_copyFrom_27 : decode cX7_copyFrom 27 = .ok (.getfield 30, 3) := by decide +kernel
theorem dX7_copyFrom_30 : decode cX7_copyFrom 30 = .ok (.invokestatic 37, 3) := by decide +kernel
theorem dX7_copyFrom_33 : decode cX7_copyFrom 33 = .ok (.aload_n 1, 1) := by decide +kernel
theorem dX7_copyFrom_34 : decode cX7_copyFrom 34 = .ok (.getfield 15, 3) := by decide +kernel
theorem dX7_copyFrom_37 : decode cX7_copyFrom 37 = .ok (.iconst 0, 1) := by decide +kernel
theorem dX7_copyFrom_38 : decode cX7_copyFrom 38 = .ok (.aload_n 0, 1) := by decide +kernel
theorem dX7_copyFrom_39 : decode cX7_copyFrom 39 = .ok (.getfield 15, 3) := by decide +kernel
theorem dX7_copyFrom_42 : decode cX7_copyFrom 42 = .ok (.iconst 0, 1) := by decide +kernel
theorem dX7_copyFrom_43 : decode cX7_copyFrom 43 = .ok (.aload_n 0, 1) := by decide +kernel
theorem dX7_copyFrom_44 : decode cX7_copyFrom 44 = .ok (.getfield 30, 3) := by decide +kernel
theorem dX7_copyFrom_47 : decode cX7_copyFrom 47 = .ok (.invokestatic 37, 3) := by decide +kernel
theorem dX7_copyFrom_50 : decode cX7_copyFrom 50 = .ok (.aload_n 1, 1) := by decide +kernel
theorem dX7_copyFrom_51 : decode cX7_copyFrom 51 = .ok (.getfield 18, 3) := by decide +kernel
theorem dX7_copyFrom_54 : decode cX7_copyFrom 54 = .ok (.iconst 0, 1) := by decide +kernel
theorem dX7_copyFrom_55 : decode cX7_copyFrom 55 = .ok (.aload_n 0, 1) := by decide +kernel
theorem dX7_copyFrom_56 : decode cX7_copyFrom 56 = .ok (.getfield 18, 3) := by decide +kernel
theorem dX7_copyFrom_59 : decode cX7_copyFrom 59 = .ok (.iconst 0, 1) := by decide +kernel
theorem dX7_copyFrom_60 : decode cX7_copyFrom 60 = .ok (.aload_n 0, 1) := by decide +kernel
theorem dX7_copyFrom_61 : decode cX7_copyFrom 61 = .ok (.getfield 30, 3) := by decide +kernel
theorem dX7_copyFrom_64 : decode cX7_copyFrom 64 = .ok (.invokestatic 37, 3) := by decide +kernel
theorem dX7_copyFrom_67 : decode cX7_copyFrom 67 = .ok (.aload_n 1, 1) := by decide +kernel
theorem dX7_copyFrom_68 : decode cX7_copyFrom 68 = .ok (.getfield 21, 3) := by decide +kernel
theorem dX7_copyFrom_71 : decode cX7_copyFrom 71 = .ok (.iconst 0, 1) := by decide +kernel
theorem dX7_copyFrom_72 : decode cX7_copyFrom 72 = .ok (.aload_n 0, 1) := by decide +kernel
theorem dX7_copyFrom_73 : decode cX7_copyFrom 73 = .ok (.getfield 21, 3) := by decide +kernel
theorem dX7_copyFrom_76 : decode cX7_copyFrom 76 = .ok (.iconst 0, 1) := by decide +kernel
theorem dX7_copyFrom_77 : decode cX7_copyFrom 77 = .ok (.aload_n 0, 1) := by decide +kernel
theorem dX7_copyFrom_78 : decode cX7_copyFrom 78 = .ok (.getfield 30, 3) := by decide +kernel
theorem dX7_copyFrom_81 : decode cX7_copyFrom 81 = .ok (.invokestatic 37, 3) := by decide +kernel
theorem dX7_copyFrom_84 : decode cX7_copyFrom 84 = .ok (.aload_n 1, 1) := by decide +kernel
theorem dX7_copyFrom_85 : decode cX7_copyFrom 85 = .ok (.getfield 24, 3) := by decide +kernel
theorem dX7_copyFrom_88 : decode cX7_copyFrom 88 = .ok (.iconst 0, 1) := by decide +kernel
theorem dX7_copyFrom_89 : decode cX7_copyFrom 89 = .ok (.aload_n 0, 1) := by decide +kernel
theorem dX7_copyFrom_90 : decode cX7_copyFrom 90 = .ok (.getfield 24, 3) := by decide +kernel
theorem dX7_copyFrom_93 : decode cX7_copyFrom 93 = .ok (.iconst 0, 1) := by decide +kernel
theorem dX7_copyFrom_94 : decode cX7_copyFrom 94 = .ok (.aload_n 0, 1) := by decide +kernel
theorem dX7_copyFrom_95 : decode cX7_copyFrom 95 = .ok (.getfield 34, 3) := by decide +kernel
theorem dX7_copyFrom_98 : decode cX7_copyFrom 98 = .ok (.invokestatic 37, 3) := by decide +kernel
theorem dX7_copyFrom_101 : decode cX7_copyFrom 101 = .ok (.return_, 1) := by decide +kernel
theorem dX7_clear_0 : decode cX7_clear 0 = .ok (.aload_n 0, 1) := by decide +kernel
theorem dX7_clear_1 : decode cX7_clear 1 = .ok (.iconst 0, 1) := by decide +kernel
theorem dX7_clear_2 : decode cX7_clear 2 = .ok (.putfield 30, 3) := by decide +kernel
theorem dX7_clear_5 : decode cX7_clear 5 = .ok (.aload_n 0, 1) := by decide +kernel
theorem dX7_clear_6 : decode cX7_clear 6 = .ok (.iconst 0, 1) := by decide +kernel
theorem dX7_clear_7 : decode cX7_clear 7 = .ok (.putfield 34, 3) := by decide +kernel
theorem dX7_clear_10 : decode cX7_clear 10 = .ok (.return_, 1) := by decide +kernel
theorem dX7_add_0 : decode cX7_add 0 = .ok (.aload_n 0, 1) := by decide +kernel
theorem dX7_add_1 : decode cX7_add 1 = .ok (.getfield 34, 3) := by decide +kernel
theorem dX7_add_4 : decode cX7_add 4 = .ok (.aload_n 0, 1) := by decide +kernel
theorem dX7_add_5 : decode cX7_add 5 = .ok (.getfield 24, 3) := by decide +kernel
theorem dX7_add_8 : decode cX7_add 8 = .ok (.arraylength, 1) := by decide +kernel
theorem dX7_add_9 : decode cX7_add 9 = .ok (.if_icmp .ge 23, 3) := by decide +kernel
theorem dX7_add_12 : decode cX7_add 12 = .ok (.aload_n 0, 1) := by decide +kernel
theorem dX7_add_13 : decode cX7_add 13 = .ok (.getfield 24, 3) := by decide +kernel
theorem dX7_add_16 : decode cX7_add 16 = .ok (.aload_n 0, 1) := by decide +kernel
theorem dX7_add_17 : decode cX7_add 17 = .ok (.getfield 34, 3) := by decide +kernel
theorem dX7_add_20 : decode cX7_add 20 = .ok (.iload_n 1, 1) := by decide +kernel
theorem dX7_add_21 : decode cX7_add 21 = .ok (.iastore, 1) := by decide +kernel
theorem dX7_add_22 : decode cX7_add 22 = .ok (.aload_n 0, 1) := by decide +kernel
theorem dX7_add_23 : decode cX7_add 23 = .ok (.dup, 1) := by decide +kernel
theorem dX7_add_24 : decode cX7_add 24 = .ok (.getfield 34, 3) := by decide +kernel
theorem dX7_add_27 : decode cX7_add 27 = .ok (.iconst 1, 1) := by decide +kernel
theorem dX7_add_28 : decode cX7_add 28 = .ok (.iadd, 1) := by decide +kernel
theorem dX7_add_29 : decode cX7_add 29 = .ok (.putfield 34, 3) := by decide +kernel
theorem dX7_add_32 : decode cX7_add 32 = .ok (.return_, 1) := by decide +kernel
theorem dX7_close_0 : decode cX7_close 0 = .ok (.aload_n 0, 1) := by decide +kernel
theorem dX7_close_1 : decode cX7_close 1 = .ok (.getfield 30, 3) := by decide +kernel
theorem dX7_close_4 : decode cX7_close 4 = .ok (.bipush 8, 2) := by decide +kernel
theorem dX7_close_6 : decode cX7_close 6 = .ok (.if_icmp .ge 56, 3) := by decide +kernel
theorem dX7_close_9 : decode cX7_close 9 = .ok (.aload_n 0, 1) := by decide +kernel
theorem dX7_close_10 : decode cX7_close 10 = .ok (.getfield 9, 3) := by decide +kernel
theorem dX7_close_13 : decode cX7_close 13 = .ok (.aload_n 0, 1) := by decide +kernel
theorem dX7_close_14 : decode cX7_close 14 = .ok (.getfield 30, 3) := by decide +kernel
theorem dX7_close_17 : decode cX7_close 17 = .ok (.iload_n 1, 1) := by decide +kernel
theorem dX7_close_18 : decode cX7_close 18 = .ok (.iastore, 1) := by decide +kernel
theorem dX7_close_19 : decode cX7_close 19 = .ok (.aload_n 0, 1) := by decide +kernel
theorem dX7_close_20 : decode cX7_close 20 = .ok (.getfield 15, 3) := by decide +kernel
theorem dX7_close_23 : decode cX7_close 23 = .ok (.aload_n 0, 1) := by decide +kernel
theorem dX7_close_24 : decode cX7_close 24 = .ok (.getfield 30, 3) := by decide +kernel
theorem dX7_close_27 : decode cX7_close 27 = .ok (.iload_n 2, 1) := by decide +kernel
theorem dX7_close_28 : decode cX7_close 28 = .ok (.iastore, 1) := by decide +kernel
theorem dX7_close_29 : decode cX7_close 29 = .ok (.aload_n 0, 1) := by decide +kernel
theorem dX7_close_30 : decode cX7_close 30 = .ok (.getfield 18, 3) := by decide +kernel
theorem dX7_close_33 : decode cX7_close 33 = .ok (.aload_n 0, 1) := by decide +kernel
theorem dX7_close_34 : decode cX7_close 34 = .ok (.getfield 30, 3) := by decide +kernel
theorem dX7_close_37 : decode cX7_close 37 = .ok (.iload_n 3, 1) := by decide +kernel
theorem dX7_close_38 : decode cX7_close 38 = .ok (.iastore, 1) := by decide +kernel
theorem dX7_close_39 : decode cX7_close 39 = .ok (.aload_n 0, 1) := by decide +kernel
theorem dX7_close_40 : decode cX7_close 40 = .ok (.getfield 21, 3) := by decide +kernel
theorem dX7_close_43 : decode cX7_close 43 = .ok (.aload_n 0, 1) := by decide +kernel
theorem dX7_close_44 : decode cX7_close 44 = .ok (.getfield 30, 3) := by decide +kernel
theorem dX7_close_47 : decode cX7_close 47 = .ok (.aload_n 0, 1) := by decide +kernel
theorem dX7_close_48 : decode cX7_close 48 = .ok (.getfield 34, 3) := by decide +kernel
theorem dX7_close_51 : decode cX7_close 51 = .ok (.iastore, 1) := by decide +kernel
theorem dX7_close_52 : decode cX7_close 52 = .ok (.aload_n 0, 1) := by decide +kernel
theorem dX7_close_53 : decode cX7_close 53 = .ok (.dup, 1) := by decide +kernel
theorem dX7_close_54 : decode cX7_close 54 = .ok (.getfield 30, 3) := by decide +kernel
theorem dX7_close_57 : decode cX7_close 57 = .ok (.iconst 1, 1) := by decide +kernel
theorem dX7_close_58 : decode cX7_close 58 = .ok (.iadd, 1) := by decide +kernel
theorem dX7_close_59 : decode cX7_close 59 = .ok (.putfield 30, 3) := by decide +kernel
theorem dX7_close_62 : decode cX7_close 62 = .ok (.return_, 1) := by decide +kernel
theorem dX7_look_0 : decode cX7_look 0 = .ok (.aload_n 0, 1) := by decide +kernel
theorem dX7_look_1 : decode cX7_look 1 = .ok (.getfield 27, 3) := by decide +kernel
theorem dX7_look_4 : decode cX7_look 4 = .ok (.iconst 0, 1) := by decide +kernel
theorem dX7_look_5 : decode cX7_look 5 = .ok (.iload_n 1, 1) := by decide +kernel
theorem dX7_look_6 : decode cX7_look 6 = .ok (.iastore, 1) := by decide +kernel
theorem dX7_look_7 : decode cX7_look 7 = .ok (.aload_n 0, 1) := by decide +kernel
theorem dX7_look_8 : decode cX7_look 8 = .ok (.getfield 27, 3) := by decide +kernel
theorem dX7_look_11 : decode cX7_look 11 = .ok (.iconst 1, 1) := by decide +kernel
theorem dX7_look_12 : decode cX7_look 12 = .ok (.iload_n 2, 1) := by decide +kernel
theorem dX7_look_13 : decode cX7_look 13 = .ok (.iastore, 1) := by decide +kernel
theorem dX7_look_14 : decode cX7_look 14 = .ok (.aload_n 0, 1) := by decide +kernel
theorem dX7_look_15 : decode cX7_look 15 = .ok (.getfield 27, 3) := by decide +kernel
theorem dX7_look_18 : decode cX7_look 18 = .ok (.iconst 2, 1) := by decide +kernel
theorem dX7_look_19 : decode cX7_look 19 = .ok (.iload_n 3, 1) := by decide +kernel
theorem dX7_look_20 : decode cX7_look 20 = .ok (.iastore, 1) := by decide +kernel
theorem dX7_look_21 : decode cX7_look 21 = .ok (.aload_n 0, 1) := by decide +kernel
theorem dX7_look_22 : decode cX7_look 22 = .ok (.getfield 27, 3) := by decide +kernel
theorem dX7_look_25 : decode cX7_look 25 = .ok (.iconst 3, 1) := by decide +kernel
theorem dX7_look_26 : decode cX7_look 26 = .ok (.iload 4, 2) := by decide +kernel
theorem dX7_look_28 : decode cX7_look 28 = .ok (.iastore, 1) := by decide +kernel
theorem dX7_look_29 : decode cX7_look 29 = .ok (.aload_n 0, 1) := by decide +kernel
theorem dX7_look_30 : decode cX7_look 30 = .ok (.getfield 27, 3) := by decide +kernel
theorem dX7_look_33 : decode cX7_look 33 = .ok (.iconst 4, 1) := by decide +kernel
theorem dX7_look_34 : decode cX7_look 34 = .ok (.iload 5, 2) := by decide +kernel
theorem dX7_look_36 : decode cX7_look 36 = .ok (.iastore, 1) := by decide +kernel
theorem dX7_look_37 : decode cX7_look 37 = .ok (.return_, 1) := by decide +kernel
theorem dX7_changed_0 : decode cX7_changed 0 = .ok (.iconst 0, 1) := by decide +kernel
theorem dX7_changed_1 : decode cX7_changed 1 = .ok (.istore_n 3, 1) := by decide +kernel
theorem dX7_changed_2 : decode cX7_changed 2 = .ok (.iconst 0, 1) := by decide +kernel
theorem dX7_changed_3 : decode cX7_changed 3 = .ok (.istore 4, 2) := by decide +kernel
theorem dX7_changed_5 : decode cX7_changed 5 = .ok (.iload 4, 2) := by decide +kernel
theorem dX7_changed_7 : decode cX7_changed 7 = .ok (.aload_n 0, 1) := by decide +kernel
theorem dX7_changed_8 : decode cX7_changed 8 = .ok (.getfield 30, 3) := by decide +kernel
theorem dX7_changed_11 : decode cX7_changed 11 = .ok (.if_icmp .ge 116, 3) := by decide +kernel
theorem dX7_changed_14 : decode cX7_changed 14 = .ok (.iload_n 2, 1) := by decide +kernel
theorem dX7_changed_15 : decode cX7_changed 15 = .ok (.aload_n 0, 1) := by decide +kernel
theorem dX7_changed_16 : decode cX7_changed 16 = .ok (.getfield 9, 3) := by decide +kernel
theorem dX7_changed_19 : decode cX7_changed 19 = .ok (.iload 4, 2) := by decide +kernel
theorem dX7_changed_21 : decode cX7_changed 21 = .ok (.iaload, 1) := by decide +kernel
theorem dX7_changed_22 : decode cX7_changed 22 = .ok (.invokestatic 43, 3) := by decide +kernel
theorem dX7_changed_25 : decode cX7_changed 25 = .ok (.ifCond .eq 88, 3) := by decide +kernel
theorem dX7_changed_28 : decode cX7_changed 28 = .ok (.aload_n 0, 1) := by decide +kernel
theorem dX7_changed_29 : decode cX7_changed 29 = .ok (.iload_n 3, 1) := by decide +kernel
theorem dX7_changed_30 : decode cX7_changed 30 = .ok (.aload_n 0, 1) := by decide +kernel
theorem dX7_changed_31 : decode cX7_changed 31 = .ok (.getfield 21, 3) := by decide +kernel
theorem dX7_changed_34 : decode cX7_changed 34 = .ok (.iload 4, 2) := by decide +kernel
theorem dX7_changed_36 : decode cX7_changed 36 = .ok (.iaload, 1) := by decide +kernel
theorem dX7_changed_37 : decode cX7_changed 37 = .ok (.invokevirtual 47, 3) := by decide +kernel
theorem dX7_changed_40 : decode cX7_changed 40 = .ok (.ifCond .eq 73, 3) := by decide +kernel
theorem dX7_changed_43 : decode cX7_changed 43 = .ok (.aload_n 0, 1) := by decide +kernel
theorem dX7_changed_44 : decode cX7_changed 44 = .ok (.getfield 15, 3) := by decide +kernel
theorem dX7_changed_47 : decode cX7_changed 47 = .ok (.iload 4, 2) := by decide +kernel
theorem dX7_changed_49 : decode cX7_changed 49 = .ok (.iaload, 1) := by decide +kernel
theorem dX7_changed_50 : decode cX7_changed 50 = .ok (.lookupswitch 61 #[(10012, 26), (10013, 36)], 26) := by decide +kernel
theorem dX7_changed_76 : decode cX7_changed 76 = .ok (.iload_n 1, 1) := by decide +kernel
theorem dX7_changed_77 : decode cX7_changed 77 = .ok (.aload_n 0, 1) := by decide +kernel
theorem dX7_changed_78 : decode cX7_changed 78 = .ok (.getfield 18, 3) := by decide +kernel
theorem dX7_changed_81 : decode cX7_changed 81 = .ok (.iload 4, 2) := by decide +kernel
theorem dX7_changed_83 : decode cX7_changed 83 = .ok (.iaload, 1) := by decide +kernel
theorem dX7_changed_84 : decode cX7_changed 84 = .ok (.iadd, 1) := by decide +kernel
theorem dX7_changed_85 : decode cX7_changed 85 = .ok (.ireturn, 1) := by decide +kernel
theorem dX7_changed_86 : decode cX7_changed 86 = .ok (.iload_n 1, 1) := by decide +kernel
theorem dX7_changed_87 : decode cX7_changed 87 = .ok (.aload_n 0, 1) := by decide +kernel
theorem dX7_changed_88 : decode cX7_changed 88 = .ok (.getfield 18, 3) := by decide +kernel
theorem dX7_changed_91 : decode cX7_changed 91 = .ok (.iload 4, 2) := by decide +kernel
theorem dX7_changed_93 : decode cX7_changed 93 = .ok (.iaload, 1) := by decide +kernel
theorem dX7_changed_94 : decode cX7_changed 94 = .ok (.if_icmp .le 15, 3) := by decide +kernel
theorem dX7_changed_97 : decode cX7_changed 97 = .ok (.iload_n 1, 1) := by decide +kernel
theorem dX7_changed_98 : decode cX7_changed 98 = .ok (.aload_n 0, 1) := by decide +kernel
theorem dX7_changed_99 : decode cX7_changed 99 = .ok (.getfield 18, 3) := by decide +kernel
theorem dX7_changed_102 : decode cX7_changed 102 = .ok (.iload 4, 2) := by decide +kernel
theorem dX7_changed_104 : decode cX7_changed 104 = .ok (.iaload, 1) := by decide +kernel
theorem dX7_changed_105 : decode cX7_changed 105 = .ok (.isub, 1) := by decide +kernel
theorem dX7_changed_106 : decode cX7_changed 106 = .ok (.goto 4, 3) := by decide +kernel
theorem dX7_changed_109 : decode cX7_changed 109 = .ok (.iconst 0, 1) := by decide +kernel
theorem dX7_changed_110 : decode cX7_changed 110 = .ok (.ireturn, 1) := by decide +kernel
theorem dX7_changed_111 : decode cX7_changed 111 = .ok (.iconst 0, 1) := by decide +kernel
theorem dX7_changed_112 : decode cX7_changed 112 = .ok (.ireturn, 1) := by decide +kernel
theorem dX7_changed_113 : decode cX7_changed 113 = .ok (.aload_n 0, 1) := by decide +kernel
theorem dX7_changed_114 : decode cX7_changed 114 = .ok (.getfield 21, 3) := by decide +kernel
theorem dX7_changed_117 : decode cX7_changed 117 = .ok (.iload 4, 2) := by decide +kernel
theorem dX7_changed_119 : decode cX7_changed 119 = .ok (.iaload, 1) := by decide +kernel
theorem dX7_changed_120 : decode cX7_changed 120 = .ok (.istore_n 3, 1) := by decide +kernel
theorem dX7_changed_121 : decode cX7_changed 121 = .ok (.iinc 4 1, 3) := by decide +kernel
theorem dX7_changed_124 : decode cX7_changed 124 = .ok (.goto (-119), 3) := by decide +kernel
theorem dX7_changed_127 : decode cX7_changed 127 = .ok (.iload_n 1, 1) := by decide +kernel
theorem dX7_changed_128 : decode cX7_changed 128 = .ok (.ireturn, 1) := by decide +kernel
theorem dX7_holds_0 : decode cX7_holds 0 = .ok (.iconst 1, 1) := by decide +kernel
theorem dX7_holds_1 : decode cX7_holds 1 = .ok (.istore_n 3, 1) := by decide +kernel
theorem dX7_holds_2 : decode cX7_holds 2 = .ok (.iload_n 1, 1) := by decide +kernel
theorem dX7_holds_3 : decode cX7_holds 3 = .ok (.istore 4, 2) := by decide +kernel
theorem dX7_holds_5 : decode cX7_holds 5 = .ok (.iload 4, 2) := by decide +kernel
theorem dX7_holds_7 : decode cX7_holds 7 = .ok (.iload_n 2, 1) := by decide +kernel
theorem dX7_holds_8 : decode cX7_holds 8 = .ok (.if_icmp .ge 216, 3) := by decide +kernel
theorem dX7_holds_11 : decode cX7_holds 11 = .ok (.aload_n 0, 1) := by decide +kernel
theorem dX7_holds_12 : decode cX7_holds 12 = .ok (.getfield 24, 3) := by decide +kernel
theorem dX7_holds_15 : decode cX7_holds 15 = .ok (.iload 4, 2) := by decide +kernel
theorem dX7_holds_17 : decode cX7_holds 17 = .ok (.iaload, 1) := by decide +kernel
theorem dX7_holds_18 : decode cX7_holds 18 = .ok (.istore 5, 2) := by decide +kernel
theorem dX7_holds_20 : decode cX7_holds 20 = .ok (.iload 5, 2) := by decide +kernel
theorem dX7_holds_22 : decode cX7_holds 22 = .ok (.bipush (-3), 2) := by decide +kernel
theorem dX7_holds_24 : decode cX7_holds 24 = .ok (.if_icmp .ne 10, 3) := by decide +kernel
theorem dX7_holds_27 : decode cX7_holds 27 = .ok (.iload_n 3, 1) := by decide +kernel
theorem dX7_holds_28 : decode cX7_holds 28 = .ok (.iconst 1, 1) := by decide +kernel
theorem dX7_holds_29 : decode cX7_holds 29 = .ok (.ixor, 1) := by decide +kernel
theorem dX7_holds_30 : decode cX7_holds 30 = .ok (.istore_n 3, 1) := by decide +kernel
theorem dX7_holds_31 : decode cX7_holds 31 = .ok (.goto 187, 3) := by decide +kernel
theorem dX7_holds_34 : decode cX7_holds 34 = .ok (.iload 5, 2) := by decide +kernel
theorem dX7_holds_36 : decode cX7_holds 36 = .ok (.iconst (-1), 1) := by decide +kernel
theorem dX7_holds_37 : decode cX7_holds 37 = .ok (.if_icmp .ne 15, 3) := by decide +kernel
theorem dX7_holds_40 : decode cX7_holds 40 = .ok (.iload_n 3, 1) := by decide +kernel
theorem dX7_holds_41 : decode cX7_holds 41 = .ok (.iconst 1, 1) := by decide +kernel
theorem dX7_holds_42 : decode cX7_holds 42 = .ok (.ishr, 1) := by decide +kernel
theorem dX7_holds_43 : decode cX7_holds 43 = .ok (.iload_n 3, 1) := by decide +kernel
theorem dX7_holds_44 : decode cX7_holds 44 = .ok (.bipush (-2), 2) := by decide +kernel
theorem dX7_holds_46 : decode cX7_holds 46 = .ok (.ior, 1) := by decide +kernel
theorem dX7_holds_47 : decode cX7_holds 47 = .ok (.iand, 1) := by decide +kernel
theorem dX7_holds_48 : decode cX7_holds 48 = .ok (.istore_n 3, 1) := by decide +kernel
theorem dX7_holds_49 : decode cX7_holds 49 = .ok (.goto 169, 3) := by decide +kernel
theorem dX7_holds_52 : decode cX7_holds 52 = .ok (.iload 5, 2) := by decide +kernel
theorem dX7_holds_54 : decode cX7_holds 54 = .ok (.bipush (-2), 2) := by decide +kernel
theorem dX7_holds_56 : decode cX7_holds 56 = .ok (.if_icmp .ne 14, 3) := by decide +kernel
theorem dX7_holds_59 : decode cX7_holds 59 = .ok (.iload_n 3, 1) := by decide +kernel
theorem dX7_holds_60 : decode cX7_holds 60 = .ok (.iconst 1, 1) := by decide +kernel
theorem dX7_holds_61 : decode cX7_holds 61 = .ok (.ishr, 1) := by decide +kernel
theorem dX7_holds_62 : decode cX7_holds 62 = .ok (.iload_n 3, 1) := by decide +kernel
theorem dX7_holds_63 : decode cX7_holds 63 = .ok (.iconst 1, 1) := by decide +kernel
theorem dX7_holds_64 : decode cX7_holds 64 = .ok (.iand, 1) := by decide +kernel
theorem dX7_holds_65 : decode cX7_holds 65 = .ok (.ior, 1) := by decide +kernel
theorem dX7_holds_66 : decode cX7_holds 66 = .ok (.istore_n 3, 1) := by decide +kernel
theorem dX7_holds_67 : decode cX7_holds 67 = .ok (.goto 151, 3) := by decide +kernel
theorem dX7_holds_70 : decode cX7_holds 70 = .ok (.iload 5, 2) := by decide +kernel
theorem dX7_holds_72 : decode cX7_holds 72 = .ok (.bipush 14, 2) := by decide +kernel
theorem dX7_holds_74 : decode cX7_holds 74 = .ok (.ishr, 1) := by decide +kernel
theorem dX7_holds_75 : decode cX7_holds 75 = .ok (.sipush 16383, 3) := by decide +kernel
theorem dX7_holds_78 : decode cX7_holds 78 = .ok (.iand, 1) := by decide +kernel
theorem dX7_holds_79 : decode cX7_holds 79 = .ok (.istore 6, 2) := by decide +kernel
theorem dX7_holds_81 : decode cX7_holds 81 = .ok (.iload 5, 2) := by decide +kernel
theorem dX7_holds_83 : decode cX7_holds 83 = .ok (.sipush 16383, 3) := by decide +kernel
theorem dX7_holds_86 : decode cX7_holds 86 = .ok (.iand, 1) := by decide +kernel
theorem dX7_holds_87 : decode cX7_holds 87 = .ok (.istore 7, 2) := by decide +kernel
theorem dX7_holds_89 : decode cX7_holds 89 = .ok (.iload 6, 2) := by decide +kernel
theorem dX7_holds_91 : decode cX7_holds 91 = .ok (.sipush 10000, 3) := by decide +kernel
theorem dX7_holds_94 : decode cX7_holds 94 = .ok (.if_icmp .ge 8, 3) := by decide +kernel
theorem dX7_holds_97 : decode cX7_holds 97 = .ok (.iload 6, 2) := by decide +kernel
theorem dX7_holds_99 : decode cX7_holds 99 = .ok (.goto 14, 3) := by decide +kernel
theorem dX7_holds_102 : decode cX7_holds 102 = .ok (.aload_n 0, 1) := by decide +kernel
theorem dX7_holds_103 : decode cX7_holds 103 = .ok (.getfield 27, 3) := by decide +kernel
theorem dX7_holds_106 : decode cX7_holds 106 = .ok (.iload 6, 2) := by decide +kernel
theorem dX7_holds_108 : decode cX7_holds 108 = .ok (.sipush 10000, 3) := by decide +kernel
theorem dX7_holds_111 : decode cX7_holds 111 = .ok (.isub, 1) := by decide +kernel
theorem dX7_holds_112 : decode cX7_holds 112 = .ok (.iaload, 1) := by decide +kernel
theorem dX7_holds_113 : decode cX7_holds 113 = .ok (.istore 8, 2) := by decide +kernel
theorem dX7_holds_115 : decode cX7_holds 115 = .ok (.iload 7, 2) := by decide +kernel
theorem dX7_holds_117 : decode cX7_holds 117 = .ok (.sipush 10000, 3) := by decide +kernel
theorem dX7_holds_120 : decode cX7_holds 120 = .ok (.if_icmp .ge 8, 3) := by decide +kernel
theorem dX7_holds_123 : decode cX7_holds 123 = .ok (.iload 7, 2) := by decide +kernel
theorem dX7_holds_125 : decode cX7_holds 125 = .ok (.goto 14, 3) := by decide +kernel
theorem dX7_holds_128 : decode cX7_holds 128 = .ok (.aload_n 0, 1) := by decide +kernel
theorem dX7_holds_129 : decode cX7_holds 129 = .ok (.getfield 27, 3) := by decide +kernel
theorem dX7_holds_132 : decode cX7_holds 132 = .ok (.iload 7, 2) := by decide +kernel
theorem dX7_holds_134 : decode cX7_holds 134 = .ok (.sipush 10000, 3) := by decide +kernel
theorem dX7_holds_137 : decode cX7_holds 137 = .ok (.isub, 1) := by decide +kernel
theorem dX7_holds_138 : decode cX7_holds 138 = .ok (.iaload, 1) := by decide +kernel
theorem dX7_holds_139 : decode cX7_holds 139 = .ok (.istore 9, 2) := by decide +kernel
theorem dX7_holds_141 : decode cX7_holds 141 = .ok (.iload 5, 2) := by decide +kernel
theorem dX7_holds_143 : decode cX7_holds 143 = .ok (.bipush 28, 2) := by decide +kernel
theorem dX7_holds_145 : decode cX7_holds 145 = .ok (.ishr, 1) := by decide +kernel
theorem dX7_holds_146 : decode cX7_holds 146 = .ok (.istore 10, 2) := by decide +kernel
theorem dX7_holds_148 : decode cX7_holds 148 = .ok (.iload 10, 2) := by decide +kernel
theorem dX7_holds_150 : decode cX7_holds 150 = .ok (.ifCond .ne 18, 3) := by decide +kernel
theorem dX7_holds_153 : decode cX7_holds 153 = .ok (.iload 8, 2) := by decide +kernel
theorem dX7_holds_155 : decode cX7_holds 155 = .ok (.iload 9, 2) := by decide +kernel
theorem dX7_holds_157 : decode cX7_holds 157 = .ok (.if_icmp .ge 7, 3) := by decide +kernel
theorem dX7_holds_160 : decode cX7_holds 160 = .ok (.iconst 1, 1) := by decide +kernel
theorem dX7_holds_161 : decode cX7_holds 161 = .ok (.goto 40, 3) := by decide +kernel
theorem dX7_holds_164 : decode cX7_holds 164 = .ok (.iconst 0, 1) := by decide +kernel
theorem dX7_holds_165 : decode cX7_holds 165 = .ok (.goto 36, 3) := by decide +kernel
theorem dX7_holds_168 : decode cX7_holds 168 = .ok (.iload 10, 2) := by decide +kernel
theorem dX7_holds_170 : decode cX7_holds 170 = .ok (.iconst 1, 1) := by decide +kernel
theorem dX7_holds_171 : decode cX7_holds 171 = .ok (.if_icmp .ne 18, 3) := by decide +kernel
theorem dX7_holds_174 : decode cX7_holds 174 = .ok (.iload 8, 2) := by decide +kernel
theorem dX7_holds_176 : decode cX7_holds 176 = .ok (.iload 9, 2) := by decide +kernel
theorem dX7_holds_178 : decode cX7_holds 178 = .ok (.if_icmp .ne 7, 3) := by decide +kernel
theorem dX7_holds_181 : decode cX7_holds 181 = .ok (.iconst 1, 1) := by decide +kernel
theorem dX7_holds_182 : decode cX7_holds 182 = .ok (.goto 19, 3) := by decide +kernel
theorem dX7_holds_185 : decode cX7_holds 185 = .ok (.iconst 0, 1) := by decide +kernel
theorem dX7_holds_186 : decode cX7_holds 186 = .ok (.goto 15, 3) := by decide +kernel
theorem dX7_holds_189 : decode cX7_holds 189 = .ok (.iload 8, 2) := by decide +kernel
theorem dX7_holds_191 : decode cX7_holds 191 = .ok (.iload 9, 2) := by decide +kernel
theorem dX7_holds_193 : decode cX7_holds 193 = .ok (.if_icmp .le 7, 3) := by decide +kernel
theorem dX7_holds_196 : decode cX7_holds 196 = .ok (.iconst 1, 1) := by decide +kernel
theorem dX7_holds_197 : decode cX7_holds 197 = .ok (.goto 4, 3) := by decide +kernel
theorem dX7_holds_200 : decode cX7_holds 200 = .ok (.iconst 0, 1) := by decide +kernel
theorem dX7_holds_201 : decode cX7_holds 201 = .ok (.istore 11, 2) := by decide +kernel
theorem dX7_holds_203 : decode cX7_holds 203 = .ok (.iload_n 3, 1) := by decide +kernel
theorem dX7_holds_204 : decode cX7_holds 204 = .ok (.iconst 1, 1) := by decide +kernel
theorem dX7_holds_205 : decode cX7_holds 205 = .ok (.ishl, 1) := by decide +kernel
theorem dX7_holds_206 : decode cX7_holds 206 = .ok (.iload 11, 2) := by decide +kernel
theorem dX7_holds_208 : decode cX7_holds 208 = .ok (.ifCond .eq 7, 3) := by decide +kernel
theorem dX7_holds_211 : decode cX7_holds 211 = .ok (.iconst 1, 1) := by decide +kernel
theorem dX7_holds_212 : decode cX7_holds 212 = .ok (.goto 4, 3) := by decide +kernel
theorem dX7_holds_215 : decode cX7_holds 215 = .ok (.iconst 0, 1) := by decide +kernel
theorem dX7_holds_216 : decode cX7_holds 216 = .ok (.ior, 1) := by decide +kernel
theorem dX7_holds_217 : decode cX7_holds 217 = .ok (.istore_n 3, 1) := by decide +kernel
theorem dX7_holds_218 : decode cX7_holds 218 = .ok (.iinc 4 1, 3) := by decide +kernel
theorem dX7_holds_221 : decode cX7_holds 221 = .ok (.goto (-216), 3) := by decide +kernel
theorem dX7_holds_224 : decode cX7_holds 224 = .ok (.iload_n 3, 1) := by decide +kernel
theorem dX7_holds_225 : decode cX7_holds 225 = .ok (.iconst 1, 1) := by decide +kernel
theorem dX7_holds_226 : decode cX7_holds 226 = .ok (.iand, 1) := by decide +kernel
theorem dX7_holds_227 : decode cX7_holds 227 = .ok (.iconst 1, 1) := by decide +kernel
theorem dX7_holds_228 : decode cX7_holds 228 = .ok (.if_icmp .ne 7, 3) := by decide +kernel
theorem dX7_holds_231 : decode cX7_holds 231 = .ok (.iconst 1, 1) := by decide +kernel
theorem dX7_holds_232 : decode cX7_holds 232 = .ok (.goto 4, 3) := by decide +kernel
theorem dX7_holds_235 : decode cX7_holds 235 = .ok (.iconst 0, 1) := by decide +kernel
theorem dX7_holds_236 : decode cX7_holds 236 = .ok (.ireturn, 1) := by decide +kernel
theorem dX8_init_0 : decode cX8_init 0 = .ok (.aload_n 0, 1) := by decide +kernel
theorem dX8_init_1 : decode cX8_init 1 = .ok (.invokespecial 3, 3) := by decide +kernel
theorem dX8_init_4 : decode cX8_init 4 = .ok (.aload_n 0, 1) := by decide +kernel
theorem dX8_init_5 : decode cX8_init 5 = .ok (.bipush 6, 2) := by decide +kernel
theorem dX8_init_7 : decode cX8_init 7 = .ok (.newarray .int, 2) := by decide +kernel
theorem dX8_init_9 : decode cX8_init 9 = .ok (.putfield 9, 3) := by decide +kernel
theorem dX8_init_12 : decode cX8_init 12 = .ok (.aload_n 0, 1) := by decide +kernel
theorem dX8_init_13 : decode cX8_init 13 = .ok (.bipush 6, 2) := by decide +kernel
theorem dX8_init_15 : decode cX8_init 15 = .ok (.newarray .int, 2) := by decide +kernel
theorem dX8_init_17 : decode cX8_init 17 = .ok (.putfield 15, 3) := by decide +kernel
theorem dX8_init_20 : decode cX8_init 20 = .ok (.aload_n 0, 1) := by decide +kernel
theorem dX8_init_21 : decode cX8_init 21 = .ok (.sipush 2048, 3) := by decide +kernel
theorem dX8_init_24 : decode cX8_init 24 = .ok (.newarray .long, 2) := by decide +kernel
theorem dX8_init_26 : decode cX8_init 26 = .ok (.putfield 18, 3) := by decide +kernel
theorem dX8_init_29 : decode cX8_init 29 = .ok (.aload_n 0, 1) := by decide +kernel
theorem dX8_init_30 : decode cX8_init 30 = .ok (.sipush 2048, 3) := by decide +kernel
theorem dX8_init_33 : decode cX8_init 33 = .ok (.newarray .int, 2) := by decide +kernel
theorem dX8_init_35 : decode cX8_init 35 = .ok (.putfield 22, 3) := by decide +kernel
theorem dX8_init_38 : decode cX8_init 38 = .ok (.aload_n 0, 1) := by decide +kernel
theorem dX8_init_39 : decode cX8_init 39 = .ok (.aload_n 1, 1) := by decide +kernel
theorem dX8_init_40 : decode cX8_init 40 = .ok (.putfield 25, 3) := by decide +kernel
theorem dX8_init_43 : decode cX8_init 43 = .ok (.return_, 1) := by decide +kernel
theorem dX8_told_0 : decode cX8_told 0 = .ok (.aload_n 0, 1) := by decide +kernel
theorem dX8_told_1 : decode cX8_told 1 = .ok (.getfield 25, 3) := by decide +kernel
theorem dX8_told_4 : decode cX8_told 4 = .ok (.aload_n 1, 1) := by decide +kernel
theorem dX8_told_5 : decode cX8_told 5 = .ok (.invokevirtual 29, 3) := by decide +kernel
theorem dX8_told_8 : decode cX8_told 8 = .ok (.aload_n 0, 1) := by decide +kernel
theorem dX8_told_9 : decode cX8_told 9 = .ok (.iload_n 2, 1) := by decide +kernel
theorem dX8_told_10 : decode cX8_told 10 = .ok (.invokevirtual 35, 3) := by decide +kernel
theorem dX8_told_13 : decode cX8_told 13 = .ok (.aload_n 0, 1) := by decide +kernel
theorem dX8_told_14 : decode cX8_told 14 = .ok (.iload_n 3, 1) := by decide +kernel
theorem dX8_told_15 : decode cX8_told 15 = .ok (.invokevirtual 39, 3) := by decide +kernel
theorem dX8_told_18 : decode cX8_told 18 = .ok (.ireturn, 1) := by decide +kernel
theorem dX8_ask_0 : decode cX8_ask 0 = .ok (.aload_n 0, 1) := by decide +kernel
theorem dX8_ask_1 : decode cX8_ask 1 = .ok (.iload_n 1, 1) := by decide +kernel
theorem dX8_ask_2 : decode cX8_ask 2 = .ok (.putfield 43, 3) := by decide +kernel
theorem dX8_ask_5 : decode cX8_ask 5 = .ok (.aload_n 0, 1) := by decide +kernel
theorem dX8_ask_6 : decode cX8_ask 6 = .ok (.dup, 1) := by decide +kernel
theorem dX8_ask_7 : decode cX8_ask 7 = .ok (.getfield 47, 3) := by decide +kernel
theorem dX8_ask_10 : decode cX8_ask 10 = .ok (.lconst 1, 1) := by decide +kernel
theorem dX8_ask_11 : decode cX8_ask 11 = .ok (.ladd, 1) := by decide +kernel
theorem dX8_ask_12 : decode cX8_ask 12 = .ok (.putfield 47, 3) := by decide +kernel
theorem dX8_ask_15 : decode cX8_ask 15 = .ok (.return_, 1) := by decide +kernel
theorem dX8_first_0 : decode cX8_first 0 = .ok (.aload_n 0, 1) := by decide +kernel
theorem dX8_first_1 : decode cX8_first 1 = .ok (.getfield 25, 3) := by decide +kernel
theorem dX8_first_4 : decode cX8_first 4 = .ok (.aload_n 1, 1) := by decide +kernel
theorem dX8_first_5 : decode cX8_first 5 = .ok (.invokevirtual 29, 3) := by decide +kernel
theorem dX8_first_8 : decode cX8_first 8 = .ok (.aload_n 0, 1) := by decide +kernel
theorem dX8_first_9 : decode cX8_first 9 = .ok (.iload_n 2, 1) := by decide +kernel
theorem dX8_first_10 : decode cX8_first 10 = .ok (.invokevirtual 35, 3) := by decide +kernel
theorem dX8_first_13 : decode cX8_first 13 = .ok (.aload_n 0, 1) := by decide +kernel
theorem dX8_first_14 : decode cX8_first 14 = .ok (.iload_n 3, 1) := by decide +kernel
theorem dX8_first_15 : decode cX8_first 15 = .ok (.invokevirtual 39, 3) := by decide +kernel
theorem dX8_first_18 : decode cX8_first 18 = .ok (.ldc 51, 2) := by decide +kernel
theorem dX8_first_20 : decode cX8_first 20 = .ok (.if_icmp .lt 6, 3) := by decide +kernel
theorem dX8_first_23 : decode cX8_first 23 = .ok (.bipush (-3), 2) := by decide +kernel
theorem dX8_first_25 : decode cX8_first 25 = .ok (.ireturn, 1) := by decide +kernel
theorem dX8_first_26 : decode cX8_first 26 = .ok (.iconst 0, 1) := by decide +kernel
theorem dX8_first_27 : decode cX8_first 27 = .ok (.istore 4, 2) := by decide +kernel
theorem dX8_first_29 : decode cX8_first 29 = .ok (.iload_n 3, 1) := by decide +kernel
theorem dX8_first_30 : decode cX8_first 30 = .ok (.istore 5, 2) := by decide +kernel
theorem dX8_first_32 : decode cX8_first 32 = .ok (.iload 5, 2) := by decide +kernel
theorem dX8_first_34 : decode cX8_first 34 = .ok (.ifCond .le 129, 3) := by decide +kernel
theorem dX8_first_37 : decode cX8_first 37 = .ok (.iload 4, 2) := by decide +kernel
theorem dX8_first_39 : decode cX8_first 39 = .ok (.aload_n 0, 1) := by decide +kernel
theorem dX8_first_40 : decode cX8_first 40 = .ok (.getfield 9, 3) := by decide +kernel
theorem dX8_first_43 : decode cX8_first 43 = .ok (.arraylength, 1) := by decide +kernel
theorem dX8_first_44 : decode cX8_first 44 = .ok (.if_icmp .ge 119, 3) := by decide +kernel
theorem dX8_first_47 : decode cX8_first 47 = .ok (.aload_n 0, 1) := by decide +kernel
theorem dX8_first_48 : decode cX8_first 48 = .ok (.iload 5, 2) := by decide +kernel
theorem dX8_first_50 : decode cX8_first 50 = .ok (.invokevirtual 39, 3) := by decide +kernel
theorem dX8_first_53 : decode cX8_first 53 = .ok (.istore 6, 2) := by decide +kernel
theorem dX8_first_55 : decode cX8_first 55 = .ok (.bipush (-3), 2) := by decide +kernel
theorem dX8_first_57 : decode cX8_first 57 = .ok (.istore 7, 2) := by decide +kernel
theorem dX8_first_59 : decode cX8_first 59 = .ok (.iconst 0, 1) := by decide +kernel
theorem dX8_first_60 : decode cX8_first 60 = .ok (.istore 8, 2) := by decide +kernel
theorem dX8_first_62 : decode cX8_first 62 = .ok (.iload 8, 2) := by decide +kernel
theorem dX8_first_64 : decode cX8_first 64 = .ok (.getstatic 52, 3) := by decide +kernel
theorem dX8_first_67 : decode cX8_first 67 = .ok (.arraylength, 1) := by decide +kernel
theorem dX8_first_68 : decode cX8_first 68 = .ok (.if_icmp .ge 59, 3) := by decide +kernel
theorem dX8_first_71 : decode cX8_first 71 = .ok (.iload 7, 2) := by decide +kernel
theorem dX8_first_73 : decode cX8_first 73 = .ok (.ifCond .ge 54, 3) := by decide +kernel
theorem dX8_first_76 : decode cX8_first 76 = .ok (.aload_n 0, 1) := by decide +kernel
theorem dX8_first_77 : decode cX8_first 77 = .ok (.getfield 25, 3) := by decide +kernel
theorem dX8_first_80 : decode cX8_first 80 = .ok (.getstatic 52, 3) := by decide +kernel
theorem dX8_first_83 : decode cX8_first 83 = .ok (.iload 8, 2) := by decide +kernel
theorem dX8_first_85 : decode cX8_first 85 = .ok (.iaload, 1) := by decide +kernel
theorem dX8_first_86 : decode cX8_first 86 = .ok (.invokevirtual 55, 3) := by decide +kernel
theorem dX8_first_89 : decode cX8_first 89 = .ok (.ifCond .eq 32, 3) := by decide +kernel
theorem dX8_first_92 : decode cX8_first 92 = .ok (.aload_n 0, 1) := by decide +kernel
theorem dX8_first_93 : decode cX8_first 93 = .ok (.getstatic 52, 3) := by decide +kernel
theorem dX8_first_96 : decode cX8_first 96 = .ok (.iload 8, 2) := by decide +kernel
theorem dX8_first_98 : decode cX8_first 98 = .ok (.iaload, 1) := by decide +kernel
theorem dX8_first_99 : decode cX8_first 99 = .ok (.iload 5, 2) := by decide +kernel
theorem dX8_first_101 : decode cX8_first 101 = .ok (.aload_n 0, 1) := by decide +kernel
theorem dX8_first_102 : decode cX8_first 102 = .ok (.invokevirtual 59, 3) := by decide +kernel
theorem dX8_first_105 : decode cX8_first 105 = .ok (.invokevirtual 63, 3) := by decide +kernel
theorem dX8_first_108 : decode cX8_first 108 = .ok (.iload 6, 2) := by decide +kernel
theorem dX8_first_110 : decode cX8_first 110 = .ok (.if_icmp .ne 11, 3) := by decide +kernel
theorem dX8_first_113 : decode cX8_first 113 = .ok (.getstatic 52, 3) := by decide +kernel
theorem dX8_first_116 : decode cX8_first 116 = .ok (.iload 8, 2) := by decide +kernel
theorem dX8_first_118 : decode cX8_first 118 = .ok (.iaload, 1) := by decide +kernel
theorem dX8_first_119 : decode cX8_first 119 = .ok (.istore 7, 2) := by decide +kernel
theorem dX8_first_121 : decode cX8_first 121 = .ok (.iinc 8 1, 3) := by decide +kernel
theorem dX8_first_124 : decode cX8_first 124 = .ok (.goto (-62), 3) := by decide +kernel
theorem dX8_first_127 : decode cX8_first 127 = .ok (.iload 7, 2) := by decide +kernel
theorem dX8_first_129 : decode cX8_first 129 = .ok (.ifCond .ge 6, 3) := by decide +kernel
theorem dX8_first_132 : decode cX8_first 132 = .ok (.iload 4, 2) := by decide +kernel
theorem dX8_first_134 : decode cX8_first 134 = .ok (.ireturn, 1) := by decide +kernel
theorem dX8_first_135 : decode cX8_first 135 = .ok (.aload_n 0, 1) := by decide +kernel
theorem dX8_first_136 : decode cX8_first 136 = .ok (.getfield 25, 3) := by decide +kernel
theorem dX8_first_139 : decode cX8_first 139 = .ok (.iload 7, 2) := by decide +kernel
theorem dX8_first_141 : decode cX8_first 141 = .ok (.invokevirtual 67, 3) := by decide +kernel
theorem dX8_first_144 : decode cX8_first 144 = .ok (.pop, 1) := by decide +kernel
theorem dX8_first_145 : decode cX8_first 145 = .ok (.aload_n 0, 1) := by decide +kernel
theorem dX8_first_146 : decode cX8_first 146 = .ok (.getfield 9, 3) := by decide +kernel
theorem dX8_first_149 : decode cX8_first 149 = .ok (.iload 4, 2) := by decide +kernel
theorem dX8_first_151 : decode cX8_first 151 = .ok (.iload 7, 2) := by decide +kernel
theorem dX8_first_153 : decode cX8_first 153 = .ok (.iastore, 1) := by decide +kernel
theorem dX8_first_154 : decode cX8_first 154 = .ok (.iinc 4 1, 3) := by decide +kernel
theorem dX8_first_157 : decode cX8_first 157 = .ok (.iinc 5 (-1), 3) := by decide +kernel
theorem dX8_first_160 : decode cX8_first 160 = .ok (.goto (-128), 3) := by decide +kernel
theorem dX8_first_163 : decode cX8_first 163 = .ok (.iload 4, 2) := by decide +kernel
theorem dX8_first_165 : decode cX8_first 165 = .ok (.ireturn, 1) := by decide +kernel
theorem dX8_whoBars_0 : decode cX8_whoBars 0 = .ok (.aload_n 0, 1) := by decide +kernel
theorem dX8_whoBars_1 : decode cX8_whoBars 1 = .ok (.getfield 25, 3) := by decide +kernel
theorem dX8_whoBars_4 : decode cX8_whoBars 4 = .ok (.aload_n 1, 1) := by decide +kernel
theorem dX8_whoBars_5 : decode cX8_whoBars 5 = .ok (.invokevirtual 29, 3) := by decide +kernel
theorem dX8_whoBars_8 : decode cX8_whoBars 8 = .ok (.aload_n 0, 1) := by decide +kernel
theorem dX8_whoBars_9 : decode cX8_whoBars 9 = .ok (.iconst 0, 1) := by decide +kernel
theorem dX8_whoBars_10 : decode cX8_whoBars 10 = .ok (.invokevirtual 35, 3) := by decide +kernel
theorem dX8_whoBars_13 : decode cX8_whoBars 13 = .ok (.aload_n 0, 1) := by decide +kernel
theorem dX8_whoBars_14 : decode cX8_whoBars 14 = .ok (.bipush 6, 2) := by decide +kernel
theorem dX8_whoBars_16 : decode cX8_whoBars 16 = .ok (.invokevirtual 39, 3) := by decide +kernel
theorem dX8_whoBars_19 : decode cX8_whoBars 19 = .ok (.ldc 51, 2) := by decide +kernel
theorem dX8_whoBars_21 : decode cX8_whoBars 21 = .ok (.if_icmp .ge 5, 3) := by decide +kernel
theorem dX8_whoBars_24 : decode cX8_whoBars 24 = .ok (.iconst 0, 1) := by decide +kernel
theorem dX8_whoBars_25 : decode cX8_whoBars 25 = .ok (.ireturn, 1) := by decide +kernel
theorem dX8_whoBars_26 : decode cX8_whoBars 26 = .ok (.iconst 0, 1) := by decide +kernel
theorem dX8_whoBars_27 : decode cX8_whoBars 27 = .ok (.istore_n 2, 1) := by decide +kernel
theorem dX8_whoBars_28 : decode cX8_whoBars 28 = .ok (.iconst 0, 1) := by decide +kernel
theorem dX8_whoBars_29 : decode cX8_whoBars 29 = .ok (.istore_n 3, 1) := by decide +kernel
theorem dX8_whoBars_30 : decode cX8_whoBars 30 = .ok (.iload_n 3, 1) := by decide +kernel
theorem dX8_whoBars_31 : decode cX8_whoBars 31 = .ok (.aload_n 0, 1) := by decide +kernel
theorem dX8_whoBars_32 : decode cX8_whoBars 32 = .ok (.getfield 25, 3) := by decide +kernel
theorem dX8_whoBars_35 : decode cX8_whoBars 35 = .ok (.getfield 70, 3) := by decide +kernel
theorem dX8_whoBars_38 : decode cX8_whoBars 38 = .ok (.if_icmp .ge 45, 3) := by decide +kernel
theorem dX8_whoBars_41 : decode cX8_whoBars 41 = .ok (.aload_n 0, 1) := by decide +kernel
theorem dX8_whoBars_42 : decode cX8_whoBars 42 = .ok (.getfield 25, 3) := by decide +kernel
theorem dX8_whoBars_45 : decode cX8_whoBars 45 = .ok (.iconst 1, 1) := by decide +kernel
theorem dX8_whoBars_46 : decode cX8_whoBars 46 = .ok (.iload_n 3, 1) := by decide +kernel
theorem dX8_whoBars_47 : decode cX8_whoBars 47 = .ok (.ishl, 1) := by decide +kernel
theorem dX8_whoBars_48 : decode cX8_whoBars 48 = .ok (.putfield 73, 3) := by decide +kernel
theorem dX8_whoBars_51 : decode cX8_whoBars 51 = .ok (.aload_n 0, 1) := by decide +kernel
theorem dX8_whoBars_52 : decode cX8_whoBars 52 = .ok (.iconst 0, 1) := by decide +kernel
theorem dX8_whoBars_53 : decode cX8_whoBars 53 = .ok (.invokevirtual 35, 3) := by decide +kernel
theorem dX8_whoBars_56 : decode cX8_whoBars 56 = .ok (.aload_n 0, 1) := by decide +kernel
theorem dX8_whoBars_57 : decode cX8_whoBars 57 = .ok (.bipush 6, 2) := by decide +kernel
theorem dX8_whoBars_59 : decode cX8_whoBars 59 = .ok (.invokevirtual 39, 3) := by decide +kernel
theorem dX8_whoBars_62 : decode cX8_whoBars 62 = .ok (.ldc 51, 2) := by decide +kernel
theorem dX8_whoBars_64 : decode cX8_whoBars 64 = .ok (.if_icmp .ge 13, 3) := by decide +kernel
theorem dX8_whoBars_67 : decode cX8_whoBars 67 = .ok (.iload_n 2, 1) := by decide +kernel
theorem dX8_whoBars_68 : decode cX8_whoBars 68 = .ok (.aload_n 0, 1) := by decide +kernel
theorem dX8_whoBars_69 : decode cX8_whoBars 69 = .ok (.getfield 25, 3) := by decide +kernel
theorem dX8_whoBars_72 : decode cX8_whoBars 72 = .ok (.getfield 73, 3) := by decide +kernel
theorem dX8_whoBars_75 : decode cX8_whoBars 75 = .ok (.ior, 1) := by decide +kernel
theorem dX8_whoBars_76 : decode cX8_whoBars 76 = .ok (.istore_n 2, 1) := by decide +kernel
theorem dX8_whoBars_77 : decode cX8_whoBars 77 = .ok (.iinc 3 1, 3) := by decide +kernel
theorem dX8_whoBars_80 : decode cX8_whoBars 80 = .ok (.goto (-50), 3) := by decide +kernel
theorem dX8_whoBars_83 : decode cX8_whoBars 83 = .ok (.aload_n 0, 1) := by decide +kernel
theorem dX8_whoBars_84 : decode cX8_whoBars 84 = .ok (.getfield 25, 3) := by decide +kernel
theorem dX8_whoBars_87 : decode cX8_whoBars 87 = .ok (.iconst 0, 1) := by decide +kernel
theorem dX8_whoBars_88 : decode cX8_whoBars 88 = .ok (.putfield 73, 3) := by decide +kernel
theorem dX8_whoBars_91 : decode cX8_whoBars 91 = .ok (.iload_n 2, 1) := by decide +kernel
theorem dX8_whoBars_92 : decode cX8_whoBars 92 = .ok (.ireturn, 1) := by decide +kernel
theorem dX8_whichJar_0 : decode cX8_whichJar 0 = .ok (.aload_n 0, 1) := by decide +kernel
theorem dX8_whichJar_1 : decode cX8_whichJar 1 = .ok (.getfield 25, 3) := by decide +kernel
theorem dX8_whichJar_4 : decode cX8_whichJar 4 = .ok (.aload_n 1, 1) := by decide +kernel
theorem dX8_whichJar_5 : decode cX8_whichJar 5 = .ok (.invokevirtual 29, 3) := by decide +kernel
theorem dX8_whichJar_8 : decode cX8_whichJar 8 = .ok (.aload_n 0, 1) := by decide +kernel
theorem dX8_whichJar_9 : decode cX8_whichJar 9 = .ok (.iconst 2, 1) := by decide +kernel
theorem dX8_whichJar_10 : decode cX8_whichJar 10 = .ok (.invokevirtual 35, 3) := by decide +kernel
theorem dX8_whichJar_13 : decode cX8_whichJar 13 = .ok (.aload_n 0, 1) := by decide +kernel
theorem dX8_whichJar_14 : decode cX8_whichJar 14 = .ok (.bipush 6, 2) := by decide +kernel
theorem dX8_whichJar_16 : decode cX8_whichJar 16 = .ok (.invokevirtual 39, 3) := by decide +kernel
theorem dX8_whichJar_19 : decode cX8_whichJar 19 = .ok (.istore_n 2, 1) := by decide +kernel
theorem dX8_whichJar_20 : decode cX8_whichJar 20 = .ok (.bipush (-3), 2) := by decide +kernel
theorem dX8_whichJar_22 : decode cX8_whichJar 22 = .ok (.istore_n 3, 1) := by decide +kernel
theorem dX8_whichJar_23 : decode cX8_whichJar 23 = .ok (.iconst 0, 1) := by decide +kernel
theorem dX8_whichJar_24 : decode cX8_whichJar 24 = .ok (.istore 4, 2) := by decide +kernel
theorem dX8_whichJar_26 : decode cX8_whichJar 26 = .ok (.iload 4, 2) := by decide +kernel
theorem dX8_whichJar_28 : decode cX8_whichJar 28 = .ok (.bipush 8, 2) := by decide +kernel
theorem dX8_whichJar_30 : decode cX8_whichJar 30 = .ok (.if_icmp .ge 73, 3) := by decide +kernel
theorem dX8_whichJar_33 : decode cX8_whichJar 33 = .ok (.iload_n 2, 1) := by decide +kernel
theorem dX8_whichJar_34 : decode cX8_whichJar 34 = .ok (.aload_n 0, 1) := by decide +kernel
theorem dX8_whichJar_35 : decode cX8_whichJar 35 = .ok (.getfield 25, 3) := by decide +kernel
theorem dX8_whichJar_38 : decode cX8_whichJar 38 = .ok (.getfield 70, 3) := by decide +kernel
theorem dX8_whichJar_41 : decode cX8_whichJar 41 = .ok (.if_icmp .ge 62, 3) := by decide +kernel
theorem dX8_whichJar_44 : decode cX8_whichJar 44 = .ok (.aload_n 0, 1) := by decide +kernel
theorem dX8_whichJar_45 : decode cX8_whichJar 45 = .ok (.getfield 25, 3) := by decide +kernel
theorem dX8_whichJar_48 : decode cX8_whichJar 48 = .ok (.getfield 76, 3) := by decide +kernel
theorem dX8_whichJar_51 : decode cX8_whichJar 51 = .ok (.iload 4, 2) := by decide +kernel
theorem dX8_whichJar_53 : decode cX8_whichJar 53 = .ok (.dup2, 1) := by decide +kernel
theorem dX8_whichJar_54 : decode cX8_whichJar 54 = .ok (.iaload, 1) := by decide +kernel
theorem dX8_whichJar_55 : decode cX8_whichJar 55 = .ok (.iconst 1, 1) := by decide +kernel
theorem dX8_whichJar_56 : decode cX8_whichJar 56 = .ok (.iadd, 1) := by decide +kernel
theorem dX8_whichJar_57 : decode cX8_whichJar 57 = .ok (.iastore, 1) := by decide +kernel
theorem dX8_whichJar_58 : decode cX8_whichJar 58 = .ok (.aload_n 0, 1) := by decide +kernel
theorem dX8_whichJar_59 : decode cX8_whichJar 59 = .ok (.iconst 2, 1) := by decide +kernel
theorem dX8_whichJar_60 : decode cX8_whichJar 60 = .ok (.invokevirtual 35, 3) := by decide +kernel
theorem dX8_whichJar_63 : decode cX8_whichJar 63 = .ok (.aload_n 0, 1) := by decide +kernel
theorem dX8_whichJar_64 : decode cX8_whichJar 64 = .ok (.bipush 6, 2) := by decide +kernel
theorem dX8_whichJar_66 : decode cX8_whichJar 66 = .ok (.invokevirtual 39, 3) := by decide +kernel
theorem dX8_whichJar_69 : decode cX8_whichJar 69 = .ok (.istore 5, 2) := by decide +kernel
theorem dX8_whichJar_71 : decode cX8_whichJar 71 = .ok (.aload_n 0, 1) := by decide +kernel
theorem dX8_whichJar_72 : decode cX8_whichJar 72 = .ok (.getfield 25, 3) := by decide +kernel
theorem dX8_whichJar_75 : decode cX8_whichJar 75 = .ok (.getfield 76, 3) := by decide +kernel
theorem dX8_whichJar_78 : decode cX8_whichJar 78 = .ok (.iload 4, 2) := by decide +kernel
theorem dX8_whichJar_80 : decode cX8_whichJar 80 = .ok (.dup2, 1) := by decide +kernel
theorem dX8_whichJar_81 : decode cX8_whichJar 81 = .ok (.iaload, 1) := by decide +kernel
theorem dX8_whichJar_82 : decode cX8_whichJar 82 = .ok (.iconst 1, 1) := by decide +kernel
theorem dX8_whichJar_83 : decode cX8_whichJar 83 = .ok (.isub, 1) := by decide +kernel
theorem dX8_whichJar_84 : decode cX8_whichJar 84 = .ok (.iastore, 1) := by decide +kernel
theorem dX8_whichJar_85 : decode cX8_whichJar 85 = .ok (.iload 5, 2) := by decide +kernel
theorem dX8_whichJar_87 : decode cX8_whichJar 87 = .ok (.iload_n 2, 1) := by decide +kernel
theorem dX8_whichJar_88 : decode cX8_whichJar 88 = .ok (.if_icmp .le 9, 3) := by decide +kernel
theorem dX8_whichJar_91 : decode cX8_whichJar 91 = .ok (.iload 5, 2) := by decide +kernel
theorem dX8_whichJar_93 : decode cX8_whichJar 93 = .ok (.istore_n 2, 1) := by decide +kernel
theorem dX8_whichJar_94 : decode cX8_whichJar 94 = .ok (.iload 4, 2) := by decide +kernel
theorem dX8_whichJar_96 : decode cX8_whichJar 96 = .ok (.istore_n 3, 1) := by decide +kernel
theorem dX8_whichJar_97 : decode cX8_whichJar 97 = .ok (.iinc 4 1, 3) := by decide +kernel
theorem dX8_whichJar_100 : decode cX8_whichJar 100 = .ok (.goto (-74), 3) := by decide +kernel
theorem dX8_whichJar_103 : decode cX8_whichJar 103 = .ok (.iload_n 3, 1) := by decide +kernel
theorem dX8_whichJar_104 : decode cX8_whichJar 104 = .ok (.ireturn, 1) := by decide +kernel
theorem dX8_greatestFee_0 : decode cX8_greatestFee 0 = .ok (.aload_n 0, 1) := by decide +kernel
theorem dX8_greatestFee_1 : decode cX8_greatestFee 1 = .ok (.getfield 25, 3) := by decide +kernel
theorem dX8_greatestFee_4 : decode cX8_greatestFee 4 = .ok (.aload_n 1, 1) := by decide +kernel
theorem dX8_greatestFee_5 : decode cX8_greatestFee 5 = .ok (.invokevirtual 29, 3) := by decide +kernel
theorem dX8_greatestFee_8 : decode cX8_greatestFee 8 = .ok (.iconst (-1), 1) := by decide +kernel
theorem dX8_greatestFee_9 : decode cX8_greatestFee 9 = .ok (.istore_n 3, 1) := by decide +kernel
theorem dX8_greatestFee_10 : decode cX8_greatestFee 10 = .ok (.bipush 51, 2) := by decide +kernel
theorem dX8_greatestFee_12 : decode cX8_greatestFee 12 = .ok (.istore 4, 2) := by decide +kernel
theorem dX8_greatestFee_14 : decode cX8_greatestFee 14 = .ok (.iconst 0, 1) := by decide +kernel
theorem dX8_greatestFee_15 : decode cX8_greatestFee 15 = .ok (.istore 5, 2) := by decide +kernel
theorem dX8_greatestFee_17 : decode cX8_greatestFee 17 = .ok (.iload 5, 2) := by decide +kernel
theorem dX8_greatestFee_19 : decode cX8_greatestFee 19 = .ok (.bipush 50, 2) := by decide +kernel
theorem dX8_greatestFee_21 : decode cX8_greatestFee 21 = .ok (.if_icmp .gt 65, 3) := by decide +kernel
theorem dX8_greatestFee_24 : decode cX8_greatestFee 24 = .ok (.iload 4, 2) := by decide +kernel
theorem dX8_greatestFee_26 : decode cX8_greatestFee 26 = .ok (.iload_n 3, 1) := by decide +kernel
theorem dX8_greatestFee_27 : decode cX8_greatestFee 27 = .ok (.isub, 1) := by decide +kernel
theorem dX8_greatestFee_28 : decode cX8_greatestFee 28 = .ok (.iconst 1, 1) := by decide +kernel
theorem dX8_greatestFee_29 : decode cX8_greatestFee 29 = .ok (.if_icmp .le 57, 3) := by decide +kernel
theorem dX8_greatestFee_32 : decode cX8_greatestFee 32 = .ok (.aload_n 0, 1) := by decide +kernel
theorem dX8_greatestFee_33 : decode cX8_greatestFee 33 = .ok (.getfield 25, 3) := by decide +kernel
theorem dX8_greatestFee_36 : decode cX8_greatestFee 36 = .ok (.iload_n 3, 1) := by decide +kernel
theorem dX8_greatestFee_37 : decode cX8_greatestFee 37 = .ok (.iload 4, 2) := by decide +kernel
theorem dX8_greatestFee_39 : decode cX8_greatestFee 39 = .ok (.iadd, 1) := by decide +kernel
theorem dX8_greatestFee_40 : decode cX8_greatestFee 40 = .ok (.iconst 2, 1) := by decide +kernel
theorem dX8_greatestFee_41 : decode cX8_greatestFee 41 = .ok (.idiv, 1) := by decide +kernel
theorem dX8_greatestFee_42 : decode cX8_greatestFee 42 = .ok (.putfield 79, 3) := by decide +kernel
theorem dX8_greatestFee_45 : decode cX8_greatestFee 45 = .ok (.aload_n 0, 1) := by decide +kernel
theorem dX8_greatestFee_46 : decode cX8_greatestFee 46 = .ok (.iconst 0, 1) := by decide +kernel
theorem dX8_greatestFee_47 : decode cX8_greatestFee 47 = .ok (.invokevirtual 35, 3) := by decide +kernel
theorem dX8_greatestFee_50 : decode cX8_greatestFee 50 = .ok (.aload_n 0, 1) := by decide +kernel
theorem dX8_greatestFee_51 : decode cX8_greatestFee 51 = .ok (.iload_n 2, 1) := by decide +kernel
theorem dX8_greatestFee_52 : decode cX8_greatestFee 52 = .ok (.invokevirtual 39, 3) := by decide +kernel
theorem dX8_greatestFee_55 : decode cX8_greatestFee 55 = .ok (.ldc 51, 2) := by decide +kernel
theorem dX8_greatestFee_57 : decode cX8_greatestFee 57 = .ok (.if_icmp .ge 14, 3) := by decide +kernel
theorem dX8_greatestFee_60 : decode cX8_greatestFee 60 = .ok (.aload_n 0, 1) := by decide +kernel
theorem dX8_greatestFee_61 : decode cX8_greatestFee 61 = .ok (.getfield 25, 3) := by decide +kernel
theorem dX8_greatestFee_64 : decode cX8_greatestFee 64 = .ok (.getfield 79, 3) := by decide +kernel
theorem dX8_greatestFee_67 : decode cX8_greatestFee 67 = .ok (.istore_n 3, 1) := by decide +kernel
theorem dX8_greatestFee_68 : decode cX8_greatestFee 68 = .ok (.goto 12, 3) := by decide +kernel
theorem dX8_greatestFee_71 : decode cX8_greatestFee 71 = .ok (.aload_n 0, 1) := by decide +kernel
theorem dX8_greatestFee_72 : decode cX8_greatestFee 72 = .ok (.getfield 25, 3) := by decide +kernel
theorem dX8_greatestFee_75 : decode cX8_greatestFee 75 = .ok (.getfield 79, 3) := by decide +kernel
theorem dX8_greatestFee_78 : decode cX8_greatestFee 78 = .ok (.istore 4, 2) := by decide +kernel
theorem dX8_greatestFee_80 : decode cX8_greatestFee 80 = .ok (.iinc 5 1, 3) := by decide +kernel
theorem dX8_greatestFee_83 : decode cX8_greatestFee 83 = .ok (.goto (-66), 3) := by decide +kernel
theorem dX8_greatestFee_86 : decode cX8_greatestFee 86 = .ok (.iload_n 3, 1) := by decide +kernel
theorem dX8_greatestFee_87 : decode cX8_greatestFee 87 = .ok (.ifCond .ge 8, 3) := by decide +kernel
theorem dX8_greatestFee_90 : decode cX8_greatestFee 90 = .ok (.bipush (-3), 2) := by decide +kernel
theorem dX8_greatestFee_92 : decode cX8_greatestFee 92 = .ok (.goto 4, 3) := by decide +kernel
theorem dX8_greatestFee_95 : decode cX8_greatestFee 95 = .ok (.iload_n 3, 1) := by decide +kernel
theorem dX8_greatestFee_96 : decode cX8_greatestFee 96 = .ok (.ireturn, 1) := by decide +kernel
theorem dX8_solve_0 : decode cX8_solve 0 = .ok (.iload_n 1, 1) := by decide +kernel
theorem dX8_solve_1 : decode cX8_solve 1 = .ok (.ifCond .le 13, 3) := by decide +kernel
theorem dX8_solve_4 : decode cX8_solve 4 = .ok (.aload_n 0, 1) := by decide +kernel
theorem dX8_solve_5 : decode cX8_solve 5 = .ok (.getfield 25, 3) := by decide +kernel
theorem dX8_solve_8 : decode cX8_solve 8 = .ok (.invokevirtual 82, 3) := by decide +kernel
theorem dX8_solve_11 : decode cX8_solve 11 = .ok (.ifCond .eq 9, 3) := by decide +kernel
theorem dX8_solve_14 : decode cX8_solve 14 = .ok (.aload_n 0, 1) := by decide +kernel
theorem dX8_solve_15 : decode cX8_solve 15 = .ok (.iload_n 1, 1) := by decide +kernel
theorem dX8_solve_16 : decode cX8_solve 16 = .ok (.invokevirtual 86, 3) := by decide +kernel
theorem dX8_solve_19 : decode cX8_solve 19 = .ok (.ireturn, 1) := by decide +kernel
theorem dX8_solve_20 : decode cX8_solve 20 = .ok (.aload_n 0, 1) := by decide +kernel
theorem dX8_solve_21 : decode cX8_solve 21 = .ok (.iload_n 1, 1) := by decide +kernel
theorem dX8_solve_22 : decode cX8_solve 22 = .ok (.invokevirtual 89, 3) := by decide +kernel
theorem dX8_solve_25 : decode cX8_solve 25 = .ok (.lstore_n 2, 1) := by decide +kernel
theorem dX8_solve_26 : decode cX8_solve 26 = .ok (.lload_n 2, 1) := by decide +kernel
theorem dX8_solve_27 : decode cX8_solve 27 = .ok (.ldc2_w 93, 3) := by decide +kernel
theorem dX8_solve_30 : decode cX8_solve 30 = .ok (.lmul, 1) := by decide +kernel
theorem dX8_solve_31 : decode cX8_solve 31 = .ok (.bipush 53, 2) := by decide +kernel
theorem dX8_solve_33 : decode cX8_solve 33 = .ok (.lushr, 1) := by decide +kernel
theorem dX8_solve_34 : decode cX8_solve 34 = .ok (.l2i, 1) := by decide +kernel
theorem dX8_solve_35 : decode cX8_solve 35 = .ok (.istore 4, 2) := by decide +kernel
theorem dX8_solve_37 : decode cX8_solve 37 = .ok (.aload_n 0, 1) := by decide +kernel
theorem dX8_solve_38 : decode cX8_solve 38 = .ok (.getfield 18, 3) := by decide +kernel
theorem dX8_solve_41 : decode cX8_solve 41 = .ok (.iload 4, 2) := by decide +kernel
theorem dX8_solve_43 : decode cX8_solve 43 = .ok (.laload, 1) := by decide +kernel
theorem dX8_solve_44 : decode cX8_solve 44 = .ok (.lload_n 2, 1) := by decide +kernel
theorem dX8_solve_45 : decode cX8_solve 45 = .ok (.lcmp, 1) := by decide +kernel
theorem dX8_solve_46 : decode cX8_solve 46 = .ok (.ifCond .ne 11, 3) := by decide +kernel
theorem dX8_solve_49 : decode cX8_solve 49 = .ok (.aload_n 0, 1) := by decide +kernel
theorem dX8_solve_50 : decode cX8_solve 50 = .ok (.getfield 22, 3) := by decide +kernel
theorem dX8_solve_53 : decode cX8_solve 53 = .ok (.iload 4, 2) := by decide +kernel
theorem dX8_solve_55 : decode cX8_solve 55 = .ok (.iaload, 1) := by decide +kernel
theorem dX8_solve_56 : decode cX8_solve 56 = .ok (.ireturn, 1) := by decide +kernel
theorem dX8_solve_57 : decode cX8_solve 57 = .ok (.aload_n 0, 1) := by decide +kernel
theorem dX8_solve_58 : decode cX8_solve 58 = .ok (.invokevirtual 59, 3) := by decide +kernel
theorem dX8_solve_61 : decode cX8_solve 61 = .ok (.istore 5, 2) := by decide +kernel
theorem dX8_solve_63 : decode cX8_solve 63 = .ok (.getstatic 52, 3) := by decide +kernel
theorem dX8_solve_66 : decode cX8_solve 66 = .ok (.astore 6, 2) := by decide +kernel
theorem dX8_solve_68 : decode cX8_solve 68 = .ok (.aload 6, 2) := by decide +kernel
theorem dX8_solve_70 : decode cX8_solve 70 = .ok (.arraylength, 1) := by decide +kernel
theorem dX8_solve_71 : decode cX8_solve 71 = .ok (.istore 7, 2) := by decide +kernel
theorem dX8_solve_73 : decode cX8_solve 73 = .ok (.iconst 0, 1) := by decide +kernel
theorem dX8_solve_74 : decode cX8_solve 74 = .ok (.istore 8, 2) := by decide +kernel
theorem dX8_solve_76 : decode cX8_solve 76 = .ok (.iload 8, 2) := by decide +kernel
theorem dX8_solve_78 : decode cX8_solve 78 = .ok (.iload 7, 2) := by decide +kernel
theorem dX8_solve_80 : decode cX8_solve 80 = .ok (.if_icmp .ge 39, 3) := by decide +kernel
theorem dX8_solve_83 : decode cX8_solve 83 = .ok (.aload 6, 2) := by decide +kernel
theorem dX8_solve_85 : decode cX8_solve 85 = .ok (.iload 8, 2) := by decide +kernel
theorem dX8_solve_87 : decode cX8_solve 87 = .ok (.iaload, 1) := by decide +kernel
theorem dX8_solve_88 : decode cX8_solve 88 = .ok (.istore 9, 2) := by decide +kernel
theorem dX8_solve_90 : decode cX8_solve 90 = .ok (.aload_n 0, 1) := by decide +kernel
theorem dX8_solve_91 : decode cX8_solve 91 = .ok (.getfield 25, 3) := by decide +kernel
theorem dX8_solve_94 : decode cX8_solve 94 = .ok (.iload 9, 2) := by decide +kernel
theorem dX8_solve_96 : decode cX8_solve 96 = .ok (.invokevirtual 55, 3) := by decide +kernel
theorem dX8_solve_99 : decode cX8_solve 99 = .ok (.ifCond .eq 14, 3) := by decide +kernel
theorem dX8_solve_102 : decode cX8_solve 102 = .ok (.aload_n 0, 1) := by decide +kernel
theorem dX8_solve_103 : decode cX8_solve 103 = .ok (.iload 9, 2) := by decide +kernel
theorem dX8_solve_105 : decode cX8_solve 105 = .ok (.iload_n 1, 1) := by decide +kernel
theorem dX8_solve_106 : decode cX8_solve 106 = .ok (.iload 5, 2) := by decide +kernel
theorem dX8_solve_108 : decode cX8_solve 108 = .ok (.invokevirtual 63, 3) := by decide +kernel
theorem dX8_solve_111 : decode cX8_solve 111 = .ok (.istore 5, 2) := by decide +kernel
theorem dX8_solve_113 : decode cX8_solve 113 = .ok (.iinc 8 1, 3) := by decide +kernel
theorem dX8_solve_116 : decode cX8_solve 116 = .ok (.goto (-40), 3) := by decide +kernel
theorem dX8_solve_119 : decode cX8_solve 119 = .ok (.aload_n 0, 1) := by decide +kernel
theorem dX8_solve_120 : decode cX8_solve 120 = .ok (.getfield 18, 3) := by decide +kernel
theorem dX8_solve_123 : decode cX8_solve 123 = .ok (.iload 4, 2) := by decide +kernel
theorem dX8_solve_125 : decode cX8_solve 125 = .ok (.lload_n 2, 1) := by decide +kernel
theorem dX8_solve_126 : decode cX8_solve 126 = .ok (.lastore, 1) := by decide +kernel
theorem dX8_solve_127 : decode cX8_solve 127 = .ok (.aload_n 0, 1) := by decide +kernel
theorem dX8_solve_128 : decode cX8_solve 128 = .ok (.getfield 22, 3) := by decide +kernel
theorem dX8_solve_131 : decode cX8_solve 131 = .ok (.iload 4, 2) := by decide +kernel
theorem dX8_solve_133 : decode cX8_solve 133 = .ok (.iload 5, 2) := by decide +kernel
theorem dX8_solve_135 : decode cX8_solve 135 = .ok (.iastore, 1) := by decide +kernel
theorem dX8_solve_136 : decode cX8_solve 136 = .ok (.iload 5, 2) := by decide +kernel
theorem dX8_solve_138 : decode cX8_solve 138 = .ok (.ireturn, 1) := by decide +kernel
theorem dX8_joinedWith_0 : decode cX8_joinedWith 0 = .ok (.aload_n 0, 1) := by decide +kernel
theorem dX8_joinedWith_1 : decode cX8_joinedWith 1 = .ok (.getfield 25, 3) := by decide +kernel
theorem dX8_joinedWith_4 : decode cX8_joinedWith 4 = .ok (.getfield 95, 3) := by decide +kernel
theorem dX8_joinedWith_7 : decode cX8_joinedWith 7 = .ok (.iload_n 1, 1) := by decide +kernel
theorem dX8_joinedWith_8 : decode cX8_joinedWith 8 = .ok (.bipush 10, 2) := by decide +kernel
theorem dX8_joinedWith_10 : decode cX8_joinedWith 10 = .ok (.idiv, 1) := by decide +kernel
theorem dX8_joinedWith_11 : decode cX8_joinedWith 11 = .ok (.iaload, 1) := by decide +kernel
theorem dX8_joinedWith_12 : decode cX8_joinedWith 12 = .ok (.istore 4, 2) := by decide +kernel
theorem dX8_joinedWith_14 : decode cX8_joinedWith 14 = .ok (.aload_n 0, 1) := by decide +kernel
theorem dX8_joinedWith_15 : decode cX8_joinedWith 15 = .ok (.getfield 25, 3) := by decide +kernel
theorem dX8_joinedWith_18 : decode cX8_joinedWith 18 = .ok (.iload_n 1, 1) := by decide +kernel
theorem dX8_joinedWith_19 : decode cX8_joinedWith 19 = .ok (.invokevirtual 67, 3) := by decide +kernel
theorem dX8_joinedWith_22 : decode cX8_joinedWith 22 = .ok (.istore 5, 2) := by decide +kernel
theorem dX8_joinedWith_24 : decode cX8_joinedWith 24 = .ok (.aload_n 0, 1) := by decide +kernel
theorem dX8_joinedWith_25 : decode cX8_joinedWith 25 = .ok (.iload_n 2, 1) := by decide +kernel
theorem dX8_joinedWith_26 : decode cX8_joinedWith 26 = .ok (.iconst 1, 1) := by decide +kernel
theorem dX8_joinedWith_27 : decode cX8_joinedWith 27 = .ok (.isub, 1) := by decide +kernel
theorem dX8_joinedWith_28 : decode cX8_joinedWith 28 = .ok (.invokevirtual 39, 3) := by decide +kernel
theorem dX8_joinedWith_31 : decode cX8_joinedWith 31 = .ok (.istore 6, 2) := by decide +kernel
theorem dX8_joinedWith_33 : decode cX8_joinedWith 33 = .ok (.aload_n 0, 1) := by decide +kernel
theorem dX8_joinedWith_34 : decode cX8_joinedWith 34 = .ok (.getfield 25, 3) := by decide +kernel
theorem dX8_joinedWith_37 : decode cX8_joinedWith 37 = .ok (.iload_n 1, 1) := by decide +kernel
theorem dX8_joinedWith_38 : decode cX8_joinedWith 38 = .ok (.iload 4, 2) := by decide +kernel
theorem dX8_joinedWith_40 : decode cX8_joinedWith 40 = .ok (.iload 5, 2) := by decide +kernel
theorem dX8_joinedWith_42 : decode cX8_joinedWith 42 = .ok (.invokevirtual 98, 3) := by decide +kernel
theorem dX8_joinedWith_45 : decode cX8_joinedWith 45 = .ok (.aload_n 0, 1) := by decide +kernel
theorem dX8_joinedWith_46 : decode cX8_joinedWith 46 = .ok (.getfield 43, 3) := by decide +kernel
theorem dX8_joinedWith_49 : decode cX8_joinedWith 49 = .ok (.tableswitch 61 1 4 #[31, 36, 51, 43], 31) := by decide +kernel
theorem dX8_joinedWith_80 : decode cX8_joinedWith 80 = .ok (.iload_n 3, 1) := by decide +kernel
theorem dX8_joinedWith_81 : decode cX8_joinedWith 81 = .ok (.iload 6, 2) := by decide +kernel
theorem dX8_joinedWith_83 : decode cX8_joinedWith 83 = .ok (.iadd, 1) := by decide +kernel
theorem dX8_joinedWith_84 : decode cX8_joinedWith 84 = .ok (.ireturn, 1) := by decide +kernel
theorem dX8_joinedWith_85 : decode cX8_joinedWith 85 = .ok (.iload_n 3, 1) := by decide +kernel
theorem dX8_joinedWith_86 : decode cX8_joinedWith 86 = .ok (.iload 6, 2) := by decide +kernel
theorem dX8_joinedWith_88 : decode cX8_joinedWith 88 = .ok (.invokestatic 102, 3) := by decide +kernel
theorem dX8_joinedWith_91 : decode cX8_joinedWith 91 = .ok (.ireturn, 1) := by decide +kernel
theorem dX8_joinedWith_92 : decode cX8_joinedWith 92 = .ok (.iload_n 3, 1) := by decide +kernel
theorem dX8_joinedWith_93 : decode cX8_joinedWith 93 = .ok (.iload 6, 2) := by decide +kernel
theorem dX8_joinedWith_95 : decode cX8_joinedWith 95 = .ok (.ineg, 1) := by decide +kernel
theorem dX8_joinedWith_96 : decode cX8_joinedWith 96 = .ok (.invokestatic 102, 3) := by decide +kernel
theorem dX8_joinedWith_99 : decode cX8_joinedWith 99 = .ok (.ireturn, 1) := by decide +kernel
theorem dX8_joinedWith_100 : decode cX8_joinedWith 100 = .ok (.iload_n 3, 1) := by decide +kernel
theorem dX8_joinedWith_101 : decode cX8_joinedWith 101 = .ok (.iload 6, 2) := by decide +kernel
theorem dX8_joinedWith_103 : decode cX8_joinedWith 103 = .ok (.iload 5, 2) := by decide +kernel
theorem dX8_joinedWith_105 : decode cX8_joinedWith 105 = .ok (.iadd, 1) := by decide +kernel
theorem dX8_joinedWith_106 : decode cX8_joinedWith 106 = .ok (.invokestatic 108, 3) := by decide +kernel
theorem dX8_joinedWith_109 : decode cX8_joinedWith 109 = .ok (.ireturn, 1) := by decide +kernel
theorem dX8_joinedWith_110 : decode cX8_joinedWith 110 = .ok (.iload_n 3, 1) := by decide +kernel
theorem dX8_joinedWith_111 : decode cX8_joinedWith 111 = .ok (.iload 6, 2) := by decide +kernel
theorem dX8_joinedWith_113 : decode cX8_joinedWith 113 = .ok (.iconst 1, 1) := by decide +kernel
theorem dX8_joinedWith_114 : decode cX8_joinedWith 114 = .ok (.iadd, 1) := by decide +kernel
theorem dX8_joinedWith_115 : decode cX8_joinedWith 115 = .ok (.invokestatic 108, 3) := by decide +kernel
theorem dX8_joinedWith_118 : decode cX8_joinedWith 118 = .ok (.ireturn, 1) := by decide +kernel
theorem dX8_key_0 : decode cX8_key 0 = .ok (.aload_n 0, 1) := by decide +kernel
theorem dX8_key_1 : decode cX8_key 1 = .ok (.getfield 47, 3) := by decide +kernel
theorem dX8_key_4 : decode cX8_key 4 = .ok (.iconst 3, 1) := by decide +kernel
theorem dX8_key_5 : decode cX8_key 5 = .ok (.lshl, 1) := by decide +kernel
theorem dX8_key_6 : decode cX8_key 6 = .ok (.iload_n 1, 1) := by decide +kernel
theorem dX8_key_7 : decode cX8_key 7 = .ok (.i2l, 1) := by decide +kernel
theorem dX8_key_8 : decode cX8_key 8 = .ok (.lor, 1) := by decide +kernel
theorem dX8_key_9 : decode cX8_key 9 = .ok (.lstore_n 2, 1) := by decide +kernel
theorem dX8_key_10 : decode cX8_key 10 = .ok (.iconst 0, 1) := by decide +kernel
theorem dX8_key_11 : decode cX8_key 11 = .ok (.istore 4, 2) := by decide +kernel
theorem dX8_key_13 : decode cX8_key 13 = .ok (.iload 4, 2) := by decide +kernel
theorem dX8_key_15 : decode cX8_key 15 = .ok (.bipush 6, 2) := by decide +kernel
theorem dX8_key_17 : decode cX8_key 17 = .ok (.if_icmp .ge 25, 3) := by decide +kernel
theorem dX8_key_20 : decode cX8_key 20 = .ok (.lload_n 2, 1) := by decide +kernel
theorem dX8_key_21 : decode cX8_key 21 = .ok (.iconst 3, 1) := by decide +kernel
theorem dX8_key_22 : decode cX8_key 22 = .ok (.lshl, 1) := by decide +kernel
theorem dX8_key_23 : decode cX8_key 23 = .ok (.aload_n 0, 1) := by decide +kernel
theorem dX8_key_24 : decode cX8_key 24 = .ok (.getfield 25, 3) := by decide +kernel
theorem dX8_key_27 : decode cX8_key 27 = .ok (.getfield 95, 3) := by decide +kernel
theorem dX8_key_30 : decode cX8_key 30 = .ok (.iload 4, 2) := by decide +kernel
theorem dX8_key_32 : decode cX8_key 32 = .ok (.iaload, 1) := by decide +kernel
theorem dX8_key_33 : decode cX8_key 33 = .ok (.i2l, 1) := by decide +kernel
theorem dX8_key_34 : decode cX8_key 34 = .ok (.lor, 1) := by decide +kernel
theorem dX8_key_35 : decode cX8_key 35 = .ok (.lstore_n 2, 1) := by decide +kernel
theorem dX8_key_36 : decode cX8_key 36 = .ok (.iinc 4 1, 3) := by decide +kernel
theorem dX8_key_39 : decode cX8_key 39 = .ok (.goto (-26), 3) := by decide +kernel
theorem dX8_key_42 : decode cX8_key 42 = .ok (.lload_n 2, 1) := by decide +kernel
theorem dX8_key_43 : decode cX8_key 43 = .ok (.lreturn, 1) := by decide +kernel
theorem dX8_atEnd_0 : decode cX8_atEnd 0 = .ok (.aload_n 0, 1) := by decide +kernel
theorem dX8_atEnd_1 : decode cX8_atEnd 1 = .ok (.getfield 43, 3) := by decide +kernel
theorem dX8_atEnd_4 : decode cX8_atEnd 4 = .ok (.tableswitch 69 1 4 #[32, 48, 69, 59], 32) := by decide +kernel
theorem dX8_atEnd_36 : decode cX8_atEnd 36 = .ok (.aload_n 0, 1) := by decide +kernel
theorem dX8_atEnd_37 : decode cX8_atEnd 37 = .ok (.getfield 25, 3) := by decide +kernel
theorem dX8_atEnd_40 : decode cX8_atEnd 40 = .ok (.invokevirtual 82, 3) := by decide +kernel
theorem dX8_atEnd_43 : decode cX8_atEnd 43 = .ok (.ifCond .eq 7, 3) := by decide +kernel
theorem dX8_atEnd_46 : decode cX8_atEnd 46 = .ok (.iconst 1, 1) := by decide +kernel
theorem dX8_atEnd_47 : decode cX8_atEnd 47 = .ok (.goto 4, 3) := by decide +kernel
theorem dX8_atEnd_50 : decode cX8_atEnd 50 = .ok (.iconst 0, 1) := by decide +kernel
theorem dX8_atEnd_51 : decode cX8_atEnd 51 = .ok (.ireturn, 1) := by decide +kernel
theorem dX8_atEnd_52 : decode cX8_atEnd 52 = .ok (.aload_n 0, 1) := by decide +kernel
theorem dX8_atEnd_53 : decode cX8_atEnd 53 = .ok (.getfield 25, 3) := by decide +kernel
theorem dX8_atEnd_56 : decode cX8_atEnd 56 = .ok (.getfield 111, 3) := by decide +kernel
theorem dX8_atEnd_59 : decode cX8_atEnd 59 = .ok (.invokestatic 114, 3) := by decide +kernel
theorem dX8_atEnd_62 : decode cX8_atEnd 62 = .ok (.ireturn, 1) := by decide +kernel
theorem dX8_atEnd_63 : decode cX8_atEnd 63 = .ok (.iload_n 1, 1) := by decide +kernel
theorem dX8_atEnd_64 : decode cX8_atEnd 64 = .ok (.ifCond .gt 7, 3) := by decide +kernel
theorem dX8_atEnd_67 : decode cX8_atEnd 67 = .ok (.iconst 0, 1) := by decide +kernel
theorem dX8_atEnd_68 : decode cX8_atEnd 68 = .ok (.goto 4, 3) := by decide +kernel
theorem dX8_atEnd_71 : decode cX8_atEnd 71 = .ok (.iconst (-1), 1) := by decide +kernel
theorem dX8_atEnd_72 : decode cX8_atEnd 72 = .ok (.ireturn, 1) := by decide +kernel
theorem dX8_atEnd_73 : decode cX8_atEnd 73 = .ok (.aload_n 0, 1) := by decide +kernel
theorem dX8_atEnd_74 : decode cX8_atEnd 74 = .ok (.getfield 25, 3) := by decide +kernel
theorem dX8_atEnd_77 : decode cX8_atEnd 77 = .ok (.invokevirtual 82, 3) := by decide +kernel
theorem dX8_atEnd_80 : decode cX8_atEnd 80 = .ok (.ifCond .eq 7, 3) := by decide +kernel
theorem dX8_atEnd_83 : decode cX8_atEnd 83 = .ok (.iconst 0, 1) := by decide +kernel
theorem dX8_atEnd_84 : decode cX8_atEnd 84 = .ok (.goto 5, 3) := by decide +kernel
theorem dX8_atEnd_87 : decode cX8_atEnd 87 = .ok (.ldc 51, 2) := by decide +kernel
theorem dX8_atEnd_89 : decode cX8_atEnd 89 = .ok (.ireturn, 1) := by decide +kernel
theorem dX8_atFirst_0 : decode cX8_atFirst 0 = .ok (.aload_n 0, 1) := by decide +kernel
theorem dX8_atFirst_1 : decode cX8_atFirst 1 = .ok (.getfield 43, 3) := by decide +kernel
theorem dX8_atFirst_4 : decode cX8_atFirst 4 = .ok (.tableswitch 47 1 4 #[32, 34, 47, 45], 32) := by decide +kernel
theorem dX8_atFirst_36 : decode cX8_atFirst 36 = .ok (.iconst 0, 1) := by decide +kernel
theorem dX8_atFirst_37 : decode cX8_atFirst 37 = .ok (.ireturn, 1) := by decide +kernel
theorem dX8_atFirst_38 : decode cX8_atFirst 38 = .ok (.aload_n 0, 1) := by decide +kernel
theorem dX8_atFirst_39 : decode cX8_atFirst 39 = .ok (.getfield 25, 3) := by decide +kernel
theorem dX8_atFirst_42 : decode cX8_atFirst 42 = .ok (.getfield 111, 3) := by decide +kernel
theorem dX8_atFirst_45 : decode cX8_atFirst 45 = .ok (.invokestatic 114, 3) := by decide +kernel
theorem dX8_atFirst_48 : decode cX8_atFirst 48 = .ok (.ireturn, 1) := by decide +kernel
theorem dX8_atFirst_49 : decode cX8_atFirst 49 = .ok (.iconst (-1), 1) := by decide +kernel
theorem dX8_atFirst_50 : decode cX8_atFirst 50 = .ok (.ireturn, 1) := by decide +kernel
theorem dX8_atFirst_51 : decode cX8_atFirst 51 = .ok (.ldc 51, 2) := by decide +kernel
theorem dX8_atFirst_53 : decode cX8_atFirst 53 = .ok (.ireturn, 1) := by decide +kernel
theorem dX8_ringsOf_0 : decode cX8_ringsOf 0 = .ok (.aload_n 0, 1) := by decide +kernel
theorem dX8_ringsOf_1 : decode cX8_ringsOf 1 = .ok (.getfield 25, 3) := by decide +kernel
theorem dX8_ringsOf_4 : decode cX8_ringsOf 4 = .ok (.aload_n 1, 1) := by decide +kernel
theorem dX8_ringsOf_5 : decode cX8_ringsOf 5 = .ok (.invokevirtual 29, 3) := by decide +kernel
theorem dX8_ringsOf_8 : decode cX8_ringsOf 8 = .ok (.aload_n 0, 1) := by decide +kernel
theorem dX8_ringsOf_9 : decode cX8_ringsOf 9 = .ok (.iconst 0, 1) := by decide +kernel
theorem dX8_ringsOf_10 : decode cX8_ringsOf 10 = .ok (.putfield 119, 3) := by decide +kernel
theorem dX8_ringsOf_13 : decode cX8_ringsOf 13 = .ok (.iconst 0, 1) := by decide +kernel
theorem dX8_ringsOf_14 : decode cX8_ringsOf 14 = .ok (.istore_n 3, 1) := by decide +kernel
theorem dX8_ringsOf_15 : decode cX8_ringsOf 15 = .ok (.iload_n 3, 1) := by decide +kernel
theorem dX8_ringsOf_16 : decode cX8_ringsOf 16 = .ok (.aload_n 0, 1) := by decide +kernel
theorem dX8_ringsOf_17 : decode cX8_ringsOf 17 = .ok (.getfield 25, 3) := by decide +kernel
theorem dX8_ringsOf_20 : decode cX8_ringsOf 20 = .ok (.getfield 70, 3) := by decide +kernel
theorem dX8_ringsOf_23 : decode cX8_ringsOf 23 = .ok (.if_icmp .ge 16, 3) := by decide +kernel
theorem dX8_ringsOf_26 : decode cX8_ringsOf 26 = .ok (.aload_n 0, 1) := by decide +kernel
theorem dX8_ringsOf_27 : decode cX8_ringsOf 27 = .ok (.iload_n 3, 1) := by decide +kernel
theorem dX8_ringsOf_28 : decode cX8_ringsOf 28 = .ok (.iconst 0, 1) := by decide +kernel
theorem dX8_ringsOf_29 : decode cX8_ringsOf 29 = .ok (.iload_n 2, 1) := by decide +kernel
theorem dX8_ringsOf_30 : decode cX8_ringsOf 30 = .ok (.invokevirtual 122, 3) := by decide +kernel
theorem dX8_ringsOf_33 : decode cX8_ringsOf 33 = .ok (.iinc 3 1, 3) := by decide +kernel
theorem dX8_ringsOf_36 : decode cX8_ringsOf 36 = .ok (.goto (-21), 3) := by decide +kernel
theorem dX8_ringsOf_39 : decode cX8_ringsOf 39 = .ok (.aload_n 0, 1) := by decide +kernel
theorem dX8_ringsOf_40 : decode cX8_ringsOf 40 = .ok (.getfield 119, 3) := by decide +kernel
theorem dX8_ringsOf_43 : decode cX8_ringsOf 43 = .ok (.ireturn, 1) := by decide +kernel
theorem dX8_goOn_0 : decode cX8_goOn 0 = .ok (.aload_n 0, 1) := by decide +kernel
theorem dX8_goOn_1 : decode cX8_goOn 1 = .ok (.getfield 15, 3) := by decide +kernel
theorem dX8_goOn_4 : decode cX8_goOn 4 = .ok (.iload_n 2, 1) := by decide +kernel
theorem dX8_goOn_5 : decode cX8_goOn 5 = .ok (.iload_n 1, 1) := by decide +kernel
theorem dX8_goOn_6 : decode cX8_goOn 6 = .ok (.iastore, 1) := by decide +kernel
theorem dX8_goOn_7 : decode cX8_goOn 7 = .ok (.iload_n 2, 1) := by decide +kernel
theorem dX8_goOn_8 : decode cX8_goOn 8 = .ok (.iconst 1, 1) := by decide +kernel
theorem dX8_goOn_9 : decode cX8_goOn 9 = .ok (.iadd, 1) := by decide +kernel
theorem dX8_goOn_10 : decode cX8_goOn 10 = .ok (.iload_n 3, 1) := by decide +kernel
theorem dX8_goOn_11 : decode cX8_goOn 11 = .ok (.if_icmp .ge 14, 3) := by decide +kernel
theorem dX8_goOn_14 : decode cX8_goOn 14 = .ok (.aload_n 0, 1) := by decide +kernel
theorem dX8_goOn_15 : decode cX8_goOn 15 = .ok (.iload_n 2, 1) := by decide +kernel
theorem dX8_goOn_16 : decode cX8_goOn 16 = .ok (.iconst 1, 1) := by decide +kernel
theorem dX8_goOn_17 : decode cX8_goOn 17 = .ok (.iadd, 1) := by decide +kernel
theorem dX8_goOn_18 : decode cX8_goOn 18 = .ok (.iload_n 3, 1) := by decide +kernel
theorem dX8_goOn_19 : decode cX8_goOn 19 = .ok (.invokevirtual 125, 3) := by decide +kernel
theorem dX8_goOn_22 : decode cX8_goOn 22 = .ok (.goto 48, 3) := by decide +kernel
theorem dX8_goOn_25 : decode cX8_goOn 25 = .ok (.aload_n 0, 1) := by decide +kernel
theorem dX8_goOn_26 : decode cX8_goOn 26 = .ok (.iload_n 1, 1) := by decide +kernel
theorem dX8_goOn_27 : decode cX8_goOn 27 = .ok (.aload_n 0, 1) := by decide +kernel
theorem dX8_goOn_28 : decode cX8_goOn 28 = .ok (.getfield 15, 3) := by decide +kernel
theorem dX8_goOn_31 : decode cX8_goOn 31 = .ok (.iconst 0, 1) := by decide +kernel
theorem dX8_goOn_32 : decode cX8_goOn 32 = .ok (.iaload, 1) := by decide +kernel
theorem dX8_goOn_33 : decode cX8_goOn 33 = .ok (.invokevirtual 129, 3) := by decide +kernel
theorem dX8_goOn_36 : decode cX8_goOn 36 = .ok (.ifCond .eq 34, 3) := by decide +kernel
theorem dX8_goOn_39 : decode cX8_goOn 39 = .ok (.aload_n 0, 1) := by decide +kernel
theorem dX8_goOn_40 : decode cX8_goOn 40 = .ok (.getfield 119, 3) := by decide +kernel
theorem dX8_goOn_43 : decode cX8_goOn 43 = .ok (.ifCond .ne 17, 3) := by decide +kernel
theorem dX8_goOn_46 : decode cX8_goOn 46 = .ok (.aload_n 0, 1) := by decide +kernel
theorem dX8_goOn_47 : decode cX8_goOn 47 = .ok (.getfield 15, 3) := by decide +kernel
theorem dX8_goOn_50 : decode cX8_goOn 50 = .ok (.iconst 0, 1) := by decide +kernel
theorem dX8_goOn_51 : decode cX8_goOn 51 = .ok (.aload_n 0, 1) := by decide +kernel
theorem dX8_goOn_52 : decode cX8_goOn 52 = .ok (.getfield 9, 3) := by decide +kernel
theorem dX8_goOn_55 : decode cX8_goOn 55 = .ok (.iconst 0, 1) := by decide +kernel
theorem dX8_goOn_56 : decode cX8_goOn 56 = .ok (.iload_n 3, 1) := by decide +kernel
theorem dX8_goOn_57 : decode cX8_goOn 57 = .ok (.invokestatic 133, 3) := by decide +kernel
theorem dX8_goOn_60 : decode cX8_goOn 60 = .ok (.aload_n 0, 1) := by decide +kernel
theorem dX8_goOn_61 : decode cX8_goOn 61 = .ok (.dup, 1) := by decide +kernel
theorem dX8_goOn_62 : decode cX8_goOn 62 = .ok (.getfield 119, 3) := by decide +kernel
theorem dX8_goOn_65 : decode cX8_goOn 65 = .ok (.iconst 1, 1) := by decide +kernel
theorem dX8_goOn_66 : decode cX8_goOn 66 = .ok (.iadd, 1) := by decide +kernel
theorem dX8_goOn_67 : decode cX8_goOn 67 = .ok (.putfield 119, 3) := by decide +kernel
theorem dX8_goOn_70 : decode cX8_goOn 70 = .ok (.return_, 1) := by decide +kernel
theorem dX8_lookOn_0 : decode cX8_lookOn 0 = .ok (.aload_n 0, 1) := by decide +kernel
theorem dX8_lookOn_1 : decode cX8_lookOn 1 = .ok (.getfield 15, 3) := by decide +kernel
theorem dX8_lookOn_4 : decode cX8_lookOn 4 = .ok (.iconst 0, 1) := by decide +kernel
theorem dX8_lookOn_5 : decode cX8_lookOn 5 = .ok (.iaload, 1) := by decide +kernel
theorem dX8_lookOn_6 : decode cX8_lookOn 6 = .ok (.iconst 1, 1) := by decide +kernel
theorem dX8_lookOn_7 : decode cX8_lookOn 7 = .ok (.iadd, 1) := by decide +kernel
theorem dX8_lookOn_8 : decode cX8_lookOn 8 = .ok (.istore_n 3, 1) := by decide +kernel
theorem dX8_lookOn_9 : decode cX8_lookOn 9 = .ok (.iload_n 3, 1) := by decide +kernel
theorem dX8_lookOn_10 : decode cX8_lookOn 10 = .ok (.aload_n 0, 1) := by decide +kernel
theorem dX8_lookOn_11 : decode cX8_lookOn 11 = .ok (.getfield 25, 3) := by decide +kernel
theorem dX8_lookOn_14 : decode cX8_lookOn 14 = .ok (.getfield 70, 3) := by decide +kernel
theorem dX8_lookOn_17 : decode cX8_lookOn 17 = .ok (.if_icmp .ge 41, 3) := by decide +kernel
theorem dX8_lookOn_20 : decode cX8_lookOn 20 = .ok (.aload_n 0, 1) := by decide +kernel
theorem dX8_lookOn_21 : decode cX8_lookOn 21 = .ok (.aload_n 0, 1) := by decide +kernel
theorem dX8_lookOn_22 : decode cX8_lookOn 22 = .ok (.getfield 15, 3) := by decide +kernel
theorem dX8_lookOn_25 : decode cX8_lookOn 25 = .ok (.iload_n 1, 1) := by decide +kernel
theorem dX8_lookOn_26 : decode cX8_lookOn 26 = .ok (.iconst 1, 1) := by decide +kernel
theorem dX8_lookOn_27 : decode cX8_lookOn 27 = .ok (.isub, 1) := by decide +kernel
theorem dX8_lookOn_28 : decode cX8_lookOn 28 = .ok (.iaload, 1) := by decide +kernel
theorem dX8_lookOn_29 : decode cX8_lookOn 29 = .ok (.iload_n 3, 1) := by decide +kernel
theorem dX8_lookOn_30 : decode cX8_lookOn 30 = .ok (.invokevirtual 129, 3) := by decide +kernel
theorem dX8_lookOn_33 : decode cX8_lookOn 33 = .ok (.ifCond .eq 19, 3) := by decide +kernel
theorem dX8_lookOn_36 : decode cX8_lookOn 36 = .ok (.aload_n 0, 1) := by decide +kernel
theorem dX8_lookOn_37 : decode cX8_lookOn 37 = .ok (.iload_n 3, 1) := by decide +kernel
theorem dX8_lookOn_38 : decode cX8_lookOn 38 = .ok (.iload_n 1, 1) := by decide +kernel
theorem dX8_lookOn_39 : decode cX8_lookOn 39 = .ok (.invokevirtual 139, 3) := by decide +kernel
theorem dX8_lookOn_42 : decode cX8_lookOn 42 = .ok (.ifCond .ne 10, 3) := by decide +kernel
theorem dX8_lookOn_45 : decode cX8_lookOn 45 = .ok (.aload_n 0, 1) := by decide +kernel
theorem dX8_lookOn_46 : decode cX8_lookOn 46 = .ok (.iload_n 3, 1) := by decide +kernel
theorem dX8_lookOn_47 : decode cX8_lookOn 47 = .ok (.iload_n 1, 1) := by decide +kernel
theorem dX8_lookOn_48 : decode cX8_lookOn 48 = .ok (.iload_n 2, 1) := by decide +kernel
theorem dX8_lookOn_49 : decode cX8_lookOn 49 = .ok (.invokevirtual 122, 3) := by decide +kernel
theorem dX8_lookOn_52 : decode cX8_lookOn 52 = .ok (.iinc 3 1, 3) := by decide +kernel
theorem dX8_lookOn_55 : decode cX8_lookOn 55 = .ok (.goto (-46), 3) := by decide +kernel
theorem dX8_lookOn_58 : decode cX8_lookOn 58 = .ok (.return_, 1) := by decide +kernel
theorem dX8_isOnPath_0 : decode cX8_isOnPath 0 = .ok (.iconst 0, 1) := by decide +kernel
theorem dX8_isOnPath_1 : decode cX8_isOnPath 1 = .ok (.istore_n 3, 1) := by decide +kernel
theorem dX8_isOnPath_2 : decode cX8_isOnPath 2 = .ok (.iload_n 3, 1) := by decide +kernel
theorem dX8_isOnPath_3 : decode cX8_isOnPath 3 = .ok (.iload_n 2, 1) := by decide +kernel
theorem dX8_isOnPath_4 : decode cX8_isOnPath 4 = .ok (.if_icmp .ge 21, 3) := by decide +kernel
theorem dX8_isOnPath_7 : decode cX8_isOnPath 7 = .ok (.aload_n 0, 1) := by decide +kernel
theorem dX8_isOnPath_8 : decode cX8_isOnPath 8 = .ok (.getfield 15, 3) := by decide +kernel
theorem dX8_isOnPath_11 : decode cX8_isOnPath 11 = .ok (.iload_n 3, 1) := by decide +kernel
theorem dX8_isOnPath_12 : decode cX8_isOnPath 12 = .ok (.iaload, 1) := by decide +kernel
theorem dX8_isOnPath_13 : decode cX8_isOnPath 13 = .ok (.iload_n 1, 1) := by decide +kernel
theorem dX8_isOnPath_14 : decode cX8_isOnPath 14 = .ok (.if_icmp .ne 5, 3) := by decide +kernel
theorem dX8_isOnPath_17 : decode cX8_isOnPath 17 = .ok (.iconst 1, 1) := by decide +kernel
theorem dX8_isOnPath_18 : decode cX8_isOnPath 18 = .ok (.ireturn, 1) := by decide +kernel
theorem dX8_isOnPath_19 : decode cX8_isOnPath 19 = .ok (.iinc 3 1, 3) := by decide +kernel
theorem dX8_isOnPath_22 : decode cX8_isOnPath 22 = .ok (.goto (-20), 3) := by decide +kernel
theorem dX8_isOnPath_25 : decode cX8_isOnPath 25 = .ok (.iconst 0, 1) := by decide +kernel
theorem dX8_isOnPath_26 : decode cX8_isOnPath 26 = .ok (.ireturn, 1) := by decide +kernel
theorem dX8_isNext_0 : decode cX8_isNext 0 = .ok (.aload_n 0, 1) := by decide +kernel
theorem dX8_isNext_1 : decode cX8_isNext 1 = .ok (.getfield 25, 3) := by decide +kernel
theorem dX8_isNext_4 : decode cX8_isNext 4 = .ok (.getfield 111, 3) := by decide +kernel
theorem dX8_isNext_7 : decode cX8_isNext 7 = .ok (.iload_n 2, 1) := by decide +kernel
theorem dX8_isNext_8 : decode cX8_isNext 8 = .ok (.ishr, 1) := by decide +kernel
theorem dX8_isNext_9 : decode cX8_isNext 9 = .ok (.iconst 1, 1) := by decide +kernel
theorem dX8_isNext_10 : decode cX8_isNext 10 = .ok (.iand, 1) := by decide +kernel
theorem dX8_isNext_11 : decode cX8_isNext 11 = .ok (.ifCond .ne 45, 3) := by decide +kernel
theorem dX8_isNext_14 : decode cX8_isNext 14 = .ok (.aload_n 0, 1) := by decide +kernel
theorem dX8_isNext_15 : decode cX8_isNext 15 = .ok (.getfield 25, 3) := by decide +kernel
theorem dX8_isNext_18 : decode cX8_isNext 18 = .ok (.getfield 142, 3) := by decide +kernel
theorem dX8_isNext_21 : decode cX8_isNext 21 = .ok (.iload_n 1, 1) := by decide +kernel
theorem dX8_isNext_22 : decode cX8_isNext 22 = .ok (.iaload, 1) := by decide +kernel
theorem dX8_isNext_23 : decode cX8_isNext 23 = .ok (.iload_n 2, 1) := by decide +kernel
theorem dX8_isNext_24 : decode cX8_isNext 24 = .ok (.ishr, 1) := by decide +kernel
theorem dX8_isNext_25 : decode cX8_isNext 25 = .ok (.iconst 1, 1) := by decide +kernel
theorem dX8_isNext_26 : decode cX8_isNext 26 = .ok (.iand, 1) := by decide +kernel
theorem dX8_isNext_27 : decode cX8_isNext 27 = .ok (.iconst 1, 1) := by decide +kernel
theorem dX8_isNext_28 : decode cX8_isNext 28 = .ok (.if_icmp .ne 28, 3) := by decide +kernel
theorem dX8_isNext_31 : decode cX8_isNext 31 = .ok (.aload_n 0, 1) := by decide +kernel
theorem dX8_isNext_32 : decode cX8_isNext 32 = .ok (.getfield 25, 3) := by decide +kernel
theorem dX8_isNext_35 : decode cX8_isNext 35 = .ok (.getfield 145, 3) := by decide +kernel
theorem dX8_isNext_38 : decode cX8_isNext 38 = .ok (.iload_n 1, 1) := by decide +kernel
theorem dX8_isNext_39 : decode cX8_isNext 39 = .ok (.iaload, 1) := by decide +kernel
theorem dX8_isNext_40 : decode cX8_isNext 40 = .ok (.aload_n 0, 1) := by decide +kernel
theorem dX8_isNext_41 : decode cX8_isNext 41 = .ok (.getfield 25, 3) := by decide +kernel
theorem dX8_isNext_44 : decode cX8_isNext 44 = .ok (.getfield 95, 3) := by decide +kernel
theorem dX8_isNext_47 : decode cX8_isNext 47 = .ok (.iload_n 2, 1) := by decide +kernel
theorem dX8_isNext_48 : decode cX8_isNext 48 = .ok (.iaload, 1) := by decide +kernel
theorem dX8_isNext_49 : decode cX8_isNext 49 = .ok (.if_icmp .ne 7, 3) := by decide +kernel
theorem dX8_isNext_52 : decode cX8_isNext 52 = .ok (.iconst 1, 1) := by decide +kernel
theorem dX8_isNext_53 : decode cX8_isNext 53 = .ok (.goto 4, 3) := by decide +kernel
theorem dX8_isNext_56 : decode cX8_isNext 56 = .ok (.iconst 0, 1) := by decide +kernel
theorem dX8_isNext_57 : decode cX8_isNext 57 = .ok (.ireturn, 1) := by decide +kernel
theorem dX8_bartered_0 : decode cX8_bartered 0 = .ok (.aload_n 0, 1) := by decide +kernel
theorem dX8_bartered_1 : decode cX8_bartered 1 = .ok (.getfield 25, 3) := by decide +kernel
theorem dX8_bartered_4 : decode cX8_bartered 4 = .ok (.aload_n 1, 1) := by decide +kernel
theorem dX8_bartered_5 : decode cX8_bartered 5 = .ok (.invokevirtual 29, 3) := by decide +kernel
theorem dX8_bartered_8 : decode cX8_bartered 8 = .ok (.aload_n 0, 1) := by decide +kernel
theorem dX8_bartered_9 : decode cX8_bartered 9 = .ok (.iload_n 2, 1) := by decide +kernel
theorem dX8_bartered_10 : decode cX8_bartered 10 = .ok (.iload_n 3, 1) := by decide +kernel
theorem dX8_bartered_11 : decode cX8_bartered 11 = .ok (.invokevirtual 148, 3) := by decide +kernel
theorem dX8_bartered_14 : decode cX8_bartered 14 = .ok (.ireturn, 1) := by decide +kernel
theorem dX8_barters_0 : decode cX8_barters 0 = .ok (.iconst 1, 1) := by decide +kernel
theorem dX8_barters_1 : decode cX8_barters 1 = .ok (.aload_n 0, 1) := by decide +kernel
theorem dX8_barters_2 : decode cX8_barters 2 = .ok (.getfield 25, 3) := by decide +kernel
theorem dX8_barters_5 : decode cX8_barters 5 = .ok (.getfield 95, 3) := by decide +kernel
theorem dX8_barters_8 : decode cX8_barters 8 = .ok (.iload_n 1, 1) := by decide +kernel
theorem dX8_barters_9 : decode cX8_barters 9 = .ok (.iaload, 1) := by decide +kernel
theorem dX8_barters_10 : decode cX8_barters 10 = .ok (.ishl, 1) := by decide +kernel
theorem dX8_barters_11 : decode cX8_barters 11 = .ok (.istore_n 3, 1) := by decide +kernel
theorem dX8_barters_12 : decode cX8_barters 12 = .ok (.iconst 0, 1) := by decide +kernel
theorem dX8_barters_13 : decode cX8_barters 13 = .ok (.istore 4, 2) := by decide +kernel
theorem dX8_barters_15 : decode cX8_barters 15 = .ok (.iload 4, 2) := by decide +kernel
theorem dX8_barters_17 : decode cX8_barters 17 = .ok (.aload_n 0, 1) := by decide +kernel
theorem dX8_barters_18 : decode cX8_barters 18 = .ok (.getfield 25, 3) := by decide +kernel
theorem dX8_barters_21 : decode cX8_barters 21 = .ok (.getfield 70, 3) := by decide +kernel
theorem dX8_barters_24 : decode cX8_barters 24 = .ok (.if_icmp .ge 42, 3) := by decide +kernel
theorem dX8_barters_27 : decode cX8_barters 27 = .ok (.iload_n 2, 1) := by decide +kernel
theorem dX8_barters_28 : decode cX8_barters 28 = .ok (.ifCond .le 38, 3) := by decide +kernel
theorem dX8_barters_31 : decode cX8_barters 31 = .ok (.aload_n 0, 1) := by decide +kernel
theorem dX8_barters_32 : decode cX8_barters 32 = .ok (.getfield 25, 3) := by decide +kernel
theorem dX8_barters_35 : decode cX8_barters 35 = .ok (.getfield 142, 3) := by decide +kernel
theorem dX8_barters_38 : decode cX8_barters 38 = .ok (.iload_n 1, 1) := by decide +kernel
theorem dX8_barters_39 : decode cX8_barters 39 = .ok (.iaload, 1) := by decide +kernel
theorem dX8_barters_40 : decode cX8_barters 40 = .ok (.iload 4, 2) := by decide +kernel
theorem dX8_barters_42 : decode cX8_barters 42 = .ok (.ishr, 1) := by decide +kernel
theorem dX8_barters_43 : decode cX8_barters 43 = .ok (.iconst 1, 1) := by decide +kernel
theorem dX8_barters_44 : decode cX8_barters 44 = .ok (.iand, 1) := by decide +kernel
theorem dX8_barters_45 : decode cX8_barters 45 = .ok (.iconst 1, 1) := by decide +kernel
theorem dX8_barters_46 : decode cX8_barters 46 = .ok (.if_icmp .ne 14, 3) := by decide +kernel
theorem dX8_barters_49 : decode cX8_barters 49 = .ok (.iload_n 3, 1) := by decide +kernel
theorem dX8_barters_50 : decode cX8_barters 50 = .ok (.aload_n 0, 1) := by decide +kernel
theorem dX8_barters_51 : decode cX8_barters 51 = .ok (.iload_n 1, 1) := by decide +kernel
theorem dX8_barters_52 : decode cX8_barters 52 = .ok (.iload 4, 2) := by decide +kernel
theorem dX8_barters_54 : decode cX8_barters 54 = .ok (.iload_n 2, 1) := by decide +kernel
theorem dX8_barters_55 : decode cX8_barters 55 = .ok (.invokevirtual 151, 3) := by decide +kernel
theorem dX8_barters_58 : decode cX8_barters 58 = .ok (.ior, 1) := by decide +kernel
theorem dX8_barters_59 : decode cX8_barters 59 = .ok (.istore_n 3, 1) := by decide +kernel
theorem dX8_barters_60 : decode cX8_barters 60 = .ok (.iinc 4 1, 3) := by decide +kernel
theorem dX8_barters_63 : decode cX8_barters 63 = .ok (.goto (-48), 3) := by decide +kernel
theorem dX8_barters_66 : decode cX8_barters 66 = .ok (.iload_n 3, 1) := by decide +kernel
theorem dX8_barters_67 : decode cX8_barters 67 = .ok (.ireturn, 1) := by decide +kernel
theorem dX8_bartersWith_0 : decode cX8_bartersWith 0 = .ok (.aload_n 0, 1) := by decide +kernel
theorem dX8_bartersWith_1 : decode cX8_bartersWith 1 = .ok (.getfield 25, 3) := by decide +kernel
theorem dX8_bartersWith_4 : decode cX8_bartersWith 4 = .ok (.getfield 95, 3) := by decide +kernel
theorem dX8_bartersWith_7 : decode cX8_bartersWith 7 = .ok (.iload_n 1, 1) := by decide +kernel
theorem dX8_bartersWith_8 : decode cX8_bartersWith 8 = .ok (.iaload, 1) := by decide +kernel
theorem dX8_bartersWith_9 : decode cX8_bartersWith 9 = .ok (.istore 4, 2) := by decide +kernel
theorem dX8_bartersWith_11 : decode cX8_bartersWith 11 = .ok (.aload_n 0, 1) := by decide +kernel
theorem dX8_bartersWith_12 : decode cX8_bartersWith 12 = .ok (.getfield 25, 3) := by decide +kernel
theorem dX8_bartersWith_15 : decode cX8_bartersWith 15 = .ok (.getfield 95, 3) := by decide +kernel
theorem dX8_bartersWith_18 : decode cX8_bartersWith 18 = .ok (.iload_n 2, 1) := by decide +kernel
theorem dX8_bartersWith_19 : decode cX8_bartersWith 19 = .ok (.iaload, 1) := by decide +kernel
theorem dX8_bartersWith_20 : decode cX8_bartersWith 20 = .ok (.istore 5, 2) := by decide +kernel
theorem dX8_bartersWith_22 : decode cX8_bartersWith 22 = .ok (.iload 4, 2) := by decide +kernel
theorem dX8_bartersWith_24 : decode cX8_bartersWith 24 = .ok (.iload 5, 2) := by decide +kernel
theorem dX8_bartersWith_26 : decode cX8_bartersWith 26 = .ok (.if_icmp .eq 26, 3) := by decide +kernel
theorem dX8_bartersWith_29 : decode cX8_bartersWith 29 = .ok (.aload_n 0, 1) := by decide +kernel
theorem dX8_bartersWith_30 : decode cX8_bartersWith 30 = .ok (.getfield 25, 3) := by decide +kernel
theorem dX8_bartersWith_33 : decode cX8_bartersWith 33 = .ok (.getfield 154, 3) := by decide +kernel
theorem dX8_bartersWith_36 : decode cX8_bartersWith 36 = .ok (.iload 4, 2) := by decide +kernel
theorem dX8_bartersWith_38 : decode cX8_bartersWith 38 = .ok (.iaload, 1) := by decide +kernel
theorem dX8_bartersWith_39 : decode cX8_bartersWith 39 = .ok (.aload_n 0, 1) := by decide +kernel
theorem dX8_bartersWith_40 : decode cX8_bartersWith 40 = .ok (.getfield 25, 3) := by decide +kernel
theorem dX8_bartersWith_43 : decode cX8_bartersWith 43 = .ok (.getfield 154, 3) := by decide +kernel
theorem dX8_bartersWith_46 : decode cX8_bartersWith 46 = .ok (.iload 5, 2) := by decide +kernel
theorem dX8_bartersWith_48 : decode cX8_bartersWith 48 = .ok (.iaload, 1) := by decide +kernel
theorem dX8_bartersWith_49 : decode cX8_bartersWith 49 = .ok (.if_icmp .ge 5, 3) := by decide +kernel
theorem dX8_bartersWith_52 : decode cX8_bartersWith 52 = .ok (.iconst 0, 1) := by decide +kernel
theorem dX8_bartersWith_53 : decode cX8_bartersWith 53 = .ok (.ireturn, 1) := by decide +kernel
theorem dX8_bartersWith_54 : decode cX8_bartersWith 54 = .ok (.aload_n 0, 1) := by decide +kernel
theorem dX8_bartersWith_55 : decode cX8_bartersWith 55 = .ok (.getfield 25, 3) := by decide +kernel
theorem dX8_bartersWith_58 : decode cX8_bartersWith 58 = .ok (.iload_n 1, 1) := by decide +kernel
theorem dX8_bartersWith_59 : decode cX8_bartersWith 59 = .ok (.iload_n 2, 1) := by decide +kernel
theorem dX8_bartersWith_60 : decode cX8_bartersWith 60 = .ok (.invokevirtual 157, 3) := by decide +kernel
theorem dX8_bartersWith_63 : decode cX8_bartersWith 63 = .ok (.aload_n 0, 1) := by decide +kernel
theorem dX8_bartersWith_64 : decode cX8_bartersWith 64 = .ok (.iload_n 1, 1) := by decide +kernel
theorem dX8_bartersWith_65 : decode cX8_bartersWith 65 = .ok (.iload_n 3, 1) := by decide +kernel
theorem dX8_bartersWith_66 : decode cX8_bartersWith 66 = .ok (.iconst 1, 1) := by decide +kernel
theorem dX8_bartersWith_67 : decode cX8_bartersWith 67 = .ok (.isub, 1) := by decide +kernel
theorem dX8_bartersWith_68 : decode cX8_bartersWith 68 = .ok (.invokevirtual 148, 3) := by decide +kernel
theorem dX8_bartersWith_71 : decode cX8_bartersWith 71 = .ok (.istore 6, 2) := by decide +kernel
theorem dX8_bartersWith_73 : decode cX8_bartersWith 73 = .ok (.aload_n 0, 1) := by decide +kernel
theorem dX8_bartersWith_74 : decode cX8_bartersWith 74 = .ok (.getfield 25, 3) := by decide +kernel
theorem dX8_bartersWith_77 : decode cX8_bartersWith 77 = .ok (.iload_n 1, 1) := by decide +kernel
theorem dX8_bartersWith_78 : decode cX8_bartersWith 78 = .ok (.iload_n 2, 1) := by decide +kernel
theorem dX8_bartersWith_79 : decode cX8_bartersWith 79 = .ok (.invokevirtual 157, 3) := by decide +kernel
theorem dX8_bartersWith_82 : decode cX8_bartersWith 82 = .ok (.iload 6, 2) := by decide +kernel
theorem dX8_bartersWith_84 : decode cX8_bartersWith 84 = .ok (.ireturn, 1) := by decide +kernel
theorem dX9_init_0 : decode cX9_init 0 = .ok (.aload_n 0, 1) := by decide +kernel
theorem dX9_init_1 : decode cX9_init 1 = .ok (.invokespecial 3, 3) := by decide +kernel
theorem dX9_init_4 : decode cX9_init 4 = .ok (.aload_n 0, 1) := by decide +kernel
theorem dX9_init_5 : decode cX9_init 5 = .ok (.new 9, 3) := by decide +kernel
theorem dX9_init_8 : decode cX9_init 8 = .ok (.dup, 1) := by decide +kernel
theorem dX9_init_9 : decode cX9_init 9 = .ok (.invokespecial 11, 3) := by decide +kernel
theorem dX9_init_12 : decode cX9_init 12 = .ok (.putfield 12, 3) := by decide +kernel
theorem dX9_init_15 : decode cX9_init 15 = .ok (.aload_n 0, 1) := by decide +kernel
theorem dX9_init_16 : decode cX9_init 16 = .ok (.bipush 6, 2) := by decide +kernel
theorem dX9_init_18 : decode cX9_init 18 = .ok (.newarray .int, 2) := by decide +kernel
theorem dX9_init_20 : decode cX9_init 20 = .ok (.putfield 18, 3) := by decide +kernel
theorem dX9_init_23 : decode cX9_init 23 = .ok (.aload_n 0, 1) := by decide +kernel
theorem dX9_init_24 : decode cX9_init 24 = .ok (.bipush 6, 2) := by decide +kernel
theorem dX9_init_26 : decode cX9_init 26 = .ok (.newarray .int, 2) := by decide +kernel
theorem dX9_init_28 : decode cX9_init 28 = .ok (.putfield 22, 3) := by decide +kernel
theorem dX9_init_31 : decode cX9_init 31 = .ok (.aload_n 0, 1) := by decide +kernel
theorem dX9_init_32 : decode cX9_init 32 = .ok (.bipush 6, 2) := by decide +kernel
theorem dX9_init_34 : decode cX9_init 34 = .ok (.newarray .int, 2) := by decide +kernel
theorem dX9_init_36 : decode cX9_init 36 = .ok (.putfield 25, 3) := by decide +kernel
theorem dX9_init_39 : decode cX9_init 39 = .ok (.aload_n 0, 1) := by decide +kernel
theorem dX9_init_40 : decode cX9_init 40 = .ok (.bipush 6, 2) := by decide +kernel
theorem dX9_init_42 : decode cX9_init 42 = .ok (.newarray .int, 2) := by decide +kernel
theorem dX9_init_44 : decode cX9_init 44 = .ok (.putfield 28, 3) := by decide +kernel
theorem dX9_init_47 : decode cX9_init 47 = .ok (.aload_n 0, 1) := by decide +kernel
theorem dX9_init_48 : decode cX9_init 48 = .ok (.bipush 6, 2) := by decide +kernel
theorem dX9_init_50 : decode cX9_init 50 = .ok (.newarray .int, 2) := by decide +kernel
theorem dX9_init_52 : decode cX9_init 52 = .ok (.putfield 31, 3) := by decide +kernel
theorem dX9_init_55 : decode cX9_init 55 = .ok (.aload_n 0, 1) := by decide +kernel
theorem dX9_init_56 : decode cX9_init 56 = .ok (.bipush 8, 2) := by decide +kernel
theorem dX9_init_58 : decode cX9_init 58 = .ok (.newarray .int, 2) := by decide +kernel
theorem dX9_init_60 : decode cX9_init 60 = .ok (.putfield 34, 3) := by decide +kernel
theorem dX9_init_63 : decode cX9_init 63 = .ok (.aload_n 0, 1) := by decide +kernel
theorem dX9_init_64 : decode cX9_init 64 = .ok (.bipush 8, 2) := by decide +kernel
theorem dX9_init_66 : decode cX9_init 66 = .ok (.newarray .int, 2) := by decide +kernel
theorem dX9_init_68 : decode cX9_init 68 = .ok (.putfield 37, 3) := by decide +kernel
theorem dX9_init_71 : decode cX9_init 71 = .ok (.aload_n 0, 1) := by decide +kernel
theorem dX9_init_72 : decode cX9_init 72 = .ok (.iconst 1, 1) := by decide +kernel
theorem dX9_init_73 : decode cX9_init 73 = .ok (.putfield 40, 3) := by decide +kernel
theorem dX9_init_76 : decode cX9_init 76 = .ok (.aload_n 0, 1) := by decide +kernel
theorem dX9_init_77 : decode cX9_init 77 = .ok (.bipush 12, 2) := by decide +kernel
theorem dX9_init_79 : decode cX9_init 79 = .ok (.iconst 3, 1) := by decide +kernel
theorem dX9_init_80 : decode cX9_init 80 = .ok (.multianewarray 44 2, 4) := by decide +kernel
theorem dX9_init_84 : decode cX9_init 84 = .ok (.putfield 46, 3) := by decide +kernel
theorem dX9_init_87 : decode cX9_init 87 = .ok (.aload_n 0, 1) := by decide +kernel
theorem dX9_init_88 : decode cX9_init 88 = .ok (.bipush 6, 2) := by decide +kernel
theorem dX9_init_90 : decode cX9_init 90 = .ok (.iconst 3, 1) := by decide +kernel
theorem dX9_init_91 : decode cX9_init 91 = .ok (.multianewarray 44 2, 4) := by decide +kernel
theorem dX9_init_95 : decode cX9_init 95 = .ok (.putfield 49, 3) := by decide +kernel
theorem dX9_init_98 : decode cX9_init 98 = .ok (.aload_n 0, 1) := by decide +kernel
theorem dX9_init_99 : decode cX9_init 99 = .ok (.aload_n 1, 1) := by decide +kernel
theorem dX9_init_100 : decode cX9_init 100 = .ok (.putfield 52, 3) := by decide +kernel
theorem dX9_init_103 : decode cX9_init 103 = .ok (.return_, 1) := by decide +kernel
theorem dX9_copyFrom_0 : decode cX9_copyFrom 0 = .ok (.aload_n 0, 1) := by decide +kernel
theorem dX9_copyFrom_1 : decode cX9_copyFrom 1 = .ok (.aload_n 1, 1) := by decide +kernel
theorem dX9_copyFrom_2 : decode cX9_copyFrom 2 = .ok (.invokevirtual 56, 3) := by decide +kernel
theorem dX9_copyFrom_5 : decode cX9_copyFrom 5 = .ok (.aload_n 0, 1) := by decide +kernel
theorem dX9_copyFrom_6 : decode cX9_copyFrom 6 = .ok (.aload_n 1, 1) := by decide +kernel
theorem dX9_copyFrom_7 : decode cX9_copyFrom 7 = .ok (.getfield 40, 3) := by decide +kernel
theorem dX9_copyFrom_10 : decode cX9_copyFrom 10 = .ok (.putfield 40, 3) := by decide +kernel
theorem dX9_copyFrom_13 : decode cX9_copyFrom 13 = .ok (.aload_n 0, 1) := by decide +kernel
theorem dX9_copyFrom_14 : decode cX9_copyFrom 14 = .ok (.aload_n 1, 1) := by decide +kernel
theorem dX9_copyFrom_15 : decode cX9_copyFrom 15 = .ok (.getfield 60, 3) := by decide +kernel
theorem dX9_copyFrom_18 : decode cX9_copyFrom 18 = .ok (.putfield 60, 3) := by decide +kernel
theorem dX9_copyFrom_21 : decode cX9_copyFrom 21 = .ok (.aload_n 1, 1) := by decide +kernel
theorem dX9_copyFrom_22 : decode cX9_copyFrom 22 = .ok (.getfield 46, 3) := by decide +kernel
theorem dX9_copyFrom_25 : decode cX9_copyFrom 25 = .ok (.aload_n 0, 1) := by decide +kernel
theorem dX9_copyFrom_26 : decode cX9_copyFrom 26 = .ok (.getfield 46, 3) := by decide +kernel
theorem dX9_copyFrom_29 : decode cX9_copyFrom 29 = .ok (.invokestatic 63, 3) := by decide +kernel
theorem dX9_copyFrom_32 : decode cX9_copyFrom 32 = .ok (.aload_n 0, 1) := by decide +kernel
theorem dX9_copyFrom_33 : decode cX9_copyFrom 33 = .ok (.aload_n 1, 1) := by decide +kernel
theorem dX9_copyFrom_34 : decode cX9_copyFrom 34 = .ok (.getfield 67, 3) := by decide +kernel
theorem dX9_copyFrom_37 : decode cX9_copyFrom 37 = .ok (.putfield 67, 3) := by decide +kernel
theorem dX9_copyFrom_40 : decode cX9_copyFrom 40 = .ok (.aload_n 1, 1) := by decide +kernel
theorem dX9_copyFrom_41 : decode cX9_copyFrom 41 = .ok (.getfield 49, 3) := by decide +kernel
theorem dX9_copyFrom_44 : decode cX9_copyFrom 44 = .ok (.aload_n 0, 1) := by decide +kernel
theorem dX9_copyFrom_45 : decode cX9_copyFrom 45 = .ok (.getfield 49, 3) := by decide +kernel
theorem dX9_copyFrom_48 : decode cX9_copyFrom 48 = .ok (.invokestatic 63, 3) := by decide +kernel
theorem dX9_copyFrom_51 : decode cX9_copyFrom 51 = .ok (.return_, 1) := by decide +kernel
theorem dX9_copyPlayFrom_0 : decode cX9_copyPlayFrom 0 = .ok (.aload_n 0, 1) := by decide +kernel
theorem dX9_copyPlayFrom_1 : decode cX9_copyPlayFrom 1 = .ok (.getfield 12, 3) := by decide +kernel
theorem dX9_copyPlayFrom_4 : decode cX9_copyPlayFrom 4 = .ok (.aload_n 1, 1) := by decide +kernel
theorem dX9_copyPlayFrom_5 : decode cX9_copyPlayFrom 5 = .ok (.getfield 12, 3) := by decide +kernel
theorem dX9_copyPlayFrom_8 : decode cX9_copyPlayFrom 8 = .ok (.invokevirtual 70, 3) := by decide +kernel
theorem dX9_copyPlayFrom_11 : decode cX9_copyPlayFrom 11 = .ok (.aload_n 0, 1) := by decide +kernel
theorem dX9_copyPlayFrom_12 : decode cX9_copyPlayFrom 12 = .ok (.aload_n 1, 1) := by decide +kernel
theorem dX9_copyPlayFrom_13 : decode cX9_copyPlayFrom 13 = .ok (.getfield 74, 3) := by decide +kernel
theorem dX9_copyPlayFrom_16 : decode cX9_copyPlayFrom 16 = .ok (.putfield 74, 3) := by decide +kernel
theorem dX9_copyPlayFrom_19 : decode cX9_copyPlayFrom 19 = .ok (.aload_n 1, 1) := by decide +kernel
theorem dX9_copyPlayFrom_20 : decode cX9_copyPlayFrom 20 = .ok (.getfield 18, 3) := by decide +kernel
theorem dX9_copyPlayFrom_23 : decode cX9_copyPlayFrom 23 = .ok (.iconst 0, 1) := by decide +kernel
theorem dX9_copyPlayFrom_24 : decode cX9_copyPlayFrom 24 = .ok (.aload_n 0, 1) := by decide +kernel
theorem dX9_copyPlayFrom_25 : decode cX9_copyPlayFrom 25 = .ok (.getfield 18, 3) := by decide +kernel
theorem dX9_copyPlayFrom_28 : decode cX9_copyPlayFrom 28 = .ok (.iconst 0, 1) := by decide +kernel
theorem dX9_copyPlayFrom_29 : decode cX9_copyPlayFrom 29 = .ok (.bipush 6, 2) := by decide +kernel
theorem dX9_copyPlayFrom_31 : decode cX9_copyPlayFrom 31 = .ok (.invokestatic 77, 3) := by decide +kernel
theorem dX9_copyPlayFrom_34 : decode cX9_copyPlayFrom 34 = .ok (.aload_n 1, 1) := by decide +kernel
theorem dX9_copyPlayFrom_35 : decode cX9_copyPlayFrom 35 = .ok (.getfield 22, 3) := by decide +kernel
theorem dX9_copyPlayFrom_38 : decode cX9_copyPlayFrom 38 = .ok (.iconst 0, 1) := by decide +kernel
theorem dX9_copyPlayFrom_39 : decode cX9_copyPlayFrom 39 = .ok (.aload_n 0, 1) := by decide +kernel
theorem dX9_copyPlayFrom_40 : decode cX9_copyPlayFrom 40 = .ok (.getfield 22, 3) := by decide +kernel
theorem dX9_copyPlayFrom_43 : decode cX9_copyPlayFrom 43 = .ok (.iconst 0, 1) := by decide +kernel
theorem dX9_copyPlayFrom_44 : decode cX9_copyPlayFrom 44 = .ok (.bipush 6, 2) := by decide +kernel
theorem dX9_copyPlayFrom_46 : decode cX9_copyPlayFrom 46 = .ok (.invokestatic 77, 3) := by decide +kernel
theorem dX9_copyPlayFrom_49 : decode cX9_copyPlayFrom 49 = .ok (.aload_n 1, 1) := by decide +kernel
theorem dX9_copyPlayFrom_50 : decode cX9_copyPlayFrom 50 = .ok (.getfield 25, 3) := by decide +kernel
theorem dX9_copyPlayFrom_53 : decode cX9_copyPlayFrom 53 = .ok (.iconst 0, 1) := by decide +kernel
theorem dX9_copyPlayFrom_54 : decode cX9_copyPlayFrom 54 = .ok (.aload_n 0, 1) := by decide +kernel
theorem dX9_copyPlayFrom_55 : decode cX9_copyPlayFrom 55 = .ok (.getfield 25, 3) := by decide +kernel
theorem dX9_copyPlayFrom_58 : decode cX9_copyPlayFrom 58 = .ok (.iconst 0, 1) := by decide +kernel
theorem dX9_copyPlayFrom_59 : decode cX9_copyPlayFrom 59 = .ok (.bipush 6, 2) := by decide +kernel
theorem dX9_copyPlayFrom_61 : decode cX9_copyPlayFrom 61 = .ok (.invokestatic 77, 3) := by decide +kernel
theorem dX9_copyPlayFrom_64 : decode cX9_copyPlayFrom 64 = .ok (.aload_n 1, 1) := by decide +kernel
theorem dX9_copyPlayFrom_65 : decode cX9_copyPlayFrom 65 = .ok (.getfield 28, 3) := by decide +kernel
theorem dX9_copyPlayFrom_68 : decode cX9_copyPlayFrom 68 = .ok (.iconst 0, 1) := by decide +kernel
theorem dX9_copyPlayFrom_69 : decode cX9_copyPlayFrom 69 = .ok (.aload_n 0, 1) := by decide +kernel
theorem dX9_copyPlayFrom_70 : decode cX9_copyPlayFrom 70 = .ok (.getfield 28, 3) := by decide +kernel
theorem dX9_copyPlayFrom_73 : decode cX9_copyPlayFrom 73 = .ok (.iconst 0, 1) := by decide +kernel
theorem dX9_copyPlayFrom_74 : decode cX9_copyPlayFrom 74 = .ok (.bipush 6, 2) := by decide +kernel
theorem dX9_copyPlayFrom_76 : decode cX9_copyPlayFrom 76 = .ok (.invokestatic 77, 3) := by decide +kernel
theorem dX9_copyPlayFrom_79 : decode cX9_copyPlayFrom 79 = .ok (.aload_n 1, 1) := by decide +kernel
theorem dX9_copyPlayFrom_80 : decode cX9_copyPlayFrom 80 = .ok (.getfield 31, 3) := by decide +kernel
theorem dX9_copyPlayFrom_83 : decode cX9_copyPlayFrom 83 = .ok (.iconst 0, 1) := by decide +kernel
theorem dX9_copyPlayFrom_84 : decode cX9_copyPlayFrom 84 = .ok (.aload_n 0, 1) := by decide +kernel
theorem dX9_copyPlayFrom_85 : decode cX9_copyPlayFrom 85 = .ok (.getfield 31, 3) := by decide +kernel
theorem dX9_copyPlayFrom_88 : decode cX9_copyPlayFrom 88 = .ok (.iconst 0, 1) := by decide +kernel
theorem dX9_copyPlayFrom_89 : decode cX9_copyPlayFrom 89 = .ok (.bipush 6, 2) := by decide +kernel
theorem dX9_copyPlayFrom_91 : decode cX9_copyPlayFrom 91 = .ok (.invokestatic 77, 3) := by decide +kernel
theorem dX9_copyPlayFrom_94 : decode cX9_copyPlayFrom 94 = .ok (.aload_n 0, 1) := by decide +kernel
theorem dX9_copyPlayFrom_95 : decode cX9_copyPlayFrom 95 = .ok (.aload_n 1, 1) := by decide +kernel
theorem dX9_copyPlayFrom_96 : decode cX9_copyPlayFrom 96 = .ok (.getfield 83, 3) := by decide +kernel
theorem dX9_copyPlayFrom_99 : decode cX9_copyPlayFrom 99 = .ok (.putfield 83, 3) := by decide +kernel
theorem dX9_copyPlayFrom_102 : decode cX9_copyPlayFrom 102 = .ok (.aload_n 0, 1) := by decide +kernel
theorem dX9_copyPlayFrom_103 : decode cX9_copyPlayFrom 103 = .ok (.aload_n 1, 1) := by decide +kernel
theorem dX9_copyPlayFrom_104 : decode cX9_copyPlayFrom 104 = .ok (.getfield 86, 3) := by decide +kernel
theorem dX9_copyPlayFrom_107 : decode cX9_copyPlayFrom 107 = .ok (.putfield 86, 3) := by decide +kernel
theorem dX9_copyPlayFrom_110 : decode cX9_copyPlayFrom 110 = .ok (.aload_n 1, 1) := by decide +kernel
theorem dX9_copyPlayFrom_111 : decode cX9_copyPlayFrom 111 = .ok (.getfield 34, 3) := by decide +kernel
theorem dX9_copyPlayFrom_114 : decode cX9_copyPlayFrom 114 = .ok (.iconst 0, 1) := by decide +kernel
theorem dX9_copyPlayFrom_115 : decode cX9_copyPlayFrom 115 = .ok (.aload_n 0, 1) := by decide +kernel
theorem dX9_copyPlayFrom_116 : decode cX9_copyPlayFrom 116 = .ok (.getfield 34, 3) := by decide +kernel
theorem dX9_copyPlayFrom_119 : decode cX9_copyPlayFrom 119 = .ok (.iconst 0, 1) := by decide +kernel
theorem dX9_copyPlayFrom_120 : decode cX9_copyPlayFrom 120 = .ok (.bipush 8, 2) := by decide +kernel
theorem dX9_copyPlayFrom_122 : decode cX9_copyPlayFrom 122 = .ok (.invokestatic 77, 3) := by decide +kernel
theorem dX9_copyPlayFrom_125 : decode cX9_copyPlayFrom 125 = .ok (.aload_n 1, 1) := by decide +kernel
theorem dX9_copyPlayFrom_126 : decode cX9_copyPlayFrom 126 = .ok (.getfield 37, 3) := by decide +kernel
theorem dX9_copyPlayFrom_129 : decode cX9_copyPlayFrom 129 = .ok (.iconst 0, 1) := by decide +kernel
theorem dX9_copyPlayFrom_130 : decode cX9_copyPlayFrom 130 = .ok (.aload_n 0, 1) := by decide +kernel
theorem dX9_copyPlayFrom_131 : decode cX9_copyPlayFrom 131 = .ok (.getfield 37, 3) := by decide +kernel
theorem dX9_copyPlayFrom_134 : decode cX9_copyPlayFrom 134 = .ok (.iconst 0, 1) := by decide +kernel
theorem dX9_copyPlayFrom_135 : decode cX9_copyPlayFrom 135 = .ok (.bipush 8, 2) := by decide +kernel
theorem dX9_copyPlayFrom_137 : decode cX9_copyPlayFrom 137 = .ok (.invokestatic 77, 3) := by decide +kernel
theorem dX9_copyPlayFrom_140 : decode cX9_copyPlayFrom 140 = .ok (.aload_n 0, 1) := by decide +kernel
theorem dX9_copyPlayFrom_141 : decode cX9_copyPlayFrom 141 = .ok (.aload_n 1, 1) := by decide +kernel
theorem dX9_copyPlayFrom_142 : decode cX9_copyPlayFrom 142 = .ok (.getfield 89, 3) := by decide +kernel
theorem dX9_copyPlayFrom_145 : decode cX9_copyPlayFrom 145 = .ok (.putfield 89, 3) := by decide +kernel
theorem dX9_copyPlayFrom_148 : decode cX9_copyPlayFrom 148 = .ok (.return_, 1) := by decide +kernel
theorem dX9_copyRows_0 : decode cX9_copyRows 0 = .ok (.iconst 0, 1) := by decide +kernel
theorem dX9_copyRows_1 : decode cX9_copyRows 1 = .ok (.istore_n 2, 1) := by decide +kernel
theorem dX9_copyRows_2 : decode cX9_copyRows 2 = .ok (.iload_n 2, 1) := by decide +kernel
theorem dX9_copyRows_3 : decode cX9_copyRows 3 = .ok (.aload_n 0, 1) := by decide +kernel
theorem dX9_copyRows_4 : decode cX9_copyRows 4 = .ok (.arraylength, 1) := by decide +kernel
theorem dX9_copyRows_5 : decode cX9_copyRows 5 = .ok (.if_icmp .ge 27, 3) := by decide +kernel
theorem dX9_copyRows_8 : decode cX9_copyRows 8 = .ok (.iload_n 2, 1) := by decide +kernel
theorem dX9_copyRows_9 : decode cX9_copyRows 9 = .ok (.aload_n 1, 1) := by decide +kernel
theorem dX9_copyRows_10 : decode cX9_copyRows 10 = .ok (.arraylength, 1) := by decide +kernel
theorem dX9_copyRows_11 : decode cX9_copyRows 11 = .ok (.if_icmp .ge 21, 3) := by decide +kernel
theorem dX9_copyRows_14 : decode cX9_copyRows 14 = .ok (.aload_n 0, 1) := by decide +kernel
theorem dX9_copyRows_15 : decode cX9_copyRows 15 = .ok (.iload_n 2, 1) := by decide +kernel
theorem dX9_copyRows_16 : decode cX9_copyRows 16 = .ok (.aaload, 1) := by decide +kernel
theorem dX9_copyRows_17 : decode cX9_copyRows 17 = .ok (.iconst 0, 1) := by decide +kernel
theorem dX9_copyRows_18 : decode cX9_copyRows 18 = .ok (.aload_n 1, 1) := by decide +kernel
theorem dX9_copyRows_19 : decode cX9_copyRows 19 = .ok (.iload_n 2, 1) := by decide +kernel
theorem dX9_copyRows_20 : decode cX9_copyRows 20 = .ok (.aaload, 1) := by decide +kernel
theorem dX9_copyRows_21 : decode cX9_copyRows 21 = .ok (.iconst 0, 1) := by decide +kernel
theorem dX9_copyRows_22 : decode cX9_copyRows 22 = .ok (.iconst 3, 1) := by decide +kernel
theorem dX9_copyRows_23 : decode cX9_copyRows 23 = .ok (.invokestatic 77, 3) := by decide +kernel
theorem dX9_copyRows_26 : decode cX9_copyRows 26 = .ok (.iinc 2 1, 3) := by decide +kernel
theorem dX9_copyRows_29 : decode cX9_copyRows 29 = .ok (.goto (-27), 3) := by decide +kernel
theorem dX9_copyRows_32 : decode cX9_copyRows 32 = .ok (.return_, 1) := by decide +kernel
theorem dX9_isPerson_0 : decode cX9_isPerson 0 = .ok (.iload_n 1, 1) := by decide +kernel
theorem dX9_isPerson_1 : decode cX9_isPerson 1 = .ok (.ifCond .lt 15, 3) := by decide +kernel
theorem dX9_isPerson_4 : decode cX9_isPerson 4 = .ok (.iload_n 1, 1) := by decide +kernel
theorem dX9_isPerson_5 : decode cX9_isPerson 5 = .ok (.aload_n 0, 1) := by decide +kernel
theorem dX9_isPerson_6 : decode cX9_isPerson 6 = .ok (.getfield 74, 3) := by decide +kernel
theorem dX9_isPerson_9 : decode cX9_isPerson 9 = .ok (.if_icmp .ge 7, 3) := by decide +kernel
theorem dX9_isPerson_12 : decode cX9_isPerson 12 = .ok (.iconst 1, 1) := by decide +kernel
theorem dX9_isPerson_13 : decode cX9_isPerson 13 = .ok (.goto 4, 3) := by decide +kernel
theorem dX9_isPerson_16 : decode cX9_isPerson 16 = .ok (.iconst 0, 1) := by decide +kernel
theorem dX9_isPerson_17 : decode cX9_isPerson 17 = .ok (.ireturn, 1) := by decide +kernel
theorem dX9_mark_0 : decode cX9_mark 0 = .ok (.aload_n 0, 1) := by decide +kernel
theorem dX9_mark_1 : decode cX9_mark 1 = .ok (.getfield 22, 3) := by decide +kernel
theorem dX9_mark_4 : decode cX9_mark 4 = .ok (.iload_n 1, 1) := by decide +kernel
theorem dX9_mark_5 : decode cX9_mark 5 = .ok (.iaload, 1) := by decide +kernel
theorem dX9_mark_6 : decode cX9_mark 6 = .ok (.aload_n 0, 1) := by decide +kernel
theorem dX9_mark_7 : decode cX9_mark 7 = .ok (.getfield 25, 3) := by decide +kernel
theorem dX9_mark_10 : decode cX9_mark 10 = .ok (.iload_n 1, 1) := by decide +kernel
theorem dX9_mark_11 : decode cX9_mark 11 = .ok (.iaload, 1) := by decide +kernel
theorem dX9_mark_12 : decode cX9_mark 12 = .ok (.if_icmp .ne 18, 3) := by decide +kernel
theorem dX9_mark_15 : decode cX9_mark 15 = .ok (.aload_n 0, 1) := by decide +kernel
theorem dX9_mark_16 : decode cX9_mark 16 = .ok (.dup, 1) := by decide +kernel
theorem dX9_mark_17 : decode cX9_mark 17 = .ok (.getfield 83, 3) := by decide +kernel
theorem dX9_mark_20 : decode cX9_mark 20 = .ok (.iconst 1, 1) := by decide +kernel
theorem dX9_mark_21 : decode cX9_mark 21 = .ok (.iload_n 1, 1) := by decide +kernel
theorem dX9_mark_22 : decode cX9_mark 22 = .ok (.ishl, 1) := by decide +kernel
theorem dX9_mark_23 : decode cX9_mark 23 = .ok (.ior, 1) := by decide +kernel
theorem dX9_mark_24 : decode cX9_mark 24 = .ok (.putfield 83, 3) := by decide +kernel
theorem dX9_mark_27 : decode cX9_mark 27 = .ok (.goto 17, 3) := by decide +kernel
theorem dX9_mark_30 : decode cX9_mark 30 = .ok (.aload_n 0, 1) := by decide +kernel
theorem dX9_mark_31 : decode cX9_mark 31 = .ok (.dup, 1) := by decide +kernel
theorem dX9_mark_32 : decode cX9_mark 32 = .ok (.getfield 83, 3) := by decide +kernel
theorem dX9_mark_35 : decode cX9_mark 35 = .ok (.iconst 1, 1) := by decide +kernel
theorem dX9_mark_36 : decode cX9_mark 36 = .ok (.iload_n 1, 1) := by decide +kernel
theorem dX9_mark_37 : decode cX9_mark 37 = .ok (.ishl, 1) := by decide +kernel
theorem dX9_mark_38 : decode cX9_mark 38 = .ok (.iconst (-1), 1) := by decide +kernel
theorem dX9_mark_39 : decode cX9_mark 39 = .ok (.ixor, 1) := by decide +kernel
theorem dX9_mark_40 : decode cX9_mark 40 = .ok (.iand, 1) := by decide +kernel
theorem dX9_mark_41 : decode cX9_mark 41 = .ok (.putfield 83, 3) := by decide +kernel
theorem dX9_mark_44 : decode cX9_mark 44 = .ok (.return_, 1) := by decide +kernel
theorem dX9_isDone_0 : decode cX9_isDone 0 = .ok (.aload_n 0, 1) := by decide +kernel
theorem dX9_isDone_1 : decode cX9_isDone 1 = .ok (.getfield 83, 3) := by decide +kernel
theorem dX9_isDone_4 : decode cX9_isDone 4 = .ok (.aload_n 0, 1) := by decide +kernel
theorem dX9_isDone_5 : decode cX9_isDone 5 = .ok (.getfield 86, 3) := by decide +kernel
theorem dX9_isDone_8 : decode cX9_isDone 8 = .ok (.ior, 1) := by decide +kernel
theorem dX9_isDone_9 : decode cX9_isDone 9 = .ok (.iconst 1, 1) := by decide +kernel
theorem dX9_isDone_10 : decode cX9_isDone 10 = .ok (.aload_n 0, 1) := by decide +kernel
theorem dX9_isDone_11 : decode cX9_isDone 11 = .ok (.getfield 74, 3) := by decide +kernel
theorem dX9_isDone_14 : decode cX9_isDone 14 = .ok (.ishl, 1) := by decide +kernel
theorem dX9_isDone_15 : decode cX9_isDone 15 = .ok (.iconst 1, 1) := by decide +kernel
theorem dX9_isDone_16 : decode cX9_isDone 16 = .ok (.isub, 1) := by decide +kernel
theorem dX9_isDone_17 : decode cX9_isDone 17 = .ok (.if_icmp .ne 7, 3) := by decide +kernel
theorem dX9_isDone_20 : decode cX9_isDone 20 = .ok (.iconst 1, 1) := by decide +kernel
theorem dX9_isDone_21 : decode cX9_isDone 21 = .ok (.goto 4, 3) := by decide +kernel
theorem dX9_isDone_24 : decode cX9_isDone 24 = .ok (.iconst 0, 1) := by decide +kernel
theorem dX9_isDone_25 : decode cX9_isDone 25 = .ok (.ireturn, 1) := by decide +kernel
theorem dX9_coinsOfAll_0 : decode cX9_coinsOfAll 0 = .ok (.iconst 0, 1) := by decide +kernel
theorem dX9_coinsOfAll_1 : decode cX9_coinsOfAll 1 = .ok (.istore_n 1, 1) := by decide +kernel
theorem dX9_coinsOfAll_2 : decode cX9_coinsOfAll 2 = .ok (.iconst 0, 1) := by decide +kernel
theorem dX9_coinsOfAll_3 : decode cX9_coinsOfAll 3 = .ok (.istore_n 2, 1) := by decide +kernel
theorem dX9_coinsOfAll_4 : decode cX9_coinsOfAll 4 = .ok (.iload_n 2, 1) := by decide +kernel
theorem dX9_coinsOfAll_5 : decode cX9_coinsOfAll 5 = .ok (.aload_n 0, 1) := by decide +kernel
theorem dX9_coinsOfAll_6 : decode cX9_coinsOfAll 6 = .ok (.getfield 74, 3) := by decide +kernel
theorem dX9_coinsOfAll_9 : decode cX9_coinsOfAll 9 = .ok (.if_icmp .ge 18, 3) := by decide +kernel
theorem dX9_coinsOfAll_12 : decode cX9_coinsOfAll 12 = .ok (.iload_n 1, 1) := by decide +kernel
theorem dX9_coinsOfAll_13 : decode cX9_coinsOfAll 13 = .ok (.aload_n 0, 1) := by decide +kernel
theorem dX9_coinsOfAll_14 : decode cX9_coinsOfAll 14 = .ok (.getfield 28, 3) := by decide +kernel
theorem dX9_coinsOfAll_17 : decode cX9_coinsOfAll 17 = .ok (.iload_n 2, 1) := by decide +kernel
theorem dX9_coinsOfAll_18 : decode cX9_coinsOfAll 18 = .ok (.iaload, 1) := by decide +kernel
theorem dX9_coinsOfAll_19 : decode cX9_coinsOfAll 19 = .ok (.iadd, 1) := by decide +kernel
theorem dX9_coinsOfAll_20 : decode cX9_coinsOfAll 20 = .ok (.istore_n 1, 1) := by decide +kernel
theorem dX9_coinsOfAll_21 : decode cX9_coinsOfAll 21 = .ok (.iinc 2 1, 3) := by decide +kernel
theorem dX9_coinsOfAll_24 : decode cX9_coinsOfAll 24 = .ok (.goto (-20), 3) := by decide +kernel
theorem dX9_coinsOfAll_27 : decode cX9_coinsOfAll 27 = .ok (.iload_n 1, 1) := by decide +kernel
theorem dX9_coinsOfAll_28 : decode cX9_coinsOfAll 28 = .ok (.ireturn, 1) := by decide +kernel
theorem dX9_thoseWith_0 : decode cX9_thoseWith 0 = .ok (.iconst 0, 1) := by decide +kernel
theorem dX9_thoseWith_1 : decode cX9_thoseWith 1 = .ok (.istore_n 3, 1) := by decide +kernel
theorem dX9_thoseWith_2 : decode cX9_thoseWith 2 = .ok (.iconst 0, 1) := by decide +kernel
theorem dX9_thoseWith_3 : decode cX9_thoseWith 3 = .ok (.istore 4, 2) := by decide +kernel
theorem dX9_thoseWith_5 : decode cX9_thoseWith 5 = .ok (.iload 4, 2) := by decide +kernel
theorem dX9_thoseWith_7 : decode cX9_thoseWith 7 = .ok (.aload_n 0, 1) := by decide +kernel
theorem dX9_thoseWith_8 : decode cX9_thoseWith 8 = .ok (.getfield 74, 3) := by decide +kernel
theorem dX9_thoseWith_11 : decode cX9_thoseWith 11 = .ok (.if_icmp .ge 24, 3) := by decide +kernel
theorem dX9_thoseWith_14 : decode cX9_thoseWith 14 = .ok (.aload_n 1, 1) := by decide +kernel
theorem dX9_thoseWith_15 : decode cX9_thoseWith 15 = .ok (.iload 4, 2) := by decide +kernel
theorem dX9_thoseWith_17 : decode cX9_thoseWith 17 = .ok (.iaload, 1) := by decide +kernel
theorem dX9_thoseWith_18 : decode cX9_thoseWith 18 = .ok (.iload_n 2, 1) := by decide +kernel
theorem dX9_thoseWith_19 : decode cX9_thoseWith 19 = .ok (.if_icmp .ne 10, 3) := by decide +kernel
theorem dX9_thoseWith_22 : decode cX9_thoseWith 22 = .ok (.iload_n 3, 1) := by decide +kernel
theorem dX9_thoseWith_23 : decode cX9_thoseWith 23 = .ok (.iconst 1, 1) := by decide +kernel
theorem dX9_thoseWith_24 : decode cX9_thoseWith 24 = .ok (.iload 4, 2) := by decide +kernel
theorem dX9_thoseWith_26 : decode cX9_thoseWith 26 = .ok (.ishl, 1) := by decide +kernel
theorem dX9_thoseWith_27 : decode cX9_thoseWith 27 = .ok (.ior, 1) := by decide +kernel
theorem dX9_thoseWith_28 : decode cX9_thoseWith 28 = .ok (.istore_n 3, 1) := by decide +kernel
theorem dX9_thoseWith_29 : decode cX9_thoseWith 29 = .ok (.iinc 4 1, 3) := by decide +kernel
theorem dX9_thoseWith_32 : decode cX9_thoseWith 32 = .ok (.goto (-27), 3) := by decide +kernel
theorem dX9_thoseWith_35 : decode cX9_thoseWith 35 = .ok (.iload_n 3, 1) := by decide +kernel
theorem dX9_thoseWith_36 : decode cX9_thoseWith 36 = .ok (.ireturn, 1) := by decide +kernel
theorem dX9_asks_0 : decode cX9_asks 0 = .ok (.aload_n 0, 1) := by decide +kernel
theorem dX9_asks_1 : decode cX9_asks 1 = .ok (.getfield 34, 3) := by decide +kernel
theorem dX9_asks_4 : decode cX9_asks 4 = .ok (.aload_n 0, 1) := by decide +kernel
theorem dX9_asks_5 : decode cX9_asks 5 = .ok (.getfield 22, 3) := by decide +kernel
theorem dX9_asks_8 : decode cX9_asks 8 = .ok (.iload_n 1, 1) := by decide +kernel
theorem dX9_asks_9 : decode cX9_asks 9 = .ok (.iaload, 1) := by decide +kernel
theorem dX9_asks_10 : decode cX9_asks 10 = .ok (.iaload, 1) := by decide +kernel
theorem dX9_asks_11 : decode cX9_asks 11 = .ok (.istore_n 2, 1) := by decide +kernel
theorem dX9_asks_12 : decode cX9_asks 12 = .ok (.aload_n 0, 1) := by decide +kernel
theorem dX9_asks_13 : decode cX9_asks 13 = .ok (.getfield 34, 3) := by decide +kernel
theorem dX9_asks_16 : decode cX9_asks 16 = .ok (.aload_n 0, 1) := by decide +kernel
theorem dX9_asks_17 : decode cX9_asks 17 = .ok (.getfield 25, 3) := by decide +kernel
theorem dX9_asks_20 : decode cX9_asks 20 = .ok (.iload_n 1, 1) := by decide +kernel
theorem dX9_asks_21 : decode cX9_asks 21 = .ok (.iaload, 1) := by decide +kernel
theorem dX9_asks_22 : decode cX9_asks 22 = .ok (.iaload, 1) := by decide +kernel
theorem dX9_asks_23 : decode cX9_asks 23 = .ok (.istore_n 3, 1) := by decide +kernel
theorem dX9_asks_24 : decode cX9_asks 24 = .ok (.iload_n 3, 1) := by decide +kernel
theorem dX9_asks_25 : decode cX9_asks 25 = .ok (.iload_n 2, 1) := by decide +kernel
theorem dX9_asks_26 : decode cX9_asks 26 = .ok (.if_icmp .le 14, 3) := by decide +kernel
theorem dX9_asks_29 : decode cX9_asks 29 = .ok (.iload_n 3, 1) := by decide +kernel
theorem dX9_asks_30 : decode cX9_asks 30 = .ok (.iload_n 2, 1) := by decide +kernel
theorem dX9_asks_31 : decode cX9_asks 31 = .ok (.isub, 1) := by decide +kernel
theorem dX9_asks_32 : decode cX9_asks 32 = .ok (.aload_n 0, 1) := by decide +kernel
theorem dX9_asks_33 : decode cX9_asks 33 = .ok (.getfield 89, 3) := by decide +kernel
theorem dX9_asks_36 : decode cX9_asks 36 = .ok (.iadd, 1) := by decide +kernel
theorem dX9_asks_37 : decode cX9_asks 37 = .ok (.goto 7, 3) := by decide +kernel
theorem dX9_asks_40 : decode cX9_asks 40 = .ok (.aload_n 0, 1) := by decide +kernel
theorem dX9_asks_41 : decode cX9_asks 41 = .ok (.getfield 89, 3) := by decide +kernel
theorem dX9_asks_44 : decode cX9_asks 44 = .ok (.istore 4, 2) := by decide +kernel
theorem dX9_asks_46 : decode cX9_asks 46 = .ok (.aload_n 0, 1) := by decide +kernel
theorem dX9_asks_47 : decode cX9_asks 47 = .ok (.getfield 83, 3) := by decide +kernel
theorem dX9_asks_50 : decode cX9_asks 50 = .ok (.aload_n 0, 1) := by decide +kernel
theorem dX9_asks_51 : decode cX9_asks 51 = .ok (.getfield 86, 3) := by decide +kernel
theorem dX9_asks_54 : decode cX9_asks 54 = .ok (.iconst (-1), 1) := by decide +kernel
theorem dX9_asks_55 : decode cX9_asks 55 = .ok (.ixor, 1) := by decide +kernel
theorem dX9_asks_56 : decode cX9_asks 56 = .ok (.iand, 1) := by decide +kernel
theorem dX9_asks_57 : decode cX9_asks 57 = .ok (.istore 5, 2) := by decide +kernel
theorem dX9_asks_59 : decode cX9_asks 59 = .ok (.aload_n 0, 1) := by decide +kernel
theorem dX9_asks_60 : decode cX9_asks 60 = .ok (.getfield 12, 3) := by decide +kernel
theorem dX9_asks_63 : decode cX9_asks 63 = .ok (.getfield 92, 3) := by decide +kernel
theorem dX9_asks_66 : decode cX9_asks 66 = .ok (.ifCond .le 41, 3) := by decide +kernel
theorem dX9_asks_69 : decode cX9_asks 69 = .ok (.aload_n 0, 1) := by decide +kernel
theorem dX9_asks_70 : decode cX9_asks 70 = .ok (.getfield 12, 3) := by decide +kernel
theorem dX9_asks_73 : decode cX9_asks 73 = .ok (.iload_n 2, 1) := by decide +kernel
theorem dX9_asks_74 : decode cX9_asks 74 = .ok (.iload_n 3, 1) := by decide +kernel
theorem dX9_asks_75 : decode cX9_asks 75 = .ok (.aload_n 0, 1) := by decide +kernel
theorem dX9_asks_76 : decode cX9_asks 76 = .ok (.getfield 28, 3) := by decide +kernel
theorem dX9_asks_79 : decode cX9_asks 79 = .ok (.iload_n 1, 1) := by decide +kernel
theorem dX9_asks_80 : decode cX9_asks 80 = .ok (.iaload, 1) := by decide +kernel
theorem dX9_asks_81 : decode cX9_asks 81 = .ok (.iload 5, 2) := by decide +kernel
theorem dX9_asks_83 : decode cX9_asks 83 = .ok (.invokestatic 95, 3) := by decide +kernel
theorem dX9_asks_86 : decode cX9_asks 86 = .ok (.iload_n 1, 1) := by decide +kernel
theorem dX9_asks_87 : decode cX9_asks 87 = .ok (.invokevirtual 101, 3) := by decide +kernel
theorem dX9_asks_90 : decode cX9_asks 90 = .ok (.aload_n 0, 1) := by decide +kernel
theorem dX9_asks_91 : decode cX9_asks 91 = .ok (.getfield 12, 3) := by decide +kernel
theorem dX9_asks_94 : decode cX9_asks 94 = .ok (.iload 4, 2) := by decide +kernel
theorem dX9_asks_96 : decode cX9_asks 96 = .ok (.aload_n 0, 1) := by decide +kernel
theorem dX9_asks_97 : decode cX9_asks 97 = .ok (.getfield 18, 3) := by decide +kernel
theorem dX9_asks_100 : decode cX9_asks 100 = .ok (.iload_n 1, 1) := by decide +kernel
theorem dX9_asks_101 : decode cX9_asks 101 = .ok (.iaload, 1) := by decide +kernel
theorem dX9_asks_102 : decode cX9_asks 102 = .ok (.invokevirtual 105, 3) := by decide +kernel
theorem dX9_asks_105 : decode cX9_asks 105 = .ok (.istore 4, 2) := by decide +kernel
theorem dX9_asks_107 : decode cX9_asks 107 = .ok (.aload_n 0, 1) := by decide +kernel
theorem dX9_asks_108 : decode cX9_asks 108 = .ok (.getfield 52, 3) := by decide +kernel
theorem dX9_asks_111 : decode cX9_asks 111 = .ok (.aload_n 0, 1) := by decide +kernel
theorem dX9_asks_112 : decode cX9_asks 112 = .ok (.getfield 18, 3) := by decide +kernel
theorem dX9_asks_115 : decode cX9_asks 115 = .ok (.iload_n 1, 1) := by decide +kernel
theorem dX9_asks_116 : decode cX9_asks 116 = .ok (.iaload, 1) := by decide +kernel
theorem dX9_asks_117 : decode cX9_asks 117 = .ok (.aaload, 1) := by decide +kernel
theorem dX9_asks_118 : decode cX9_asks 118 = .ok (.iload 4, 2) := by decide +kernel
theorem dX9_asks_120 : decode cX9_asks 120 = .ok (.aload_n 0, 1) := by decide +kernel
theorem dX9_asks_121 : decode cX9_asks 121 = .ok (.getfield 28, 3) := by decide +kernel
theorem dX9_asks_124 : decode cX9_asks 124 = .ok (.iload_n 1, 1) := by decide +kernel
theorem dX9_asks_125 : decode cX9_asks 125 = .ok (.iaload, 1) := by decide +kernel
theorem dX9_asks_126 : decode cX9_asks 126 = .ok (.iload 5, 2) := by decide +kernel
theorem dX9_asks_128 : decode cX9_asks 128 = .ok (.ifCond .ne 7, 3) := by decide +kernel
theorem dX9_asks_131 : decode cX9_asks 131 = .ok (.iconst 1, 1) := by decide +kernel
theorem dX9_asks_132 : decode cX9_asks 132 = .ok (.goto 4, 3) := by decide +kernel
theorem dX9_asks_135 : decode cX9_asks 135 = .ok (.iconst 0, 1) := by decide +kernel
theorem dX9_asks_136 : decode cX9_asks 136 = .ok (.invokevirtual 109, 3) := by decide +kernel
theorem dX9_asks_139 : decode cX9_asks 139 = .ok (.ireturn, 1) := by decide +kernel
theorem dX9_canBe_0 : decode cX9_canBe 0 = .ok (.iload_n 1, 1) := by decide +kernel
theorem dX9_canBe_1 : decode cX9_canBe 1 = .ok (.ifCond .ge 5, 3) := by decide +kernel
theorem dX9_canBe_4 : decode cX9_canBe 4 = .ok (.iconst 0, 1) := by decide +kernel
theorem dX9_canBe_5 : decode cX9_canBe 5 = .ok (.ireturn, 1) := by decide +kernel
theorem dX9_canBe_6 : decode cX9_canBe 6 = .ok (.iload_n 1, 1) := by decide +kernel
theorem dX9_canBe_7 : decode cX9_canBe 7 = .ok (.bipush 10, 2) := by decide +kernel
theorem dX9_canBe_9 : decode cX9_canBe 9 = .ok (.idiv, 1) := by decide +kernel
theorem dX9_canBe_10 : decode cX9_canBe 10 = .ok (.istore_n 2, 1) := by decide +kernel
theorem dX9_canBe_11 : decode cX9_canBe 11 = .ok (.iload_n 1, 1) := by decide +kernel
theorem dX9_canBe_12 : decode cX9_canBe 12 = .ok (.bipush 10, 2) := by decide +kernel
theorem dX9_canBe_14 : decode cX9_canBe 14 = .ok (.irem, 1) := by decide +kernel
theorem dX9_canBe_15 : decode cX9_canBe 15 = .ok (.istore_n 3, 1) := by decide +kernel
theorem dX9_canBe_16 : decode cX9_canBe 16 = .ok (.aload_n 0, 1) := by decide +kernel
theorem dX9_canBe_17 : decode cX9_canBe 17 = .ok (.iload_n 2, 1) := by decide +kernel
theorem dX9_canBe_18 : decode cX9_canBe 18 = .ok (.invokevirtual 115, 3) := by decide +kernel
theorem dX9_canBe_21 : decode cX9_canBe 21 = .ok (.ifCond .ne 5, 3) := by decide +kernel
theorem dX9_canBe_24 : decode cX9_canBe 24 = .ok (.iconst 0, 1) := by decide +kernel
theorem dX9_canBe_25 : decode cX9_canBe 25 = .ok (.ireturn, 1) := by decide +kernel
theorem dX9_canBe_26 : decode cX9_canBe 26 = .ok (.iload_n 3, 1) := by decide +kernel
theorem dX9_canBe_27 : decode cX9_canBe 27 = .ok (.bipush 9, 2) := by decide +kernel
theorem dX9_canBe_29 : decode cX9_canBe 29 = .ok (.if_icmp .ne 53, 3) := by decide +kernel
theorem dX9_canBe_32 : decode cX9_canBe 32 = .ok (.aload_n 0, 1) := by decide +kernel
theorem dX9_canBe_33 : decode cX9_canBe 33 = .ok (.getfield 37, 3) := by decide +kernel
theorem dX9_canBe_36 : decode cX9_canBe 36 = .ok (.aload_n 0, 1) := by decide +kernel
theorem dX9_canBe_37 : decode cX9_canBe 37 = .ok (.getfield 25, 3) := by decide +kernel
theorem dX9_canBe_40 : decode cX9_canBe 40 = .ok (.iload_n 2, 1) := by decide +kernel
theorem dX9_canBe_41 : decode cX9_canBe 41 = .ok (.iaload, 1) := by decide +kernel
theorem dX9_canBe_42 : decode cX9_canBe 42 = .ok (.iaload, 1) := by decide +kernel
theorem dX9_canBe_43 : decode cX9_canBe 43 = .ok (.ifCond .le 37, 3) := by decide +kernel
theorem dX9_canBe_46 : decode cX9_canBe 46 = .ok (.aload_n 0, 1) := by decide +kernel
theorem dX9_canBe_47 : decode cX9_canBe 47 = .ok (.getfield 37, 3) := by decide +kernel
theorem dX9_canBe_50 : decode cX9_canBe 50 = .ok (.aload_n 0, 1) := by decide +kernel
theorem dX9_canBe_51 : decode cX9_canBe 51 = .ok (.getfield 22, 3) := by decide +kernel
theorem dX9_canBe_54 : decode cX9_canBe 54 = .ok (.iload_n 2, 1) := by decide +kernel
theorem dX9_canBe_55 : decode cX9_canBe 55 = .ok (.iaload, 1) := by decide +kernel
theorem dX9_canBe_56 : decode cX9_canBe 56 = .ok (.iaload, 1) := by decide +kernel
theorem dX9_canBe_57 : decode cX9_canBe 57 = .ok (.bipush 99, 2) := by decide +kernel
theorem dX9_canBe_59 : decode cX9_canBe 59 = .ok (.if_icmp .ge 21, 3) := by decide +kernel
theorem dX9_canBe_62 : decode cX9_canBe 62 = .ok (.aload_n 0, 1) := by decide +kernel
theorem dX9_canBe_63 : decode cX9_canBe 63 = .ok (.getfield 28, 3) := by decide +kernel
theorem dX9_canBe_66 : decode cX9_canBe 66 = .ok (.iload_n 2, 1) := by decide +kernel
theorem dX9_canBe_67 : decode cX9_canBe 67 = .ok (.iaload, 1) := by decide +kernel
theorem dX9_canBe_68 : decode cX9_canBe 68 = .ok (.aload_n 0, 1) := by decide +kernel
theorem dX9_canBe_69 : decode cX9_canBe 69 = .ok (.iload_n 2, 1) := by decide +kernel
theorem dX9_canBe_70 : decode cX9_canBe 70 = .ok (.invokevirtual 119, 3) := by decide +kernel
theorem dX9_canBe_73 : decode cX9_canBe 73 = .ok (.if_icmp .lt 7, 3) := by decide +kernel
theorem dX9_canBe_76 : decode cX9_canBe 76 = .ok (.iconst 1, 1) := by decide +kernel
theorem dX9_canBe_77 : decode cX9_canBe 77 = .ok (.goto 4, 3) := by decide +kernel
theorem dX9_canBe_80 : decode cX9_canBe 80 = .ok (.iconst 0, 1) := by decide +kernel
theorem dX9_canBe_81 : decode cX9_canBe 81 = .ok (.ireturn, 1) := by decide +kernel
theorem dX9_canBe_82 : decode cX9_canBe 82 = .ok (.iload_n 3, 1) := by decide +kernel
theorem dX9_canBe_83 : decode cX9_canBe 83 = .ok (.iload_n 2, 1) := by decide +kernel
theorem dX9_canBe_84 : decode cX9_canBe 84 = .ok (.if_icmp .le 59, 3) := by decide +kernel
theorem dX9_canBe_87 : decode cX9_canBe 87 = .ok (.aload_n 0, 1) := by decide +kernel
theorem dX9_canBe_88 : decode cX9_canBe 88 = .ok (.iload_n 3, 1) := by decide +kernel
theorem dX9_canBe_89 : decode cX9_canBe 89 = .ok (.invokevirtual 115, 3) := by decide +kernel
theorem dX9_canBe_92 : decode cX9_canBe 92 = .ok (.ifCond .eq 51, 3) := by decide +kernel
theorem dX9_canBe_95 : decode cX9_canBe 95 = .ok (.aload_n 0, 1) := by decide +kernel
theorem dX9_canBe_96 : decode cX9_canBe 96 = .ok (.getfield 31, 3) := by decide +kernel
theorem dX9_canBe_99 : decode cX9_canBe 99 = .ok (.iload_n 2, 1) := by decide +kernel
theorem dX9_canBe_100 : decode cX9_canBe 100 = .ok (.iaload, 1) := by decide +kernel
theorem dX9_canBe_101 : decode cX9_canBe 101 = .ok (.iload_n 3, 1) := by decide +kernel
theorem dX9_canBe_102 : decode cX9_canBe 102 = .ok (.ishr, 1) := by decide +kernel
theorem dX9_canBe_103 : decode cX9_canBe 103 = .ok (.iconst 1, 1) := by decide +kernel
theorem dX9_canBe_104 : decode cX9_canBe 104 = .ok (.iand, 1) := by decide +kernel
theorem dX9_canBe_105 : decode cX9_canBe 105 = .ok (.iconst 1, 1) := by decide +kernel
theorem dX9_canBe_106 : decode cX9_canBe 106 = .ok (.if_icmp .ne 37, 3) := by decide +kernel
theorem dX9_canBe_109 : decode cX9_canBe 109 = .ok (.aload_n 0, 1) := by decide +kernel
theorem dX9_canBe_110 : decode cX9_canBe 110 = .ok (.getfield 25, 3) := by decide +kernel
theorem dX9_canBe_113 : decode cX9_canBe 113 = .ok (.iload_n 2, 1) := by decide +kernel
theorem dX9_canBe_114 : decode cX9_canBe 114 = .ok (.iaload, 1) := by decide +kernel
theorem dX9_canBe_115 : decode cX9_canBe 115 = .ok (.aload_n 0, 1) := by decide +kernel
theorem dX9_canBe_116 : decode cX9_canBe 116 = .ok (.getfield 22, 3) := by decide +kernel
theorem dX9_canBe_119 : decode cX9_canBe 119 = .ok (.iload_n 3, 1) := by decide +kernel
theorem dX9_canBe_120 : decode cX9_canBe 120 = .ok (.iaload, 1) := by decide +kernel
theorem dX9_canBe_121 : decode cX9_canBe 121 = .ok (.if_icmp .eq 18, 3) := by decide +kernel
theorem dX9_canBe_124 : decode cX9_canBe 124 = .ok (.aload_n 0, 1) := by decide +kernel
theorem dX9_canBe_125 : decode cX9_canBe 125 = .ok (.getfield 25, 3) := by decide +kernel
theorem dX9_canBe_128 : decode cX9_canBe 128 = .ok (.iload_n 3, 1) := by decide +kernel
theorem dX9_canBe_129 : decode cX9_canBe 129 = .ok (.iaload, 1) := by decide +kernel
theorem dX9_canBe_130 : decode cX9_canBe 130 = .ok (.aload_n 0, 1) := by decide +kernel
theorem dX9_canBe_131 : decode cX9_canBe 131 = .ok (.getfield 22, 3) := by decide +kernel
theorem dX9_canBe_134 : decode cX9_canBe 134 = .ok (.iload_n 2, 1) := by decide +kernel
theorem dX9_canBe_135 : decode cX9_canBe 135 = .ok (.iaload, 1) := by decide +kernel
theorem dX9_canBe_136 : decode cX9_canBe 136 = .ok (.if_icmp .ne 7, 3) := by decide +kernel
theorem dX9_canBe_139 : decode cX9_canBe 139 = .ok (.iconst 1, 1) := by decide +kernel
theorem dX9_canBe_140 : decode cX9_canBe 140 = .ok (.goto 4, 3) := by decide +kernel
theorem dX9_canBe_143 : decode cX9_canBe 143 = .ok (.iconst 0, 1) := by decide +kernel
theorem dX9_canBe_144 : decode cX9_canBe 144 = .ok (.ireturn, 1) := by decide +kernel
theorem dX9_isFree_0 : decode cX9_isFree 0 = .ok (.aload_n 0, 1) := by decide +kernel
theorem dX9_isFree_1 : decode cX9_isFree 1 = .ok (.iload_n 1, 1) := by decide +kernel
theorem dX9_isFree_2 : decode cX9_isFree 2 = .ok (.invokevirtual 122, 3) := by decide +kernel
theorem dX9_isFree_5 : decode cX9_isFree 5 = .ok (.ifCond .eq 23, 3) := by decide +kernel
theorem dX9_isFree_8 : decode cX9_isFree 8 = .ok (.aload_n 0, 1) := by decide +kernel
theorem dX9_isFree_9 : decode cX9_isFree 9 = .ok (.getfield 83, 3) := by decide +kernel
theorem dX9_isFree_12 : decode cX9_isFree 12 = .ok (.aload_n 0, 1) := by decide +kernel
theorem dX9_isFree_13 : decode cX9_isFree 13 = .ok (.getfield 86, 3) := by decide +kernel
theorem dX9_isFree_16 : decode cX9_isFree 16 = .ok (.ior, 1) := by decide +kernel
theorem dX9_isFree_17 : decode cX9_isFree 17 = .ok (.iload_n 1, 1) := by decide +kernel
theorem dX9_isFree_18 : decode cX9_isFree 18 = .ok (.ishr, 1) := by decide +kernel
theorem dX9_isFree_19 : decode cX9_isFree 19 = .ok (.iconst 1, 1) := by decide +kernel
theorem dX9_isFree_20 : decode cX9_isFree 20 = .ok (.iand, 1) := by decide +kernel
theorem dX9_isFree_21 : decode cX9_isFree 21 = .ok (.ifCond .ne 7, 3) := by decide +kernel
theorem dX9_isFree_24 : decode cX9_isFree 24 = .ok (.iconst 1, 1) := by decide +kernel
theorem dX9_isFree_25 : decode cX9_isFree 25 = .ok (.goto 4, 3) := by decide +kernel
theorem dX9_isFree_28 : decode cX9_isFree 28 = .ok (.iconst 0, 1) := by decide +kernel
theorem dX9_isFree_29 : decode cX9_isFree 29 = .ok (.ireturn, 1) := by decide +kernel
theorem dX9_step_0 : decode cX9_step 0 = .ok (.iload_n 1, 1) := by decide +kernel
theorem dX9_step_1 : decode cX9_step 1 = .ok (.bipush 10, 2) := by decide +kernel
theorem dX9_step_3 : decode cX9_step 3 = .ok (.idiv, 1) := by decide +kernel
theorem dX9_step_4 : decode cX9_step 4 = .ok (.istore_n 2, 1) := by decide +kernel
theorem dX9_step_5 : decode cX9_step 5 = .ok (.iload_n 1, 1) := by decide +kernel
theorem dX9_step_6 : decode cX9_step 6 = .ok (.bipush 10, 2) := by decide +kernel
theorem dX9_step_8 : decode cX9_step 8 = .ok (.irem, 1) := by decide +kernel
theorem dX9_step_9 : decode cX9_step 9 = .ok (.istore_n 3, 1) := by decide +kernel
theorem dX9_step_10 : decode cX9_step 10 = .ok (.iload_n 3, 1) := by decide +kernel
theorem dX9_step_11 : decode cX9_step 11 = .ok (.bipush 9, 2) := by decide +kernel
theorem dX9_step_13 : decode cX9_step 13 = .ok (.if_icmp .eq 11, 3) := by decide +kernel
theorem dX9_step_16 : decode cX9_step 16 = .ok (.aload_n 0, 1) := by decide +kernel
theorem dX9_step_17 : decode cX9_step 17 = .ok (.iload_n 2, 1) := by decide +kernel
theorem dX9_step_18 : decode cX9_step 18 = .ok (.iload_n 3, 1) := by decide +kernel
theorem dX9_step_19 : decode cX9_step 19 = .ok (.invokevirtual 125, 3) := by decide +kernel
theorem dX9_step_22 : decode cX9_step 22 = .ok (.iconst 0, 1) := by decide +kernel
theorem dX9_step_23 : decode cX9_step 23 = .ok (.ireturn, 1) := by decide +kernel
theorem dX9_step_24 : decode cX9_step 24 = .ok (.aload_n 0, 1) := by decide +kernel
theorem dX9_step_25 : decode cX9_step 25 = .ok (.iload_n 2, 1) := by decide +kernel
theorem dX9_step_26 : decode cX9_step 26 = .ok (.invokevirtual 119, 3) := by decide +kernel
theorem dX9_step_29 : decode cX9_step 29 = .ok (.istore 4, 2) := by decide +kernel
theorem dX9_step_31 : decode cX9_step 31 = .ok (.aload_n 0, 1) := by decide +kernel
theorem dX9_step_32 : decode cX9_step 32 = .ok (.getfield 28, 3) := by decide +kernel
theorem dX9_step_35 : decode cX9_step 35 = .ok (.iload_n 2, 1) := by decide +kernel
theorem dX9_step_36 : decode cX9_step 36 = .ok (.dup2, 1) := by decide +kernel
theorem dX9_step_37 : decode cX9_step 37 = .ok (.iaload, 1) := by decide +kernel
theorem dX9_step_38 : decode cX9_step 38 = .ok (.iload 4, 2) := by decide +kernel
theorem dX9_step_40 : decode cX9_step 40 = .ok (.isub, 1) := by decide +kernel
theorem dX9_step_41 : decode cX9_step 41 = .ok (.iastore, 1) := by decide +kernel
theorem dX9_step_42 : decode cX9_step 42 = .ok (.aload_n 0, 1) := by decide +kernel
theorem dX9_step_43 : decode cX9_step 43 = .ok (.getfield 37, 3) := by decide +kernel
theorem dX9_step_46 : decode cX9_step 46 = .ok (.aload_n 0, 1) := by decide +kernel
theorem dX9_step_47 : decode cX9_step 47 = .ok (.getfield 22, 3) := by decide +kernel
theorem dX9_step_50 : decode cX9_step 50 = .ok (.iload_n 2, 1) := by decide +kernel
theorem dX9_step_51 : decode cX9_step 51 = .ok (.iaload, 1) := by decide +kernel
theorem dX9_step_52 : decode cX9_step 52 = .ok (.dup2, 1) := by decide +kernel
theorem dX9_step_53 : decode cX9_step 53 = .ok (.iaload, 1) := by decide +kernel
theorem dX9_step_54 : decode cX9_step 54 = .ok (.iconst 1, 1) := by decide +kernel
theorem dX9_step_55 : decode cX9_step 55 = .ok (.iadd, 1) := by decide +kernel
theorem dX9_step_56 : decode cX9_step 56 = .ok (.iastore, 1) := by decide +kernel
theorem dX9_step_57 : decode cX9_step 57 = .ok (.aload_n 0, 1) := by decide +kernel
theorem dX9_step_58 : decode cX9_step 58 = .ok (.getfield 37, 3) := by decide +kernel
theorem dX9_step_61 : decode cX9_step 61 = .ok (.aload_n 0, 1) := by decide +kernel
theorem dX9_step_62 : decode cX9_step 62 = .ok (.getfield 25, 3) := by decide +kernel
theorem dX9_step_65 : decode cX9_step 65 = .ok (.iload_n 2, 1) := by decide +kernel
theorem dX9_step_66 : decode cX9_step 66 = .ok (.iaload, 1) := by decide +kernel
theorem dX9_step_67 : decode cX9_step 67 = .ok (.dup2, 1) := by decide +kernel
theorem dX9_step_68 : decode cX9_step 68 = .ok (.iaload, 1) := by decide +kernel
theorem dX9_step_69 : decode cX9_step 69 = .ok (.iconst 1, 1) := by decide +kernel
theorem dX9_step_70 : decode cX9_step 70 = .ok (.isub, 1) := by decide +kernel
theorem dX9_step_71 : decode cX9_step 71 = .ok (.iastore, 1) := by decide +kernel
theorem dX9_step_72 : decode cX9_step 72 = .ok (.aload_n 0, 1) := by decide +kernel
theorem dX9_step_73 : decode cX9_step 73 = .ok (.getfield 22, 3) := by decide +kernel
theorem dX9_step_76 : decode cX9_step 76 = .ok (.iload_n 2, 1) := by decide +kernel
theorem dX9_step_77 : decode cX9_step 77 = .ok (.aload_n 0, 1) := by decide +kernel
theorem dX9_step_78 : decode cX9_step 78 = .ok (.getfield 25, 3) := by decide +kernel
theorem dX9_step_81 : decode cX9_step 81 = .ok (.iload_n 2, 1) := by decide +kernel
theorem dX9_step_82 : decode cX9_step 82 = .ok (.iaload, 1) := by decide +kernel
theorem dX9_step_83 : decode cX9_step 83 = .ok (.iastore, 1) := by decide +kernel
theorem dX9_step_84 : decode cX9_step 84 = .ok (.aload_n 0, 1) := by decide +kernel
theorem dX9_step_85 : decode cX9_step 85 = .ok (.iload_n 2, 1) := by decide +kernel
theorem dX9_step_86 : decode cX9_step 86 = .ok (.invokevirtual 129, 3) := by decide +kernel
theorem dX9_step_89 : decode cX9_step 89 = .ok (.iload 4, 2) := by decide +kernel
theorem dX9_step_91 : decode cX9_step 91 = .ok (.ireturn, 1) := by decide +kernel
theorem dX9_stepBack_0 : decode cX9_stepBack 0 = .ok (.iload_n 1, 1) := by decide +kernel
theorem dX9_stepBack_1 : decode cX9_stepBack 1 = .ok (.bipush 10, 2) := by decide +kernel
theorem dX9_stepBack_3 : decode cX9_stepBack 3 = .ok (.idiv, 1) := by decide +kernel
theorem dX9_stepBack_4 : decode cX9_stepBack 4 = .ok (.istore 4, 2) := by decide +kernel
theorem dX9_stepBack_6 : decode cX9_stepBack 6 = .ok (.iload_n 1, 1) := by decide +kernel
theorem dX9_stepBack_7 : decode cX9_stepBack 7 = .ok (.bipush 10, 2) := by decide +kernel
theorem dX9_stepBack_9 : decode cX9_stepBack 9 = .ok (.irem, 1) := by decide +kernel
theorem dX9_stepBack_10 : decode cX9_stepBack 10 = .ok (.istore 5, 2) := by decide +kernel
theorem dX9_stepBack_12 : decode cX9_stepBack 12 = .ok (.iload 5, 2) := by decide +kernel
theorem dX9_stepBack_14 : decode cX9_stepBack 14 = .ok (.bipush 9, 2) := by decide +kernel
theorem dX9_stepBack_16 : decode cX9_stepBack 16 = .ok (.if_icmp .eq 12, 3) := by decide +kernel
theorem dX9_stepBack_19 : decode cX9_stepBack 19 = .ok (.aload_n 0, 1) := by decide +kernel
theorem dX9_stepBack_20 : decode cX9_stepBack 20 = .ok (.iload 4, 2) := by decide +kernel
theorem dX9_stepBack_22 : decode cX9_stepBack 22 = .ok (.iload 5, 2) := by decide +kernel
theorem dX9_stepBack_24 : decode cX9_stepBack 24 = .ok (.invokevirtual 125, 3) := by decide +kernel
theorem dX9_stepBack_27 : decode cX9_stepBack 27 = .ok (.return_, 1) := by decide +kernel
theorem dX9_stepBack_28 : decode cX9_stepBack 28 = .ok (.aload_n 0, 1) := by decide +kernel
theorem dX9_stepBack_29 : decode cX9_stepBack 29 = .ok (.getfield 28, 3) := by decide +kernel
theorem dX9_stepBack_32 : decode cX9_stepBack 32 = .ok (.iload 4, 2) := by decide +kernel
theorem dX9_stepBack_34 : decode cX9_stepBack 34 = .ok (.dup2, 1) := by decide +kernel
theorem dX9_stepBack_35 : decode cX9_stepBack 35 = .ok (.iaload, 1) := by decide +kernel
theorem dX9_stepBack_36 : decode cX9_stepBack 36 = .ok (.iload_n 3, 1) := by decide +kernel
theorem dX9_stepBack_37 : decode cX9_stepBack 37 = .ok (.iadd, 1) := by decide +kernel
theorem dX9_stepBack_38 : decode cX9_stepBack 38 = .ok (.iastore, 1) := by decide +kernel
theorem dX9_stepBack_39 : decode cX9_stepBack 39 = .ok (.aload_n 0, 1) := by decide +kernel
theorem dX9_stepBack_40 : decode cX9_stepBack 40 = .ok (.getfield 37, 3) := by decide +kernel
theorem dX9_stepBack_43 : decode cX9_stepBack 43 = .ok (.aload_n 0, 1) := by decide +kernel
theorem dX9_stepBack_44 : decode cX9_stepBack 44 = .ok (.getfield 22, 3) := by decide +kernel
theorem dX9_stepBack_47 : decode cX9_stepBack 47 = .ok (.iload 4, 2) := by decide +kernel
theorem dX9_stepBack_49 : decode cX9_stepBack 49 = .ok (.iaload, 1) := by decide +kernel
theorem dX9_stepBack_50 : decode cX9_stepBack 50 = .ok (.dup2, 1) := by decide +kernel
theorem dX9_stepBack_51 : decode cX9_stepBack 51 = .ok (.iaload, 1) := by decide +kernel
theorem dX9_stepBack_52 : decode cX9_stepBack 52 = .ok (.iconst 1, 1) := by decide +kernel
theorem dX9_stepBack_53 : decode cX9_stepBack 53 = .ok (.iadd, 1) := by decide +kernel
theorem dX9_stepBack_54 : decode cX9_stepBack 54 = .ok (.iastore, 1) := by decide +kernel
theorem dX9_stepBack_55 : decode cX9_stepBack 55 = .ok (.aload_n 0, 1) := by decide +kernel
theorem dX9_stepBack_56 : decode cX9_stepBack 56 = .ok (.getfield 37, 3) := by decide +kernel
theorem dX9_stepBack_59 : decode cX9_stepBack 59 = .ok (.iload_n 2, 1) := by decide +kernel
theorem dX9_stepBack_60 : decode cX9_stepBack 60 = .ok (.dup2, 1) := by decide +kernel
theorem dX9_stepBack_61 : decode cX9_stepBack 61 = .ok (.iaload, 1) := by decide +kernel
theorem dX9_stepBack_62 : decode cX9_stepBack 62 = .ok (.iconst 1, 1) := by decide +kernel
theorem dX9_stepBack_63 : decode cX9_stepBack 63 = .ok (.isub, 1) := by decide +kernel
theorem dX9_stepBack_64 : decode cX9_stepBack 64 = .ok (.iastore, 1) := by decide +kernel
theorem dX9_stepBack_65 : decode cX9_stepBack 65 = .ok (.aload_n 0, 1) := by decide +kernel
theorem dX9_stepBack_66 : decode cX9_stepBack 66 = .ok (.getfield 22, 3) := by decide +kernel
theorem dX9_stepBack_69 : decode cX9_stepBack 69 = .ok (.iload 4, 2) := by decide +kernel
theorem dX9_stepBack_71 : decode cX9_stepBack 71 = .ok (.iload_n 2, 1) := by decide +kernel
theorem dX9_stepBack_72 : decode cX9_stepBack 72 = .ok (.iastore, 1) := by decide +kernel
theorem dX9_stepBack_73 : decode cX9_stepBack 73 = .ok (.aload_n 0, 1) := by decide +kernel
theorem dX9_stepBack_74 : decode cX9_stepBack 74 = .ok (.iload 4, 2) := by decide +kernel
theorem dX9_stepBack_76 : decode cX9_stepBack 76 = .ok (.invokevirtual 129, 3) := by decide +kernel
theorem dX9_stepBack_79 : decode cX9_stepBack 79 = .ok (.return_, 1) := by decide +kernel
theorem dX9_swap_0 : decode cX9_swap 0 = .ok (.aload_n 0, 1) := by decide +kernel
theorem dX9_swap_1 : decode cX9_swap 1 = .ok (.getfield 22, 3) := by decide +kernel
theorem dX9_swap_4 : decode cX9_swap 4 = .ok (.iload_n 1, 1) := by decide +kernel
theorem dX9_swap_5 : decode cX9_swap 5 = .ok (.iaload, 1) := by decide +kernel
theorem dX9_swap_6 : decode cX9_swap 6 = .ok (.istore_n 3, 1) := by decide +kernel
theorem dX9_swap_7 : decode cX9_swap 7 = .ok (.aload_n 0, 1) := by decide +kernel
theorem dX9_swap_8 : decode cX9_swap 8 = .ok (.getfield 22, 3) := by decide +kernel
theorem dX9_swap_11 : decode cX9_swap 11 = .ok (.iload_n 1, 1) := by decide +kernel
theorem dX9_swap_12 : decode cX9_swap 12 = .ok (.aload_n 0, 1) := by decide +kernel
theorem dX9_swap_13 : decode cX9_swap 13 = .ok (.getfield 22, 3) := by decide +kernel
theorem dX9_swap_16 : decode cX9_swap 16 = .ok (.iload_n 2, 1) := by decide +kernel
theorem dX9_swap_17 : decode cX9_swap 17 = .ok (.iaload, 1) := by decide +kernel
theorem dX9_swap_18 : decode cX9_swap 18 = .ok (.iastore, 1) := by decide +kernel
theorem dX9_swap_19 : decode cX9_swap 19 = .ok (.aload_n 0, 1) := by decide +kernel
theorem dX9_swap_20 : decode cX9_swap 20 = .ok (.getfield 22, 3) := by decide +kernel
theorem dX9_swap_23 : decode cX9_swap 23 = .ok (.iload_n 2, 1) := by decide +kernel
theorem dX9_swap_24 : decode cX9_swap 24 = .ok (.iload_n 3, 1) := by decide +kernel
theorem dX9_swap_25 : decode cX9_swap 25 = .ok (.iastore, 1) := by decide +kernel
theorem dX9_swap_26 : decode cX9_swap 26 = .ok (.aload_n 0, 1) := by decide +kernel
theorem dX9_swap_27 : decode cX9_swap 27 = .ok (.iload_n 1, 1) := by decide +kernel
theorem dX9_swap_28 : decode cX9_swap 28 = .ok (.invokevirtual 129, 3) := by decide +kernel
theorem dX9_swap_31 : decode cX9_swap 31 = .ok (.aload_n 0, 1) := by decide +kernel
theorem dX9_swap_32 : decode cX9_swap 32 = .ok (.iload_n 2, 1) := by decide +kernel
theorem dX9_swap_33 : decode cX9_swap 33 = .ok (.invokevirtual 129, 3) := by decide +kernel
theorem dX9_swap_36 : decode cX9_swap 36 = .ok (.return_, 1) := by decide +kernel
theorem dX9_enter_0 : decode cX9_enter 0 = .ok (.aload_n 0, 1) := by decide +kernel
theorem dX9_enter_1 : decode cX9_enter 1 = .ok (.getfield 60, 3) := by decide +kernel
theorem dX9_enter_4 : decode cX9_enter 4 = .ok (.bipush 12, 2) := by decide +kernel
theorem dX9_enter_6 : decode cX9_enter 6 = .ok (.if_icmp .lt 43, 3) := by decide +kernel
theorem dX9_enter_9 : decode cX9_enter 9 = .ok (.iconst 1, 1) := by decide +kernel
theorem dX9_enter_10 : decode cX9_enter 10 = .ok (.istore_n 2, 1) := by decide +kernel
theorem dX9_enter_11 : decode cX9_enter 11 = .ok (.iload_n 2, 1) := by decide +kernel
theorem dX9_enter_12 : decode cX9_enter 12 = .ok (.bipush 12, 2) := by decide +kernel
theorem dX9_enter_14 : decode cX9_enter 14 = .ok (.if_icmp .ge 29, 3) := by decide +kernel
theorem dX9_enter_17 : decode cX9_enter 17 = .ok (.aload_n 0, 1) := by decide +kernel
theorem dX9_enter_18 : decode cX9_enter 18 = .ok (.getfield 46, 3) := by decide +kernel
theorem dX9_enter_21 : decode cX9_enter 21 = .ok (.iload_n 2, 1) := by decide +kernel
theorem dX9_enter_22 : decode cX9_enter 22 = .ok (.aaload, 1) := by decide +kernel
theorem dX9_enter_23 : decode cX9_enter 23 = .ok (.iconst 0, 1) := by decide +kernel
theorem dX9_enter_24 : decode cX9_enter 24 = .ok (.aload_n 0, 1) := by decide +kernel
theorem dX9_enter_25 : decode cX9_enter 25 = .ok (.getfield 46, 3) := by decide +kernel
theorem dX9_enter_28 : decode cX9_enter 28 = .ok (.iload_n 2, 1) := by decide +kernel
theorem dX9_enter_29 : decode cX9_enter 29 = .ok (.iconst 1, 1) := by decide +kernel
theorem dX9_enter_30 : decode cX9_enter 30 = .ok (.isub, 1) := by decide +kernel
theorem dX9_enter_31 : decode cX9_enter 31 = .ok (.aaload, 1) := by decide +kernel
theorem dX9_enter_32 : decode cX9_enter 32 = .ok (.iconst 0, 1) := by decide +kernel
theorem dX9_enter_33 : decode cX9_enter 33 = .ok (.iconst 3, 1) := by decide +kernel
theorem dX9_enter_34 : decode cX9_enter 34 = .ok (.invokestatic 77, 3) := by decide +kernel
theorem dX9_enter_37 : decode cX9_enter 37 = .ok (.iinc 2 1, 3) := by decide +kernel
theorem dX9_enter_40 : decode cX9_enter 40 = .ok (.goto (-29), 3) := by decide +kernel
theorem dX9_enter_43 : decode cX9_enter 43 = .ok (.aload_n 0, 1) := by decide +kernel
theorem dX9_enter_44 : decode cX9_enter 44 = .ok (.bipush 11, 2) := by decide +kernel
theorem dX9_enter_46 : decode cX9_enter 46 = .ok (.putfield 60, 3) := by decide +kernel
theorem dX9_enter_49 : decode cX9_enter 49 = .ok (.iload_n 1, 1) := by decide +kernel
theorem dX9_enter_50 : decode cX9_enter 50 = .ok (.bipush 10, 2) := by decide +kernel
theorem dX9_enter_52 : decode cX9_enter 52 = .ok (.idiv, 1) := by decide +kernel
theorem dX9_enter_53 : decode cX9_enter 53 = .ok (.istore_n 2, 1) := by decide +kernel
theorem dX9_enter_54 : decode cX9_enter 54 = .ok (.aload_n 0, 1) := by decide +kernel
theorem dX9_enter_55 : decode cX9_enter 55 = .ok (.getfield 46, 3) := by decide +kernel
theorem dX9_enter_58 : decode cX9_enter 58 = .ok (.aload_n 0, 1) := by decide +kernel
theorem dX9_enter_59 : decode cX9_enter 59 = .ok (.getfield 60, 3) := by decide +kernel
theorem dX9_enter_62 : decode cX9_enter 62 = .ok (.aaload, 1) := by decide +kernel
theorem dX9_enter_63 : decode cX9_enter 63 = .ok (.astore_n 3, 1) := by decide +kernel
theorem dX9_enter_64 : decode cX9_enter 64 = .ok (.aload_n 0, 1) := by decide +kernel
theorem dX9_enter_65 : decode cX9_enter 65 = .ok (.dup, 1) := by decide +kernel
theorem dX9_enter_66 : decode cX9_enter 66 = .ok (.getfield 60, 3) := by decide +kernel
theorem dX9_enter_69 : decode cX9_enter 69 = .ok (.iconst 1, 1) := by decide +kernel
theorem dX9_enter_70 : decode cX9_enter 70 = .ok (.iadd, 1) := by decide +kernel
theorem dX9_enter_71 : decode cX9_enter 71 = .ok (.putfield 60, 3) := by decide +kernel
theorem dX9_enter_74 : decode cX9_enter 74 = .ok (.aload_n 3, 1) := by decide +kernel
theorem dX9_enter_75 : decode cX9_enter 75 = .ok (.iconst 0, 1) := by decide +kernel
theorem dX9_enter_76 : decode cX9_enter 76 = .ok (.iload_n 1, 1) := by decide +kernel
theorem dX9_enter_77 : decode cX9_enter 77 = .ok (.iastore, 1) := by decide +kernel
theorem dX9_enter_78 : decode cX9_enter 78 = .ok (.aload_n 3, 1) := by decide +kernel
theorem dX9_enter_79 : decode cX9_enter 79 = .ok (.iconst 1, 1) := by decide +kernel
theorem dX9_enter_80 : decode cX9_enter 80 = .ok (.aload_n 0, 1) := by decide +kernel
theorem dX9_enter_81 : decode cX9_enter 81 = .ok (.getfield 22, 3) := by decide +kernel
theorem dX9_enter_84 : decode cX9_enter 84 = .ok (.iload_n 2, 1) := by decide +kernel
theorem dX9_enter_85 : decode cX9_enter 85 = .ok (.iaload, 1) := by decide +kernel
theorem dX9_enter_86 : decode cX9_enter 86 = .ok (.iastore, 1) := by decide +kernel
theorem dX9_enter_87 : decode cX9_enter 87 = .ok (.aload_n 0, 1) := by decide +kernel
theorem dX9_enter_88 : decode cX9_enter 88 = .ok (.iload_n 1, 1) := by decide +kernel
theorem dX9_enter_89 : decode cX9_enter 89 = .ok (.invokevirtual 133, 3) := by decide +kernel
theorem dX9_enter_92 : decode cX9_enter 92 = .ok (.istore 4, 2) := by decide +kernel
theorem dX9_enter_94 : decode cX9_enter 94 = .ok (.aload_n 3, 1) := by decide +kernel
theorem dX9_enter_95 : decode cX9_enter 95 = .ok (.iconst 2, 1) := by decide +kernel
theorem dX9_enter_96 : decode cX9_enter 96 = .ok (.aload_n 0, 1) := by decide +kernel
theorem dX9_enter_97 : decode cX9_enter 97 = .ok (.getfield 22, 3) := by decide +kernel
theorem dX9_enter_100 : decode cX9_enter 100 = .ok (.iload_n 2, 1) := by decide +kernel
theorem dX9_enter_101 : decode cX9_enter 101 = .ok (.iaload, 1) := by decide +kernel
theorem dX9_enter_102 : decode cX9_enter 102 = .ok (.iastore, 1) := by decide +kernel
theorem dX9_enter_103 : decode cX9_enter 103 = .ok (.iload 4, 2) := by decide +kernel
theorem dX9_enter_105 : decode cX9_enter 105 = .ok (.ireturn, 1) := by decide +kernel
theorem dX9_takeBack_0 : decode cX9_takeBack 0 = .ok (.aload_n 0, 1) := by decide +kernel
theorem dX9_takeBack_1 : decode cX9_takeBack 1 = .ok (.getfield 60, 3) := by decide +kernel
theorem dX9_takeBack_4 : decode cX9_takeBack 4 = .ok (.ifCond .gt 6, 3) := by decide +kernel
theorem dX9_takeBack_7 : decode cX9_takeBack 7 = .ok (.bipush (-3), 2) := by decide +kernel
theorem dX9_takeBack_9 : decode cX9_takeBack 9 = .ok (.ireturn, 1) := by decide +kernel
theorem dX9_takeBack_10 : decode cX9_takeBack 10 = .ok (.aload_n 0, 1) := by decide +kernel
theorem dX9_takeBack_11 : decode cX9_takeBack 11 = .ok (.getfield 46, 3) := by decide +kernel
theorem dX9_takeBack_14 : decode cX9_takeBack 14 = .ok (.aload_n 0, 1) := by decide +kernel
theorem dX9_takeBack_15 : decode cX9_takeBack 15 = .ok (.getfield 60, 3) := by decide +kernel
theorem dX9_takeBack_18 : decode cX9_takeBack 18 = .ok (.iconst 1, 1) := by decide +kernel
theorem dX9_takeBack_19 : decode cX9_takeBack 19 = .ok (.isub, 1) := by decide +kernel
theorem dX9_takeBack_20 : decode cX9_takeBack 20 = .ok (.aaload, 1) := by decide +kernel
theorem dX9_takeBack_21 : decode cX9_takeBack 21 = .ok (.astore_n 1, 1) := by decide +kernel
theorem dX9_takeBack_22 : decode cX9_takeBack 22 = .ok (.aload_n 1, 1) := by decide +kernel
theorem dX9_takeBack_23 : decode cX9_takeBack 23 = .ok (.iconst 0, 1) := by decide +kernel
theorem dX9_takeBack_24 : decode cX9_takeBack 24 = .ok (.iaload, 1) := by decide +kernel
theorem dX9_takeBack_25 : decode cX9_takeBack 25 = .ok (.istore_n 2, 1) := by decide +kernel
theorem dX9_takeBack_26 : decode cX9_takeBack 26 = .ok (.iload_n 2, 1) := by decide +kernel
theorem dX9_takeBack_27 : decode cX9_takeBack 27 = .ok (.bipush 10, 2) := by decide +kernel
theorem dX9_takeBack_29 : decode cX9_takeBack 29 = .ok (.idiv, 1) := by decide +kernel
theorem dX9_takeBack_30 : decode cX9_takeBack 30 = .ok (.istore_n 3, 1) := by decide +kernel
theorem dX9_takeBack_31 : decode cX9_takeBack 31 = .ok (.iload_n 2, 1) := by decide +kernel
theorem dX9_takeBack_32 : decode cX9_takeBack 32 = .ok (.bipush 10, 2) := by decide +kernel
theorem dX9_takeBack_34 : decode cX9_takeBack 34 = .ok (.irem, 1) := by decide +kernel
theorem dX9_takeBack_35 : decode cX9_takeBack 35 = .ok (.istore 4, 2) := by decide +kernel
theorem dX9_takeBack_37 : decode cX9_takeBack 37 = .ok (.aload_n 1, 1) := by decide +kernel
theorem dX9_takeBack_38 : decode cX9_takeBack 38 = .ok (.iconst 1, 1) := by decide +kernel
theorem dX9_takeBack_39 : decode cX9_takeBack 39 = .ok (.iaload, 1) := by decide +kernel
theorem dX9_takeBack_40 : decode cX9_takeBack 40 = .ok (.istore 5, 2) := by decide +kernel
theorem dX9_takeBack_42 : decode cX9_takeBack 42 = .ok (.aload_n 1, 1) := by decide +kernel
theorem dX9_takeBack_43 : decode cX9_takeBack 43 = .ok (.iconst 2, 1) := by decide +kernel
theorem dX9_takeBack_44 : decode cX9_takeBack 44 = .ok (.iaload, 1) := by decide +kernel
theorem dX9_takeBack_45 : decode cX9_takeBack 45 = .ok (.istore 6, 2) := by decide +kernel
theorem dX9_takeBack_47 : decode cX9_takeBack 47 = .ok (.aload_n 0, 1) := by decide +kernel
theorem dX9_takeBack_48 : decode cX9_takeBack 48 = .ok (.getfield 22, 3) := by decide +kernel
theorem dX9_takeBack_51 : decode cX9_takeBack 51 = .ok (.iload_n 3, 1) := by decide +kernel
theorem dX9_takeBack_52 : decode cX9_takeBack 52 = .ok (.iaload, 1) := by decide +kernel
theorem dX9_takeBack_53 : decode cX9_takeBack 53 = .ok (.iload 6, 2) := by decide +kernel
theorem dX9_takeBack_55 : decode cX9_takeBack 55 = .ok (.if_icmp .eq 6, 3) := by decide +kernel
theorem dX9_takeBack_58 : decode cX9_takeBack 58 = .ok (.bipush (-4), 2) := by decide +kernel
theorem dX9_takeBack_60 : decode cX9_takeBack 60 = .ok (.ireturn, 1) := by decide +kernel
theorem dX9_takeBack_61 : decode cX9_takeBack 61 = .ok (.iload 4, 2) := by decide +kernel
theorem dX9_takeBack_63 : decode cX9_takeBack 63 = .ok (.bipush 9, 2) := by decide +kernel
theorem dX9_takeBack_65 : decode cX9_takeBack 65 = .ok (.if_icmp .ne 33, 3) := by decide +kernel
theorem dX9_takeBack_68 : decode cX9_takeBack 68 = .ok (.aload_n 0, 1) := by decide +kernel
theorem dX9_takeBack_69 : decode cX9_takeBack 69 = .ok (.getfield 37, 3) := by decide +kernel
theorem dX9_takeBack_72 : decode cX9_takeBack 72 = .ok (.iload 5, 2) := by decide +kernel
theorem dX9_takeBack_74 : decode cX9_takeBack 74 = .ok (.iaload, 1) := by decide +kernel
theorem dX9_takeBack_75 : decode cX9_takeBack 75 = .ok (.ifCond .le 19, 3) := by decide +kernel
theorem dX9_takeBack_78 : decode cX9_takeBack 78 = .ok (.aload_n 0, 1) := by decide +kernel
theorem dX9_takeBack_79 : decode cX9_takeBack 79 = .ok (.getfield 37, 3) := by decide +kernel
theorem dX9_takeBack_82 : decode cX9_takeBack 82 = .ok (.iload 6, 2) := by decide +kernel
theorem dX9_takeBack_84 : decode cX9_takeBack 84 = .ok (.iaload, 1) := by decide +kernel
theorem dX9_takeBack_85 : decode cX9_takeBack 85 = .ok (.bipush 99, 2) := by decide +kernel
theorem dX9_takeBack_87 : decode cX9_takeBack 87 = .ok (.if_icmp .ge 7, 3) := by decide +kernel
theorem dX9_takeBack_90 : decode cX9_takeBack 90 = .ok (.iconst 1, 1) := by decide +kernel
theorem dX9_takeBack_91 : decode cX9_takeBack 91 = .ok (.goto 24, 3) := by decide +kernel
theorem dX9_takeBack_94 : decode cX9_takeBack 94 = .ok (.iconst 0, 1) := by decide +kernel
theorem dX9_takeBack_95 : decode cX9_takeBack 95 = .ok (.goto 20, 3) := by decide +kernel
theorem dX9_takeBack_98 : decode cX9_takeBack 98 = .ok (.aload_n 0, 1) := by decide +kernel
theorem dX9_takeBack_99 : decode cX9_takeBack 99 = .ok (.getfield 22, 3) := by decide +kernel
theorem dX9_takeBack_102 : decode cX9_takeBack 102 = .ok (.iload 4, 2) := by decide +kernel
theorem dX9_takeBack_104 : decode cX9_takeBack 104 = .ok (.iaload, 1) := by decide +kernel
theorem dX9_takeBack_105 : decode cX9_takeBack 105 = .ok (.iload 5, 2) := by decide +kernel
theorem dX9_takeBack_107 : decode cX9_takeBack 107 = .ok (.if_icmp .ne 7, 3) := by decide +kernel
theorem dX9_takeBack_110 : decode cX9_takeBack 110 = .ok (.iconst 1, 1) := by decide +kernel
theorem dX9_takeBack_111 : decode cX9_takeBack 111 = .ok (.goto 4, 3) := by decide +kernel
theorem dX9_takeBack_114 : decode cX9_takeBack 114 = .ok (.iconst 0, 1) := by decide +kernel
theorem dX9_takeBack_115 : decode cX9_takeBack 115 = .ok (.istore 7, 2) := by decide +kernel
theorem dX9_takeBack_117 : decode cX9_takeBack 117 = .ok (.iload 7, 2) := by decide +kernel
theorem dX9_takeBack_119 : decode cX9_takeBack 119 = .ok (.ifCond .ne 6, 3) := by decide +kernel
theorem dX9_takeBack_122 : decode cX9_takeBack 122 = .ok (.bipush (-4), 2) := by decide +kernel
theorem dX9_takeBack_124 : decode cX9_takeBack 124 = .ok (.ireturn, 1) := by decide +kernel
theorem dX9_takeBack_125 : decode cX9_takeBack 125 = .ok (.aload_n 0, 1) := by decide +kernel
theorem dX9_takeBack_126 : decode cX9_takeBack 126 = .ok (.iload_n 2, 1) := by decide +kernel
theorem dX9_takeBack_127 : decode cX9_takeBack 127 = .ok (.iload 5, 2) := by decide +kernel
theorem dX9_takeBack_129 : decode cX9_takeBack 129 = .ok (.iconst 0, 1) := by decide +kernel
theorem dX9_takeBack_130 : decode cX9_takeBack 130 = .ok (.invokevirtual 136, 3) := by decide +kernel
theorem dX9_takeBack_133 : decode cX9_takeBack 133 = .ok (.aload_n 0, 1) := by decide +kernel
theorem dX9_takeBack_134 : decode cX9_takeBack 134 = .ok (.dup, 1) := by decide +kernel
theorem dX9_takeBack_135 : decode cX9_takeBack 135 = .ok (.getfield 60, 3) := by decide +kernel
theorem dX9_takeBack_138 : decode cX9_takeBack 138 = .ok (.iconst 1, 1) := by decide +kernel
theorem dX9_takeBack_139 : decode cX9_takeBack 139 = .ok (.isub, 1) := by decide +kernel
theorem dX9_takeBack_140 : decode cX9_takeBack 140 = .ok (.putfield 60, 3) := by decide +kernel
theorem dX9_takeBack_143 : decode cX9_takeBack 143 = .ok (.iload_n 2, 1) := by decide +kernel
theorem dX9_takeBack_144 : decode cX9_takeBack 144 = .ok (.ireturn, 1) := by decide +kernel
theorem dX9_drawn_0 : decode cX9_drawn 0 = .ok (.iconst 0, 1) := by decide +kernel
theorem dX9_drawn_1 : decode cX9_drawn 1 = .ok (.istore_n 1, 1) := by decide +kernel
theorem dX9_drawn_2 : decode cX9_drawn 2 = .ok (.getstatic 140, 3) := by decide +kernel
theorem dX9_drawn_5 : decode cX9_drawn 5 = .ok (.astore_n 2, 1) := by decide +kernel
theorem dX9_drawn_6 : decode cX9_drawn 6 = .ok (.aload_n 2, 1) := by decide +kernel
theorem dX9_drawn_7 : decode cX9_drawn 7 = .ok (.arraylength, 1) := by decide +kernel
theorem dX9_drawn_8 : decode cX9_drawn 8 = .ok (.istore_n 3, 1) := by decide +kernel
theorem dX9_drawn_9 : decode cX9_drawn 9 = .ok (.iconst 0, 1) := by decide +kernel
theorem dX9_drawn_10 : decode cX9_drawn 10 = .ok (.istore 4, 2) := by decide +kernel
theorem dX9_drawn_12 : decode cX9_drawn 12 = .ok (.iload 4, 2) := by decide +kernel
theorem dX9_drawn_14 : decode cX9_drawn 14 = .ok (.iload_n 3, 1) := by decide +kernel
theorem dX9_drawn_15 : decode cX9_drawn 15 = .ok (.if_icmp .ge 27, 3) := by decide +kernel
theorem dX9_drawn_18 : decode cX9_drawn 18 = .ok (.aload_n 2, 1) := by decide +kernel
theorem dX9_drawn_19 : decode cX9_drawn 19 = .ok (.iload 4, 2) := by decide +kernel
theorem dX9_drawn_21 : decode cX9_drawn 21 = .ok (.iaload, 1) := by decide +kernel
theorem dX9_drawn_22 : decode cX9_drawn 22 = .ok (.istore 5, 2) := by decide +kernel
theorem dX9_drawn_24 : decode cX9_drawn 24 = .ok (.aload_n 0, 1) := by decide +kernel
theorem dX9_drawn_25 : decode cX9_drawn 25 = .ok (.iload 5, 2) := by decide +kernel
theorem dX9_drawn_27 : decode cX9_drawn 27 = .ok (.invokevirtual 143, 3) := by decide +kernel
theorem dX9_drawn_30 : decode cX9_drawn 30 = .ok (.ifCond .eq 6, 3) := by decide +kernel
theorem dX9_drawn_33 : decode cX9_drawn 33 = .ok (.iinc 1 1, 3) := by decide +kernel
theorem dX9_drawn_36 : decode cX9_drawn 36 = .ok (.iinc 4 1, 3) := by decide +kernel
theorem dX9_drawn_39 : decode cX9_drawn 39 = .ok (.goto (-27), 3) := by decide +kernel
theorem dX9_drawn_42 : decode cX9_drawn 42 = .ok (.iload_n 1, 1) := by decide +kernel
theorem dX9_drawn_43 : decode cX9_drawn 43 = .ok (.ifCond .ne 6, 3) := by decide +kernel
theorem dX9_drawn_46 : decode cX9_drawn 46 = .ok (.bipush (-3), 2) := by decide +kernel
theorem dX9_drawn_48 : decode cX9_drawn 48 = .ok (.ireturn, 1) := by decide +kernel
theorem dX9_drawn_49 : decode cX9_drawn 49 = .ok (.aload_n 0, 1) := by decide +kernel
theorem dX9_drawn_50 : decode cX9_drawn 50 = .ok (.aload_n 0, 1) := by decide +kernel
theorem dX9_drawn_51 : decode cX9_drawn 51 = .ok (.getfield 40, 3) := by decide +kernel
theorem dX9_drawn_54 : decode cX9_drawn 54 = .ok (.ldc 146, 2) := by decide +kernel
theorem dX9_drawn_56 : decode cX9_drawn 56 = .ok (.imul, 1) := by decide +kernel
theorem dX9_drawn_57 : decode cX9_drawn 57 = .ok (.sipush 12345, 3) := by decide +kernel
theorem dX9_drawn_60 : decode cX9_drawn 60 = .ok (.iadd, 1) := by decide +kernel
theorem dX9_drawn_61 : decode cX9_drawn 61 = .ok (.putfield 40, 3) := by decide +kernel
theorem dX9_drawn_64 : decode cX9_drawn 64 = .ok (.aload_n 0, 1) := by decide +kernel
theorem dX9_drawn_65 : decode cX9_drawn 65 = .ok (.getfield 40, 3) := by decide +kernel
theorem dX9_drawn_68 : decode cX9_drawn 68 = .ok (.bipush 16, 2) := by decide +kernel
theorem dX9_drawn_70 : decode cX9_drawn 70 = .ok (.iushr, 1) := by decide +kernel
theorem dX9_drawn_71 : decode cX9_drawn 71 = .ok (.iload_n 1, 1) := by decide +kernel
theorem dX9_drawn_72 : decode cX9_drawn 72 = .ok (.irem, 1) := by decide +kernel
theorem dX9_drawn_73 : decode cX9_drawn 73 = .ok (.istore_n 2, 1) := by decide +kernel
theorem dX9_drawn_74 : decode cX9_drawn 74 = .ok (.getstatic 140, 3) := by decide +kernel
theorem dX9_drawn_77 : decode cX9_drawn 77 = .ok (.astore_n 3, 1) := by decide +kernel
theorem dX9_drawn_78 : decode cX9_drawn 78 = .ok (.aload_n 3, 1) := by decide +kernel
theorem dX9_drawn_79 : decode cX9_drawn 79 = .ok (.arraylength, 1) := by decide +kernel
theorem dX9_drawn_80 : decode cX9_drawn 80 = .ok (.istore 4, 2) := by decide +kernel
theorem dX9_drawn_82 : decode cX9_drawn 82 = .ok (.iconst 0, 1) := by decide +kernel
theorem dX9_drawn_83 : decode cX9_drawn 83 = .ok (.istore 5, 2) := by decide +kernel
theorem dX9_drawn_85 : decode cX9_drawn 85 = .ok (.iload 5, 2) := by decide +kernel
theorem dX9_drawn_87 : decode cX9_drawn 87 = .ok (.iload 4, 2) := by decide +kernel
theorem dX9_drawn_89 : decode cX9_drawn 89 = .ok (.if_icmp .ge 41, 3) := by decide +kernel
theorem dX9_drawn_92 : decode cX9_drawn 92 = .ok (.aload_n 3, 1) := by decide +kernel
theorem dX9_drawn_93 : decode cX9_drawn 93 = .ok (.iload 5, 2) := by decide +kernel
theorem dX9_drawn_95 : decode cX9_drawn 95 = .ok (.iaload, 1) := by decide +kernel
theorem dX9_drawn_96 : decode cX9_drawn 96 = .ok (.istore 6, 2) := by decide +kernel
theorem dX9_drawn_98 : decode cX9_drawn 98 = .ok (.aload_n 0, 1) := by decide +kernel
theorem dX9_drawn_99 : decode cX9_drawn 99 = .ok (.iload 6, 2) := by decide +kernel
theorem dX9_drawn_101 : decode cX9_drawn 101 = .ok (.invokevirtual 143, 3) := by decide +kernel
theorem dX9_drawn_104 : decode cX9_drawn 104 = .ok (.ifCond .eq 20, 3) := by decide +kernel
theorem dX9_drawn_107 : decode cX9_drawn 107 = .ok (.iload_n 2, 1) := by decide +kernel
theorem dX9_drawn_108 : decode cX9_drawn 108 = .ok (.ifCond .ne 13, 3) := by decide +kernel
theorem dX9_drawn_111 : decode cX9_drawn 111 = .ok (.aload_n 0, 1) := by decide +kernel
theorem dX9_drawn_112 : decode cX9_drawn 112 = .ok (.iload 6, 2) := by decide +kernel
theorem dX9_drawn_114 : decode cX9_drawn 114 = .ok (.invokevirtual 147, 3) := by decide +kernel
theorem dX9_drawn_117 : decode cX9_drawn 117 = .ok (.pop, 1) := by decide +kernel
theorem dX9_drawn_118 : decode cX9_drawn 118 = .ok (.iload 6, 2) := by decide +kernel
theorem dX9_drawn_120 : decode cX9_drawn 120 = .ok (.ireturn, 1) := by decide +kernel
theorem dX9_drawn_121 : decode cX9_drawn 121 = .ok (.iinc 2 (-1), 3) := by decide +kernel
theorem dX9_drawn_124 : decode cX9_drawn 124 = .ok (.iinc 5 1, 3) := by decide +kernel
theorem dX9_drawn_127 : decode cX9_drawn 127 = .ok (.goto (-42), 3) := by decide +kernel
theorem dX9_drawn_130 : decode cX9_drawn 130 = .ok (.bipush (-3), 2) := by decide +kernel
theorem dX9_drawn_132 : decode cX9_drawn 132 = .ok (.ireturn, 1) := by decide +kernel
theorem dX9_runOut_0 : decode cX9_runOut 0 = .ok (.bipush 6, 2) := by decide +kernel
theorem dX9_runOut_2 : decode cX9_runOut 2 = .ok (.istore_n 1, 1) := by decide +kernel
theorem dX9_runOut_3 : decode cX9_runOut 3 = .ok (.iload_n 1, 1) := by decide +kernel
theorem dX9_runOut_4 : decode cX9_runOut 4 = .ok (.ifCond .le 16, 3) := by decide +kernel
theorem dX9_runOut_7 : decode cX9_runOut 7 = .ok (.aload_n 0, 1) := by decide +kernel
theorem dX9_runOut_8 : decode cX9_runOut 8 = .ok (.invokevirtual 150, 3) := by decide +kernel
theorem dX9_runOut_11 : decode cX9_runOut 11 = .ok (.ifCond .lt 9, 3) := by decide +kernel
theorem dX9_runOut_14 : decode cX9_runOut 14 = .ok (.iinc 1 (-1), 3) := by decide +kernel
theorem dX9_runOut_17 : decode cX9_runOut 17 = .ok (.goto (-14), 3) := by decide +kernel
theorem dX9_runOut_20 : decode cX9_runOut 20 = .ok (.return_, 1) := by decide +kernel
theorem dX9_lawsThatFit_0 : decode cX9_lawsThatFit 0 = .ok (.iconst 0, 1) := by decide +kernel
theorem dX9_lawsThatFit_1 : decode cX9_lawsThatFit 1 = .ok (.istore_n 1, 1) := by decide +kernel
theorem dX9_lawsThatFit_2 : decode cX9_lawsThatFit 2 = .ok (.iconst 0, 1) := by decide +kernel
theorem dX9_lawsThatFit_3 : decode cX9_lawsThatFit 3 = .ok (.istore_n 2, 1) := by decide +kernel
theorem dX9_lawsThatFit_4 : decode cX9_lawsThatFit 4 = .ok (.iload_n 2, 1) := by decide +kernel
theorem dX9_lawsThatFit_5 : decode cX9_lawsThatFit 5 = .ok (.iconst 3, 1) := by decide +kernel
theorem dX9_lawsThatFit_6 : decode cX9_lawsThatFit 6 = .ok (.if_icmp .gt 37, 3) := by decide +kernel
theorem dX9_lawsThatFit_9 : decode cX9_lawsThatFit 9 = .ok (.iconst 0, 1) := by decide +kernel
theorem dX9_lawsThatFit_10 : decode cX9_lawsThatFit 10 = .ok (.istore_n 3, 1) := by decide +kernel
theorem dX9_lawsThatFit_11 : decode cX9_lawsThatFit 11 = .ok (.iload_n 3, 1) := by decide +kernel
theorem dX9_lawsThatFit_12 : decode cX9_lawsThatFit 12 = .ok (.bipush 50, 2) := by decide +kernel
theorem dX9_lawsThatFit_14 : decode cX9_lawsThatFit 14 = .ok (.if_icmp .gt 23, 3) := by decide +kernel
theorem dX9_lawsThatFit_17 : decode cX9_lawsThatFit 17 = .ok (.aload_n 0, 1) := by decide +kernel
theorem dX9_lawsThatFit_18 : decode cX9_lawsThatFit 18 = .ok (.iload_n 2, 1) := by decide +kernel
theorem dX9_lawsThatFit_19 : decode cX9_lawsThatFit 19 = .ok (.iload_n 3, 1) := by decide +kernel
theorem dX9_lawsThatFit_20 : decode cX9_lawsThatFit 20 = .ok (.bipush (-3), 2) := by decide +kernel
theorem dX9_lawsThatFit_22 : decode cX9_lawsThatFit 22 = .ok (.invokevirtual 154, 3) := by decide +kernel
theorem dX9_lawsThatFit_25 : decode cX9_lawsThatFit 25 = .ok (.ifCond .eq 6, 3) := by decide +kernel
theorem dX9_lawsThatFit_28 : decode cX9_lawsThatFit 28 = .ok (.iinc 1 1, 3) := by decide +kernel
theorem dX9_lawsThatFit_31 : decode cX9_lawsThatFit 31 = .ok (.iinc 3 1, 3) := by decide +kernel
theorem dX9_lawsThatFit_34 : decode cX9_lawsThatFit 34 = .ok (.goto (-23), 3) := by decide +kernel
theorem dX9_lawsThatFit_37 : decode cX9_lawsThatFit 37 = .ok (.iinc 2 1, 3) := by decide +kernel
theorem dX9_lawsThatFit_40 : decode cX9_lawsThatFit 40 = .ok (.goto (-36), 3) := by decide +kernel
theorem dX9_lawsThatFit_43 : decode cX9_lawsThatFit 43 = .ok (.iload_n 1, 1) := by decide +kernel
theorem dX9_lawsThatFit_44 : decode cX9_lawsThatFit 44 = .ok (.ireturn, 1) := by decide +kernel
theorem dX9_firstLaw_0 : decode cX9_firstLaw 0 = .ok (.iconst 0, 1) := by decide +kernel
theorem dX9_firstLaw_1 : decode cX9_firstLaw 1 = .ok (.istore_n 2, 1) := by decide +kernel
theorem dX9_firstLaw_2 : decode cX9_firstLaw 2 = .ok (.iload_n 2, 1) := by decide +kernel
theorem dX9_firstLaw_3 : decode cX9_firstLaw 3 = .ok (.iconst 3, 1) := by decide +kernel
theorem dX9_firstLaw_4 : decode cX9_firstLaw 4 = .ok (.if_icmp .gt 40, 3) := by decide +kernel
theorem dX9_firstLaw_7 : decode cX9_firstLaw 7 = .ok (.iconst 0, 1) := by decide +kernel
theorem dX9_firstLaw_8 : decode cX9_firstLaw 8 = .ok (.istore_n 3, 1) := by decide +kernel
theorem dX9_firstLaw_9 : decode cX9_firstLaw 9 = .ok (.iload_n 3, 1) := by decide +kernel
theorem dX9_firstLaw_10 : decode cX9_firstLaw 10 = .ok (.bipush 50, 2) := by decide +kernel
theorem dX9_firstLaw_12 : decode cX9_firstLaw 12 = .ok (.if_icmp .gt 26, 3) := by decide +kernel
theorem dX9_firstLaw_15 : decode cX9_firstLaw 15 = .ok (.aload_n 0, 1) := by decide +kernel
theorem dX9_firstLaw_16 : decode cX9_firstLaw 16 = .ok (.iload_n 2, 1) := by decide +kernel
theorem dX9_firstLaw_17 : decode cX9_firstLaw 17 = .ok (.iload_n 3, 1) := by decide +kernel
theorem dX9_firstLaw_18 : decode cX9_firstLaw 18 = .ok (.iload_n 1, 1) := by decide +kernel
theorem dX9_firstLaw_19 : decode cX9_firstLaw 19 = .ok (.invokevirtual 154, 3) := by decide +kernel
theorem dX9_firstLaw_22 : decode cX9_firstLaw 22 = .ok (.ifCond .eq 10, 3) := by decide +kernel
theorem dX9_firstLaw_25 : decode cX9_firstLaw 25 = .ok (.iload_n 2, 1) := by decide +kernel
theorem dX9_firstLaw_26 : decode cX9_firstLaw 26 = .ok (.bipush 51, 2) := by decide +kernel
theorem dX9_firstLaw_28 : decode cX9_firstLaw 28 = .ok (.imul, 1) := by decide +kernel
theorem dX9_firstLaw_29 : decode cX9_firstLaw 29 = .ok (.iload_n 3, 1) := by decide +kernel
theorem dX9_firstLaw_30 : decode cX9_firstLaw 30 = .ok (.iadd, 1) := by decide +kernel
theorem dX9_firstLaw_31 : decode cX9_firstLaw 31 = .ok (.ireturn, 1) := by decide +kernel
theorem dX9_firstLaw_32 : decode cX9_firstLaw 32 = .ok (.iinc 3 1, 3) := by decide +kernel
theorem dX9_firstLaw_35 : decode cX9_firstLaw 35 = .ok (.goto (-26), 3) := by decide +kernel
theorem dX9_firstLaw_38 : decode cX9_firstLaw 38 = .ok (.iinc 2 1, 3) := by decide +kernel
theorem dX9_firstLaw_41 : decode cX9_firstLaw 41 = .ok (.goto (-39), 3) := by decide +kernel
theorem dX9_firstLaw_44 : decode cX9_firstLaw 44 = .ok (.bipush (-3), 2) := by decide +kernel
theorem dX9_firstLaw_46 : decode cX9_firstLaw 46 = .ok (.ireturn, 1) := by decide +kernel
theorem dX9_fits_0 : decode cX9_fits 0 = .ok (.iconst 0, 1) := by decide +kernel
theorem dX9_fits_1 : decode cX9_fits 1 = .ok (.istore 4, 2) := by decide +kernel
theorem dX9_fits_3 : decode cX9_fits 3 = .ok (.iload 4, 2) := by decide +kernel
theorem dX9_fits_5 : decode cX9_fits 5 = .ok (.aload_n 0, 1) := by decide +kernel
theorem dX9_fits_6 : decode cX9_fits 6 = .ok (.getfield 67, 3) := by decide +kernel
theorem dX9_fits_9 : decode cX9_fits 9 = .ok (.if_icmp .ge 60, 3) := by decide +kernel
theorem dX9_fits_12 : decode cX9_fits 12 = .ok (.iconst 0, 1) := by decide +kernel
theorem dX9_fits_13 : decode cX9_fits 13 = .ok (.aload_n 0, 1) := by decide +kernel
theorem dX9_fits_14 : decode cX9_fits 14 = .ok (.getfield 49, 3) := by decide +kernel
theorem dX9_fits_17 : decode cX9_fits 17 = .ok (.iload 4, 2) := by decide +kernel
theorem dX9_fits_19 : decode cX9_fits 19 = .ok (.aaload, 1) := by decide +kernel
theorem dX9_fits_20 : decode cX9_fits 20 = .ok (.iconst 1, 1) := by decide +kernel
theorem dX9_fits_21 : decode cX9_fits 21 = .ok (.iaload, 1) := by decide +kernel
theorem dX9_fits_22 : decode cX9_fits 22 = .ok (.aload_n 0, 1) := by decide +kernel
theorem dX9_fits_23 : decode cX9_fits 23 = .ok (.getfield 49, 3) := by decide +kernel
theorem dX9_fits_26 : decode cX9_fits 26 = .ok (.iload 4, 2) := by decide +kernel
theorem dX9_fits_28 : decode cX9_fits 28 = .ok (.aaload, 1) := by decide +kernel
theorem dX9_fits_29 : decode cX9_fits 29 = .ok (.iconst 0, 1) := by decide +kernel
theorem dX9_fits_30 : decode cX9_fits 30 = .ok (.iaload, 1) := by decide +kernel
theorem dX9_fits_31 : decode cX9_fits 31 = .ok (.isub, 1) := by decide +kernel
theorem dX9_fits_32 : decode cX9_fits 32 = .ok (.invokestatic 158, 3) := by decide +kernel
theorem dX9_fits_35 : decode cX9_fits 35 = .ok (.istore 5, 2) := by decide +kernel
theorem dX9_fits_37 : decode cX9_fits 37 = .ok (.iload 4, 2) := by decide +kernel
theorem dX9_fits_39 : decode cX9_fits 39 = .ok (.iload_n 3, 1) := by decide +kernel
theorem dX9_fits_40 : decode cX9_fits 40 = .ok (.if_icmp .eq 23, 3) := by decide +kernel
theorem dX9_fits_43 : decode cX9_fits 43 = .ok (.iload_n 1, 1) := by decide +kernel
theorem dX9_fits_44 : decode cX9_fits 44 = .ok (.iload 5, 2) := by decide +kernel
theorem dX9_fits_46 : decode cX9_fits 46 = .ok (.imul, 1) := by decide +kernel
theorem dX9_fits_47 : decode cX9_fits 47 = .ok (.iload_n 2, 1) := by decide +kernel
theorem dX9_fits_48 : decode cX9_fits 48 = .ok (.iadd, 1) := by decide +kernel
theorem dX9_fits_49 : decode cX9_fits 49 = .ok (.aload_n 0, 1) := by decide +kernel
theorem dX9_fits_50 : decode cX9_fits 50 = .ok (.getfield 49, 3) := by decide +kernel
theorem dX9_fits_53 : decode cX9_fits 53 = .ok (.iload 4, 2) := by decide +kernel
theorem dX9_fits_55 : decode cX9_fits 55 = .ok (.aaload, 1) := by decide +kernel
theorem dX9_fits_56 : decode cX9_fits 56 = .ok (.iconst 2, 1) := by decide +kernel
theorem dX9_fits_57 : decode cX9_fits 57 = .ok (.iaload, 1) := by decide +kernel
theorem dX9_fits_58 : decode cX9_fits 58 = .ok (.if_icmp .eq 5, 3) := by decide +kernel
theorem dX9_fits_61 : decode cX9_fits 61 = .ok (.iconst 0, 1) := by decide +kernel
theorem dX9_fits_62 : decode cX9_fits 62 = .ok (.ireturn, 1) := by decide +kernel
theorem dX9_fits_63 : decode cX9_fits 63 = .ok (.iinc 4 1, 3) := by decide +kernel
theorem dX9_fits_66 : decode cX9_fits 66 = .ok (.goto (-63), 3) := by decide +kernel
theorem dX9_fits_69 : decode cX9_fits 69 = .ok (.iconst 1, 1) := by decide +kernel
theorem dX9_fits_70 : decode cX9_fits 70 = .ok (.ireturn, 1) := by decide +kernel
theorem dX10_init_0 : decode cX10_init 0 = .ok (.aload_n 0, 1) := by decide +kernel
theorem dX10_init_1 : decode cX10_init 1 = .ok (.aload_n 1, 1) := by decide +kernel
theorem dX10_init_2 : decode cX10_init 2 = .ok (.invokespecial 1, 3) := by decide +kernel
theorem dX10_init_5 : decode cX10_init 5 = .ok (.return_, 1) := by decide +kernel
theorem dX10_isAsked_0 : decode cX10_isAsked 0 = .ok (.aload_n 0, 1) := by decide +kernel
theorem dX10_isAsked_1 : decode cX10_isAsked 1 = .ok (.iload_n 1, 1) := by decide +kernel
theorem dX10_isAsked_2 : decode cX10_isAsked 2 = .ok (.iload_n 2, 1) := by decide +kernel
theorem dX10_isAsked_3 : decode cX10_isAsked 3 = .ok (.iload_n 3, 1) := by decide +kernel
theorem dX10_isAsked_4 : decode cX10_isAsked 4 = .ok (.invokespecial 7, 3) := by decide +kernel
theorem dX10_isAsked_7 : decode cX10_isAsked 7 = .ok (.istore 4, 2) := by decide +kernel
theorem dX10_isAsked_9 : decode cX10_isAsked 9 = .ok (.iload_n 3, 1) := by decide +kernel
theorem dX10_isAsked_10 : decode cX10_isAsked 10 = .ok (.ifCond .eq 10, 3) := by decide +kernel
theorem dX10_isAsked_13 : decode cX10_isAsked 13 = .ok (.iload 4, 2) := by decide +kernel
theorem dX10_isAsked_15 : decode cX10_isAsked 15 = .ok (.iconst 2, 1) := by decide +kernel
theorem dX10_isAsked_16 : decode cX10_isAsked 16 = .ok (.idiv, 1) := by decide +kernel
theorem dX10_isAsked_17 : decode cX10_isAsked 17 = .ok (.goto 5, 3) := by decide +kernel
theorem dX10_isAsked_20 : decode cX10_isAsked 20 = .ok (.iload 4, 2) := by decide +kernel
theorem dX10_isAsked_22 : decode cX10_isAsked 22 = .ok (.ireturn, 1) := by decide +kernel
theorem dX10_gives_0 : decode cX10_gives 0 = .ok (.aload_n 0, 1) := by decide +kernel
theorem dX10_gives_1 : decode cX10_gives 1 = .ok (.getfield 11, 3) := by decide +kernel
theorem dX10_gives_4 : decode cX10_gives 4 = .ok (.bipush 50, 2) := by decide +kernel
theorem dX10_gives_6 : decode cX10_gives 6 = .ok (.invokevirtual 17, 3) := by decide +kernel
theorem dX10_gives_9 : decode cX10_gives 9 = .ok (.aload_n 0, 1) := by decide +kernel
theorem dX10_gives_10 : decode cX10_gives 10 = .ok (.iload_n 1, 1) := by decide +kernel
theorem dX10_gives_11 : decode cX10_gives 11 = .ok (.invokespecial 23, 3) := by decide +kernel
theorem dX10_gives_14 : decode cX10_gives 14 = .ok (.iconst 1, 1) := by decide +kernel
theorem dX10_gives_15 : decode cX10_gives 15 = .ok (.isub, 1) := by decide +kernel
theorem dX10_gives_16 : decode cX10_gives 16 = .ok (.ireturn, 1) := by decide +kernel
theorem dX10_owes_0 : decode cX10_owes 0 = .ok (.aload_n 0, 1) := by decide +kernel
theorem dX10_owes_1 : decode cX10_owes 1 = .ok (.getfield 11, 3) := by decide +kernel
theorem dX10_owes_4 : decode cX10_owes 4 = .ok (.bipush 51, 2) := by decide +kernel
theorem dX10_owes_6 : decode cX10_owes 6 = .ok (.invokevirtual 17, 3) := by decide +kernel
theorem dX10_owes_9 : decode cX10_owes 9 = .ok (.aload_n 0, 1) := by decide +kernel
theorem dX10_owes_10 : decode cX10_owes 10 = .ok (.iload_n 1, 1) := by decide +kernel
theorem dX10_owes_11 : decode cX10_owes 11 = .ok (.invokespecial 27, 3) := by decide +kernel
theorem dX10_owes_14 : decode cX10_owes 14 = .ok (.aload_n 0, 1) := by decide +kernel
theorem dX10_owes_15 : decode cX10_owes 15 = .ok (.aload_n 0, 1) := by decide +kernel
theorem dX10_owes_16 : decode cX10_owes 16 = .ok (.getfield 30, 3) := by decide +kernel
theorem dX10_owes_19 : decode cX10_owes 19 = .ok (.invokevirtual 34, 3) := by decide +kernel
theorem dX10_owes_22 : decode cX10_owes 22 = .ok (.iadd, 1) := by decide +kernel
theorem dX10_owes_23 : decode cX10_owes 23 = .ok (.ireturn, 1) := by decide +kernel
theorem dJ6_bitCount_0f7a4_0 : decode cJ6_bitCount_0f7a4 0 = .ok (.iload_n 0, 1) := by decide +kernel
theorem dJ6_bitCount_0f7a4_1 : decode cJ6_bitCount_0f7a4 1 = .ok (.iload_n 0, 1) := by decide +kernel
theorem dJ6_bitCount_0f7a4_2 : decode cJ6_bitCount_0f7a4 2 = .ok (.iconst 1, 1) := by decide +kernel
theorem dJ6_bitCount_0f7a4_3 : decode cJ6_bitCount_0f7a4 3 = .ok (.iushr, 1) := by decide +kernel
theorem dJ6_bitCount_0f7a4_4 : decode cJ6_bitCount_0f7a4 4 = .ok (.ldc_w 265, 3) := by decide +kernel
theorem dJ6_bitCount_0f7a4_7 : decode cJ6_bitCount_0f7a4 7 = .ok (.iand, 1) := by decide +kernel
theorem dJ6_bitCount_0f7a4_8 : decode cJ6_bitCount_0f7a4 8 = .ok (.isub, 1) := by decide +kernel
theorem dJ6_bitCount_0f7a4_9 : decode cJ6_bitCount_0f7a4 9 = .ok (.istore_n 0, 1) := by decide +kernel
theorem dJ6_bitCount_0f7a4_10 : decode cJ6_bitCount_0f7a4 10 = .ok (.iload_n 0, 1) := by decide +kernel
theorem dJ6_bitCount_0f7a4_11 : decode cJ6_bitCount_0f7a4 11 = .ok (.ldc_w 266, 3) := by decide +kernel
theorem dJ6_bitCount_0f7a4_14 : decode cJ6_bitCount_0f7a4 14 = .ok (.iand, 1) := by decide +kernel
theorem dJ6_bitCount_0f7a4_15 : decode cJ6_bitCount_0f7a4 15 = .ok (.iload_n 0, 1) := by decide +kernel
theorem dJ6_bitCount_0f7a4_16 : decode cJ6_bitCount_0f7a4 16 = .ok (.iconst 2, 1) := by decide +kernel
theorem dJ6_bitCount_0f7a4_17 : decode cJ6_bitCount_0f7a4 17 = .ok (.iushr, 1) := by decide +kernel
theorem dJ6_bitCount_0f7a4_18 : decode cJ6_bitCount_0f7a4 18 = .ok (.ldc_w 266, 3) := by decide +kernel
theorem dJ6_bitCount_0f7a4_21 : decode cJ6_bitCount_0f7a4 21 = .ok (.iand, 1) := by decide +kernel
theorem dJ6_bitCount_0f7a4_22 : decode cJ6_bitCount_0f7a4 22 = .ok (.iadd, 1) := by decide +kernel
theorem dJ6_bitCount_0f7a4_23 : decode cJ6_bitCount_0f7a4 23 = .ok (.istore_n 0, 1) := by decide +kernel
theorem dJ6_bitCount_0f7a4_24 : decode cJ6_bitCount_0f7a4 24 = .ok (.iload_n 0, 1) := by decide +kernel
theorem dJ6_bitCount_0f7a4_25 : decode cJ6_bitCount_0f7a4 25 = .ok (.iload_n 0, 1) := by decide +kernel
theorem dJ6_bitCount_0f7a4_26 : decode cJ6_bitCount_0f7a4 26 = .ok (.iconst 4, 1) := by decide +kernel
theorem dJ6_bitCount_0f7a4_27 : decode cJ6_bitCount_0f7a4 27 = .ok (.iushr, 1) := by decide +kernel
theorem dJ6_bitCount_0f7a4_28 : decode cJ6_bitCount_0f7a4 28 = .ok (.iadd, 1) := by decide +kernel
theorem dJ6_bitCount_0f7a4_29 : decode cJ6_bitCount_0f7a4 29 = .ok (.ldc_w 267, 3) := by decide +kernel
theorem dJ6_bitCount_0f7a4_32 : decode cJ6_bitCount_0f7a4 32 = .ok (.iand, 1) := by decide +kernel
theorem dJ6_bitCount_0f7a4_33 : decode cJ6_bitCount_0f7a4 33 = .ok (.istore_n 0, 1) := by decide +kernel
theorem dJ6_bitCount_0f7a4_34 : decode cJ6_bitCount_0f7a4 34 = .ok (.iload_n 0, 1) := by decide +kernel
theorem dJ6_bitCount_0f7a4_35 : decode cJ6_bitCount_0f7a4 35 = .ok (.iload_n 0, 1) := by decide +kernel
theorem dJ6_bitCount_0f7a4_36 : decode cJ6_bitCount_0f7a4 36 = .ok (.bipush 8, 2) := by decide +kernel
theorem dJ6_bitCount_0f7a4_38 : decode cJ6_bitCount_0f7a4 38 = .ok (.iushr, 1) := by decide +kernel
theorem dJ6_bitCount_0f7a4_39 : decode cJ6_bitCount_0f7a4 39 = .ok (.iadd, 1) := by decide +kernel
theorem dJ6_bitCount_0f7a4_40 : decode cJ6_bitCount_0f7a4 40 = .ok (.istore_n 0, 1) := by decide +kernel
theorem dJ6_bitCount_0f7a4_41 : decode cJ6_bitCount_0f7a4 41 = .ok (.iload_n 0, 1) := by decide +kernel
theorem dJ6_bitCount_0f7a4_42 : decode cJ6_bitCount_0f7a4 42 = .ok (.iload_n 0, 1) := by decide +kernel
theorem dJ6_bitCount_0f7a4_43 : decode cJ6_bitCount_0f7a4 43 = .ok (.bipush 16, 2) := by decide +kernel
theorem dJ6_bitCount_0f7a4_45 : decode cJ6_bitCount_0f7a4 45 = .ok (.iushr, 1) := by decide +kernel
theorem dJ6_bitCount_0f7a4_46 : decode cJ6_bitCount_0f7a4 46 = .ok (.iadd, 1) := by decide +kernel
theorem dJ6_bitCount_0f7a4_47 : decode cJ6_bitCount_0f7a4 47 = .ok (.istore_n 0, 1) := by decide +kernel
theorem dJ6_bitCount_0f7a4_48 : decode cJ6_bitCount_0f7a4 48 = .ok (.iload_n 0, 1) := by decide +kernel
theorem dJ6_bitCount_0f7a4_49 : decode cJ6_bitCount_0f7a4 49 = .ok (.bipush 63, 2) := by decide +kernel
theorem dJ6_bitCount_0f7a4_51 : decode cJ6_bitCount_0f7a4 51 = .ok (.iand, 1) := by decide +kernel
theorem dJ6_bitCount_0f7a4_52 : decode cJ6_bitCount_0f7a4 52 = .ok (.ireturn, 1) := by decide +kernel
theorem dJ9_max_7cf53_0 : decode cJ9_max_7cf53 0 = .ok (.iload_n 0, 1) := by decide +kernel
theorem dJ9_max_7cf53_1 : decode cJ9_max_7cf53 1 = .ok (.iload_n 1, 1) := by decide +kernel
theorem dJ9_max_7cf53_2 : decode cJ9_max_7cf53 2 = .ok (.if_icmp .lt 7, 3) := by decide +kernel
theorem dJ9_max_7cf53_5 : decode cJ9_max_7cf53 5 = .ok (.iload_n 0, 1) := by decide +kernel
theorem dJ9_max_7cf53_6 : decode cJ9_max_7cf53 6 = .ok (.goto 4, 3) := by decide +kernel
theorem dJ9_max_7cf53_9 : decode cJ9_max_7cf53 9 = .ok (.iload_n 1, 1) := by decide +kernel
theorem dJ9_max_7cf53_10 : decode cJ9_max_7cf53 10 = .ok (.ireturn, 1) := by decide +kernel
theorem dJ9_min_7cf53_0 : decode cJ9_min_7cf53 0 = .ok (.iload_n 0, 1) := by decide +kernel
theorem dJ9_min_7cf53_1 : decode cJ9_min_7cf53 1 = .ok (.iload_n 1, 1) := by decide +kernel
theorem dJ9_min_7cf53_2 : decode cJ9_min_7cf53 2 = .ok (.if_icmp .gt 7, 3) := by decide +kernel
theorem dJ9_min_7cf53_5 : decode cJ9_min_7cf53 5 = .ok (.iload_n 0, 1) := by decide +kernel
theorem dJ9_min_7cf53_6 : decode cJ9_min_7cf53 6 = .ok (.goto 4, 3) := by decide +kernel
theorem dJ9_min_7cf53_9 : decode cJ9_min_7cf53 9 = .ok (.iload_n 1, 1) := by decide +kernel
theorem dJ9_min_7cf53_10 : decode cJ9_min_7cf53 10 = .ok (.ireturn, 1) := by decide +kernel
theorem dJ0_length_8abf5_0 : decode cJ0_length_8abf5 0 = .ok (.aload_n 0, 1) := by decide +kernel
theorem dJ0_length_8abf5_1 : decode cJ0_length_8abf5 1 = .ok (.getfield 9, 3) := by decide +kernel
theorem dJ0_length_8abf5_4 : decode cJ0_length_8abf5 4 = .ok (.arraylength, 1) := by decide +kernel
theorem dJ0_length_8abf5_5 : decode cJ0_length_8abf5 5 = .ok (.aload_n 0, 1) := by decide +kernel
theorem dJ0_length_8abf5_6 : decode cJ0_length_8abf5 6 = .ok (.invokevirtual 335, 3) := by decide +kernel
theorem dJ0_length_8abf5_9 : decode cJ0_length_8abf5 9 = .ok (.ishr, 1) := by decide +kernel
theorem dJ0_length_8abf5_10 : decode cJ0_length_8abf5 10 = .ok (.ireturn, 1) := by decide +kernel
theorem dJ0_charAt_5068e_0 : decode cJ0_charAt_5068e 0 = .ok (.aload_n 0, 1) := by decide +kernel
theorem dJ0_charAt_5068e_1 : decode cJ0_charAt_5068e 1 = .ok (.invokevirtual 492, 3) := by decide +kernel
theorem dJ0_charAt_5068e_4 : decode cJ0_charAt_5068e 4 = .ok (.ifCond .eq 12, 3) := by decide +kernel
theorem dJ0_charAt_5068e_7 : decode cJ0_charAt_5068e 7 = .ok (.aload_n 0, 1) := by decide +kernel
theorem dJ0_charAt_5068e_8 : decode cJ0_charAt_5068e 8 = .ok (.getfield 9, 3) := by decide +kernel
theorem dJ0_charAt_5068e_11 : decode cJ0_charAt_5068e 11 = .ok (.iload_n 1, 1) := by decide +kernel
theorem dJ0_charAt_5068e_12 : decode cJ0_charAt_5068e 12 = .ok (.invokestatic 495, 3) := by decide +kernel
theorem dJ0_charAt_5068e_15 : decode cJ0_charAt_5068e 15 = .ok (.ireturn, 1) := by decide +kernel
theorem dJ0_charAt_5068e_16 : decode cJ0_charAt_5068e 16 = .ok (.aload_n 0, 1) := by decide +kernel
theorem dJ0_charAt_5068e_17 : decode cJ0_charAt_5068e 17 = .ok (.getfield 9, 3) := by decide +kernel
theorem dJ0_charAt_5068e_20 : decode cJ0_charAt_5068e 20 = .ok (.iload_n 1, 1) := by decide +kernel
theorem dJ0_charAt_5068e_21 : decode cJ0_charAt_5068e 21 = .ok (.invokestatic 498, 3) := by decide +kernel
theorem dJ0_charAt_5068e_24 : decode cJ0_charAt_5068e 24 = .ok (.ireturn, 1) := by decide +kernel
theorem dJ0_coder_7d493_0 : decode cJ0_coder_7d493 0 = .ok (.getstatic 38, 3) := by decide +kernel
theorem dJ0_coder_7d493_3 : decode cJ0_coder_7d493 3 = .ok (.ifCond .eq 10, 3) := by decide +kernel
theorem dJ0_coder_7d493_6 : decode cJ0_coder_7d493 6 = .ok (.aload_n 0, 1) := by decide +kernel
theorem dJ0_coder_7d493_7 : decode cJ0_coder_7d493 7 = .ok (.getfield 15, 3) := by decide +kernel
theorem dJ0_coder_7d493_10 : decode cJ0_coder_7d493 10 = .ok (.goto 4, 3) := by decide +kernel
theorem dJ0_coder_7d493_13 : decode cJ0_coder_7d493 13 = .ok (.iconst 1, 1) := by decide +kernel
theorem dJ0_coder_7d493_14 : decode cJ0_coder_7d493 14 = .ok (.ireturn, 1) := by decide +kernel
theorem dJ0_isLatin1_aae02_0 : decode cJ0_isLatin1_aae02 0 = .ok (.getstatic 38, 3) := by decide +kernel
theorem dJ0_isLatin1_aae02_3 : decode cJ0_isLatin1_aae02 3 = .ok (.ifCond .eq 14, 3) := by decide +kernel
theorem dJ0_isLatin1_aae02_6 : decode cJ0_isLatin1_aae02 6 = .ok (.aload_n 0, 1) := by decide +kernel
theorem dJ0_isLatin1_aae02_7 : decode cJ0_isLatin1_aae02 7 = .ok (.getfield 15, 3) := by decide +kernel
theorem dJ0_isLatin1_aae02_10 : decode cJ0_isLatin1_aae02 10 = .ok (.ifCond .ne 7, 3) := by decide +kernel
theorem dJ0_isLatin1_aae02_13 : decode cJ0_isLatin1_aae02 13 = .ok (.iconst 1, 1) := by decide +kernel
theorem dJ0_isLatin1_aae02_14 : decode cJ0_isLatin1_aae02 14 = .ok (.goto 4, 3) := by decide +kernel
theorem dJ0_isLatin1_aae02_17 : decode cJ0_isLatin1_aae02 17 = .ok (.iconst 0, 1) := by decide +kernel
theorem dJ0_isLatin1_aae02_18 : decode cJ0_isLatin1_aae02 18 = .ok (.ireturn, 1) := by decide +kernel
theorem dJ0_checkIndex_df160_0 : decode cJ0_checkIndex_df160 0 = .ok (.iload_n 0, 1) := by decide +kernel
theorem dJ0_checkIndex_df160_1 : decode cJ0_checkIndex_df160 1 = .ok (.iload_n 1, 1) := by decide +kernel
theorem dJ0_checkIndex_df160_2 : decode cJ0_checkIndex_df160 2 = .ok (.getstatic 1053, 3) := by decide +kernel
theorem dJ0_checkIndex_df160_5 : decode cJ0_checkIndex_df160 5 = .ok (.invokestatic 1059, 3) := by decide +kernel
theorem dJ0_checkIndex_df160_8 : decode cJ0_checkIndex_df160 8 = .ok (.pop, 1) := by decide +kernel
theorem dJ0_checkIndex_df160_9 : decode cJ0_checkIndex_df160 9 = .ok (.return_, 1) := by decide +kernel
theorem dJ1_charAt_3b067_0 : decode cJ1_charAt_3b067 0 = .ok (.iload_n 1, 1) := by decide +kernel
theorem dJ1_charAt_3b067_1 : decode cJ1_charAt_3b067 1 = .ok (.aload_n 0, 1) := by decide +kernel
theorem dJ1_charAt_3b067_2 : decode cJ1_charAt_3b067 2 = .ok (.arraylength, 1) := by decide +kernel
theorem dJ1_charAt_3b067_3 : decode cJ1_charAt_3b067 3 = .ok (.invokestatic 9, 3) := by decide +kernel
theorem dJ1_charAt_3b067_6 : decode cJ1_charAt_3b067 6 = .ok (.aload_n 0, 1) := by decide +kernel
theorem dJ1_charAt_3b067_7 : decode cJ1_charAt_3b067 7 = .ok (.iload_n 1, 1) := by decide +kernel
theorem dJ1_charAt_3b067_8 : decode cJ1_charAt_3b067 8 = .ok (.baload, 1) := by decide +kernel
theorem dJ1_charAt_3b067_9 : decode cJ1_charAt_3b067 9 = .ok (.sipush 255, 3) := by decide +kernel
theorem dJ1_charAt_3b067_12 : decode cJ1_charAt_3b067 12 = .ok (.iand, 1) := by decide +kernel
theorem dJ1_charAt_3b067_13 : decode cJ1_charAt_3b067 13 = .ok (.i2c, 1) := by decide +kernel
theorem dJ1_charAt_3b067_14 : decode cJ1_charAt_3b067 14 = .ok (.ireturn, 1) := by decide +kernel
theorem dJ2_getChar_3b067_0 : decode cJ2_getChar_3b067 0 = .ok (.getstatic 44, 3) := by decide +kernel
theorem dJ2_getChar_3b067_3 : decode cJ2_getChar_3b067 3 = .ok (.ifCond .ne 25, 3) := by decide +kernel
theorem dJ2_getChar_3b067_6 : decode cJ2_getChar_3b067 6 = .ok (.iload_n 1, 1) := by decide +kernel
theorem dJ2_getChar_3b067_7 : decode cJ2_getChar_3b067 7 = .ok (.ifCond .lt 11, 3) := by decide +kernel
theorem dJ2_getChar_3b067_10 : decode cJ2_getChar_3b067 10 = .ok (.iload_n 1, 1) := by decide +kernel
theorem dJ2_getChar_3b067_11 : decode cJ2_getChar_3b067 11 = .ok (.aload_n 0, 1) := by decide +kernel
theorem dJ2_getChar_3b067_12 : decode cJ2_getChar_3b067 12 = .ok (.invokestatic 48, 3) := by decide +kernel
theorem dJ2_getChar_3b067_15 : decode cJ2_getChar_3b067 15 = .ok (.if_icmp .lt 13, 3) := by decide +kernel
theorem dJ2_getChar_3b067_18 : decode cJ2_getChar_3b067 18 = .ok (.new 52, 3) := by decide +kernel
theorem dJ2_getChar_3b067_21 : decode cJ2_getChar_3b067 21 = .ok (.dup, 1) := by decide +kernel
theorem dJ2_getChar_3b067_22 : decode cJ2_getChar_3b067 22 = .ok (.ldc 54, 2) := by decide +kernel
theorem dJ2_getChar_3b067_24 : decode cJ2_getChar_3b067 24 = .ok (.invokespecial 56, 3) := by decide +kernel
theorem dJ2_getChar_3b067_27 : decode cJ2_getChar_3b067 27 = .ok (.athrow, 1) := by decide +kernel
theorem dJ2_getChar_3b067_28 : decode cJ2_getChar_3b067 28 = .ok (.iload_n 1, 1) := by decide +kernel
theorem dJ2_getChar_3b067_29 : decode cJ2_getChar_3b067 29 = .ok (.iconst 1, 1) := by decide +kernel
theorem dJ2_getChar_3b067_30 : decode cJ2_getChar_3b067 30 = .ok (.ishl, 1) := by decide +kernel
theorem dJ2_getChar_3b067_31 : decode cJ2_getChar_3b067 31 = .ok (.istore_n 1, 1) := by decide +kernel
theorem dJ2_getChar_3b067_32 : decode cJ2_getChar_3b067 32 = .ok (.aload_n 0, 1) := by decide +kernel
theorem dJ2_getChar_3b067_33 : decode cJ2_getChar_3b067 33 = .ok (.iload_n 1, 1) := by decide +kernel
theorem dJ2_getChar_3b067_34 : decode cJ2_getChar_3b067 34 = .ok (.iinc 1 1, 3) := by decide +kernel
theorem dJ2_getChar_3b067_37 : decode cJ2_getChar_3b067 37 = .ok (.baload, 1) := by decide +kernel
theorem dJ2_getChar_3b067_38 : decode cJ2_getChar_3b067 38 = .ok (.sipush 255, 3) := by decide +kernel
theorem dJ2_getChar_3b067_41 : decode cJ2_getChar_3b067 41 = .ok (.iand, 1) := by decide +kernel
theorem dJ2_getChar_3b067_42 : decode cJ2_getChar_3b067 42 = .ok (.getstatic 59, 3) := by decide +kernel
theorem dJ2_getChar_3b067_45 : decode cJ2_getChar_3b067 45 = .ok (.ishl, 1) := by decide +kernel
theorem dJ2_getChar_3b067_46 : decode cJ2_getChar_3b067 46 = .ok (.aload_n 0, 1) := by decide +kernel
theorem dJ2_getChar_3b067_47 : decode cJ2_getChar_3b067 47 = .ok (.iload_n 1, 1) := by decide +kernel
theorem dJ2_getChar_3b067_48 : decode cJ2_getChar_3b067 48 = .ok (.baload, 1) := by decide +kernel
theorem dJ2_getChar_3b067_49 : decode cJ2_getChar_3b067 49 = .ok (.sipush 255, 3) := by decide +kernel
theorem dJ2_getChar_3b067_52 : decode cJ2_getChar_3b067 52 = .ok (.iand, 1) := by decide +kernel
theorem dJ2_getChar_3b067_53 : decode cJ2_getChar_3b067 53 = .ok (.getstatic 63, 3) := by decide +kernel
theorem dJ2_getChar_3b067_56 : decode cJ2_getChar_3b067 56 = .ok (.ishl, 1) := by decide +kernel
theorem dJ2_getChar_3b067_57 : decode cJ2_getChar_3b067 57 = .ok (.ior, 1) := by decide +kernel
theorem dJ2_getChar_3b067_58 : decode cJ2_getChar_3b067 58 = .ok (.i2c, 1) := by decide +kernel
theorem dJ2_getChar_3b067_59 : decode cJ2_getChar_3b067 59 = .ok (.ireturn, 1) := by decide +kernel
theorem dJ2_length_9d52b_0 : decode cJ2_length_9d52b 0 = .ok (.aload_n 0, 1) := by decide +kernel
theorem dJ2_length_9d52b_1 : decode cJ2_length_9d52b 1 = .ok (.arraylength, 1) := by decide +kernel
theorem dJ2_length_9d52b_2 : decode cJ2_length_9d52b 2 = .ok (.iconst 1, 1) := by decide +kernel
theorem dJ2_length_9d52b_3 : decode cJ2_length_9d52b 3 = .ok (.ishr, 1) := by decide +kernel
theorem dJ2_length_9d52b_4 : decode cJ2_length_9d52b 4 = .ok (.ireturn, 1) := by decide +kernel
theorem dJ2_charAt_3b067_0 : decode cJ2_charAt_3b067 0 = .ok (.iload_n 1, 1) := by decide +kernel
theorem dJ2_charAt_3b067_1 : decode cJ2_charAt_3b067 1 = .ok (.aload_n 0, 1) := by decide +kernel
theorem dJ2_charAt_3b067_2 : decode cJ2_charAt_3b067 2 = .ok (.invokestatic 67, 3) := by decide +kernel
theorem dJ2_charAt_3b067_5 : decode cJ2_charAt_3b067 5 = .ok (.aload_n 0, 1) := by decide +kernel
theorem dJ2_charAt_3b067_6 : decode cJ2_charAt_3b067 6 = .ok (.iload_n 1, 1) := by decide +kernel
theorem dJ2_charAt_3b067_7 : decode cJ2_charAt_3b067 7 = .ok (.invokestatic 71, 3) := by decide +kernel
theorem dJ2_charAt_3b067_10 : decode cJ2_charAt_3b067 10 = .ok (.ireturn, 1) := by decide +kernel
theorem dJ2_checkIndex_2214a_0 : decode cJ2_checkIndex_2214a 0 = .ok (.iload_n 0, 1) := by decide +kernel
theorem dJ2_checkIndex_2214a_1 : decode cJ2_checkIndex_2214a 1 = .ok (.aload_n 1, 1) := by decide +kernel
theorem dJ2_checkIndex_2214a_2 : decode cJ2_checkIndex_2214a 2 = .ok (.invokestatic 48, 3) := by decide +kernel
theorem dJ2_checkIndex_2214a_5 : decode cJ2_checkIndex_2214a 5 = .ok (.invokestatic 414, 3) := by decide +kernel
theorem dJ2_checkIndex_2214a_8 : decode cJ2_checkIndex_2214a 8 = .ok (.return_, 1) := by decide +kernel
theorem dJ7_fill_53178_0 : decode cJ7_fill_53178 0 = .ok (.iconst 0, 1) := by decide +kernel
theorem dJ7_fill_53178_1 : decode cJ7_fill_53178 1 = .ok (.istore_n 2, 1) := by decide +kernel
theorem dJ7_fill_53178_2 : decode cJ7_fill_53178 2 = .ok (.aload_n 0, 1) := by decide +kernel
theorem dJ7_fill_53178_3 : decode cJ7_fill_53178 3 = .ok (.arraylength, 1) := by decide +kernel
theorem dJ7_fill_53178_4 : decode cJ7_fill_53178 4 = .ok (.istore_n 3, 1) := by decide +kernel
theorem dJ7_fill_53178_5 : decode cJ7_fill_53178 5 = .ok (.iload_n 2, 1) := by decide +kernel
theorem dJ7_fill_53178_6 : decode cJ7_fill_53178 6 = .ok (.iload_n 3, 1) := by decide +kernel
theorem dJ7_fill_53178_7 : decode cJ7_fill_53178 7 = .ok (.if_icmp .ge 13, 3) := by decide +kernel
theorem dJ7_fill_53178_10 : decode cJ7_fill_53178 10 = .ok (.aload_n 0, 1) := by decide +kernel
theorem dJ7_fill_53178_11 : decode cJ7_fill_53178 11 = .ok (.iload_n 2, 1) := by decide +kernel
theorem dJ7_fill_53178_12 : decode cJ7_fill_53178 12 = .ok (.iload_n 1, 1) := by decide +kernel
theorem dJ7_fill_53178_13 : decode cJ7_fill_53178 13 = .ok (.iastore, 1) := by decide +kernel
theorem dJ7_fill_53178_14 : decode cJ7_fill_53178 14 = .ok (.iinc 2 1, 3) := by decide +kernel
theorem dJ7_fill_53178_17 : decode cJ7_fill_53178 17 = .ok (.goto (-12), 3) := by decide +kernel
theorem dJ7_fill_53178_20 : decode cJ7_fill_53178 20 = .ok (.return_, 1) := by decide +kernel
theorem dJ3_checkIndex_8e157_0 : decode cJ3_checkIndex_8e157 0 = .ok (.iload_n 0, 1) := by decide +kernel
theorem dJ3_checkIndex_8e157_1 : decode cJ3_checkIndex_8e157 1 = .ok (.ifCond .lt 8, 3) := by decide +kernel
theorem dJ3_checkIndex_8e157_4 : decode cJ3_checkIndex_8e157 4 = .ok (.iload_n 0, 1) := by decide +kernel
theorem dJ3_checkIndex_8e157_5 : decode cJ3_checkIndex_8e157 5 = .ok (.iload_n 1, 1) := by decide +kernel
theorem dJ3_checkIndex_8e157_6 : decode cJ3_checkIndex_8e157 6 = .ok (.if_icmp .lt 10, 3) := by decide +kernel
theorem dJ3_checkIndex_8e157_9 : decode cJ3_checkIndex_8e157 9 = .ok (.aload_n 2, 1) := by decide +kernel
theorem dJ3_checkIndex_8e157_10 : decode cJ3_checkIndex_8e157 10 = .ok (.iload_n 0, 1) := by decide +kernel
theorem dJ3_checkIndex_8e157_11 : decode cJ3_checkIndex_8e157 11 = .ok (.iload_n 1, 1) := by decide +kernel
theorem dJ3_checkIndex_8e157_12 : decode cJ3_checkIndex_8e157 12 = .ok (.invokestatic 95, 3) := by decide +kernel
theorem dJ3_checkIndex_8e157_15 : decode cJ3_checkIndex_8e157 15 = .ok (.athrow, 1) := by decide +kernel
theorem dJ3_checkIndex_8e157_16 : decode cJ3_checkIndex_8e157 16 = .ok (.iload_n 0, 1) := by decide +kernel
theorem dJ3_checkIndex_8e157_17 : decode cJ3_checkIndex_8e157 17 = .ok (.ireturn, 1) := by decide +kernel
