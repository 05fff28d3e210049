theorem dX0_init_0 : decode cX0_init 0 = .ok (.aload_n 0, 1) := by decide +kernel
theorem dX0_init_1 : decode cX0_init 1 = .ok (.invokespecial 3, 3) := by decide +kernel
theorem dX0_init_4 : decode cX0_init 4 = .ok (.aload_n 0, 1) := by decide +kernel
theorem dX0_init_5 : decode cX0_init 5 = .ok (.new 9, 3) := by decide +kernel
theorem dX0_init_8 : decode cX0_init 8 = .ok (.dup, 1) := by decide +kernel
theorem dX0_init_9 : decode cX0_init 9 = .ok (.invokespecial 11, 3) := by decide +kernel
theorem dX0_init_12 : decode cX0_init 12 = .ok (.putfield 12, 3) := by decide +kernel
theorem dX0_init_15 : decode cX0_init 15 = .ok (.aload_n 0, 1) := by decide +kernel
theorem dX0_init_16 : decode cX0_init 16 = .ok (.new 9, 3) := by decide +kernel
theorem dX0_init_19 : decode cX0_init 19 = .ok (.dup, 1) := by decide +kernel
theorem dX0_init_20 : decode cX0_init 20 = .ok (.invokespecial 11, 3) := by decide +kernel
theorem dX0_init_23 : decode cX0_init 23 = .ok (.putfield 18, 3) := by decide +kernel
theorem dX0_init_26 : decode cX0_init 26 = .ok (.return_, 1) := by decide +kernel
theorem dX0_tell_0 : decode cX0_tell 0 = .ok (.aload_n 0, 1) := by decide +kernel
theorem dX0_tell_1 : decode cX0_tell 1 = .ok (.iload_n 1, 1) := by decide +kernel
theorem dX0_tell_2 : decode cX0_tell 2 = .ok (.putfield 21, 3) := by decide +kernel
theorem dX0_tell_5 : decode cX0_tell 5 = .ok (.aload_n 0, 1) := by decide +kernel
theorem dX0_tell_6 : decode cX0_tell 6 = .ok (.iload_n 2, 1) := by decide +kernel
theorem dX0_tell_7 : decode cX0_tell 7 = .ok (.putfield 25, 3) := by decide +kernel
theorem dX0_tell_10 : decode cX0_tell 10 = .ok (.aload_n 0, 1) := by decide +kernel
theorem dX0_tell_11 : decode cX0_tell 11 = .ok (.iload_n 3, 1) := by decide +kernel
theorem dX0_tell_12 : decode cX0_tell 12 = .ok (.putfield 28, 3) := by decide +kernel
theorem dX0_tell_15 : decode cX0_tell 15 = .ok (.return_, 1) := by decide +kernel
theorem dX0_forget_0 : decode cX0_forget 0 = .ok (.aload_n 0, 1) := by decide +kernel
theorem dX0_forget_1 : decode cX0_forget 1 = .ok (.iconst 0, 1) := by decide +kernel
theorem dX0_forget_2 : decode cX0_forget 2 = .ok (.putfield 31, 3) := by decide +kernel
theorem dX0_forget_5 : decode cX0_forget 5 = .ok (.aload_n 0, 1) := by decide +kernel
theorem dX0_forget_6 : decode cX0_forget 6 = .ok (.iconst 0, 1) := by decide +kernel
theorem dX0_forget_7 : decode cX0_forget 7 = .ok (.putfield 35, 3) := by decide +kernel
theorem dX0_forget_10 : decode cX0_forget 10 = .ok (.aload_n 0, 1) := by decide +kernel
theorem dX0_forget_11 : decode cX0_forget 11 = .ok (.iconst 0, 1) := by decide +kernel
theorem dX0_forget_12 : decode cX0_forget 12 = .ok (.putfield 38, 3) := by decide +kernel
theorem dX0_forget_15 : decode cX0_forget 15 = .ok (.return_, 1) := by decide +kernel
theorem dX0_jumps_0 : decode cX0_jumps 0 = .ok (.aload_n 0, 1) := by decide +kernel
theorem dX0_jumps_1 : decode cX0_jumps 1 = .ok (.getfield 21, 3) := by decide +kernel
theorem dX0_jumps_4 : decode cX0_jumps 4 = .ok (.bipush 14, 2) := by decide +kernel
theorem dX0_jumps_6 : decode cX0_jumps 6 = .ok (.if_icmp .eq 21, 3) := by decide +kernel
theorem dX0_jumps_9 : decode cX0_jumps 9 = .ok (.aload_n 0, 1) := by decide +kernel
theorem dX0_jumps_10 : decode cX0_jumps 10 = .ok (.getfield 21, 3) := by decide +kernel
theorem dX0_jumps_13 : decode cX0_jumps 13 = .ok (.bipush 15, 2) := by decide +kernel
theorem dX0_jumps_15 : decode cX0_jumps 15 = .ok (.if_icmp .eq 12, 3) := by decide +kernel
theorem dX0_jumps_18 : decode cX0_jumps 18 = .ok (.aload_n 0, 1) := by decide +kernel
theorem dX0_jumps_19 : decode cX0_jumps 19 = .ok (.getfield 21, 3) := by decide +kernel
theorem dX0_jumps_22 : decode cX0_jumps 22 = .ok (.bipush 16, 2) := by decide +kernel
theorem dX0_jumps_24 : decode cX0_jumps 24 = .ok (.if_icmp .ne 7, 3) := by decide +kernel
theorem dX0_jumps_27 : decode cX0_jumps 27 = .ok (.iconst 1, 1) := by decide +kernel
theorem dX0_jumps_28 : decode cX0_jumps 28 = .ok (.goto 4, 3) := by decide +kernel
theorem dX0_jumps_31 : decode cX0_jumps 31 = .ok (.iconst 0, 1) := by decide +kernel
theorem dX0_jumps_32 : decode cX0_jumps 32 = .ok (.ireturn, 1) := by decide +kernel
theorem dX0_firstTarget_0 : decode cX0_firstTarget 0 = .ok (.aload_n 0, 1) := by decide +kernel
theorem dX0_firstTarget_1 : decode cX0_firstTarget 1 = .ok (.invokevirtual 41, 3) := by decide +kernel
theorem dX0_firstTarget_4 : decode cX0_firstTarget 4 = .ok (.ifCond .eq 10, 3) := by decide +kernel
theorem dX0_firstTarget_7 : decode cX0_firstTarget 7 = .ok (.aload_n 0, 1) := by decide +kernel
theorem dX0_firstTarget_8 : decode cX0_firstTarget 8 = .ok (.getfield 25, 3) := by decide +kernel
theorem dX0_firstTarget_11 : decode cX0_firstTarget 11 = .ok (.goto 4, 3) := by decide +kernel
theorem dX0_firstTarget_14 : decode cX0_firstTarget 14 = .ok (.iconst 0, 1) := by decide +kernel
theorem dX0_firstTarget_15 : decode cX0_firstTarget 15 = .ok (.ireturn, 1) := by decide +kernel
theorem dX0_lastTarget_0 : decode cX0_lastTarget 0 = .ok (.aload_n 0, 1) := by decide +kernel
theorem dX0_lastTarget_1 : decode cX0_lastTarget 1 = .ok (.invokevirtual 41, 3) := by decide +kernel
theorem dX0_lastTarget_4 : decode cX0_lastTarget 4 = .ok (.ifCond .ne 5, 3) := by decide +kernel
theorem dX0_lastTarget_7 : decode cX0_lastTarget 7 = .ok (.iconst (-1), 1) := by decide +kernel
theorem dX0_lastTarget_8 : decode cX0_lastTarget 8 = .ok (.ireturn, 1) := by decide +kernel
theorem dX0_lastTarget_9 : decode cX0_lastTarget 9 = .ok (.aload_n 0, 1) := by decide +kernel
theorem dX0_lastTarget_10 : decode cX0_lastTarget 10 = .ok (.getfield 21, 3) := by decide +kernel
theorem dX0_lastTarget_13 : decode cX0_lastTarget 13 = .ok (.bipush 16, 2) := by decide +kernel
theorem dX0_lastTarget_15 : decode cX0_lastTarget 15 = .ok (.if_icmp .ne 10, 3) := by decide +kernel
theorem dX0_lastTarget_18 : decode cX0_lastTarget 18 = .ok (.aload_n 0, 1) := by decide +kernel
theorem dX0_lastTarget_19 : decode cX0_lastTarget 19 = .ok (.getfield 28, 3) := by decide +kernel
theorem dX0_lastTarget_22 : decode cX0_lastTarget 22 = .ok (.goto 7, 3) := by decide +kernel
theorem dX0_lastTarget_25 : decode cX0_lastTarget 25 = .ok (.aload_n 0, 1) := by decide +kernel
theorem dX0_lastTarget_26 : decode cX0_lastTarget 26 = .ok (.getfield 25, 3) := by decide +kernel
theorem dX0_lastTarget_29 : decode cX0_lastTarget 29 = .ok (.ireturn, 1) := by decide +kernel
theorem dX0_goesOnAt_0 : decode cX0_goesOnAt 0 = .ok (.iload_n 1, 1) := by decide +kernel
theorem dX0_goesOnAt_1 : decode cX0_goesOnAt 1 = .ok (.aload_n 0, 1) := by decide +kernel
theorem dX0_goesOnAt_2 : decode cX0_goesOnAt 2 = .ok (.invokevirtual 45, 3) := by decide +kernel
theorem dX0_goesOnAt_5 : decode cX0_goesOnAt 5 = .ok (.if_icmp .lt 15, 3) := by decide +kernel
theorem dX0_goesOnAt_8 : decode cX0_goesOnAt 8 = .ok (.iload_n 1, 1) := by decide +kernel
theorem dX0_goesOnAt_9 : decode cX0_goesOnAt 9 = .ok (.aload_n 0, 1) := by decide +kernel
theorem dX0_goesOnAt_10 : decode cX0_goesOnAt 10 = .ok (.invokevirtual 49, 3) := by decide +kernel
theorem dX0_goesOnAt_13 : decode cX0_goesOnAt 13 = .ok (.if_icmp .gt 7, 3) := by decide +kernel
theorem dX0_goesOnAt_16 : decode cX0_goesOnAt 16 = .ok (.iconst 1, 1) := by decide +kernel
theorem dX0_goesOnAt_17 : decode cX0_goesOnAt 17 = .ok (.goto 4, 3) := by decide +kernel
theorem dX0_goesOnAt_20 : decode cX0_goesOnAt 20 = .ok (.iconst 0, 1) := by decide +kernel
theorem dX0_goesOnAt_21 : decode cX0_goesOnAt 21 = .ok (.ireturn, 1) := by decide +kernel
theorem dX0_goesToNext_0 : decode cX0_goesToNext 0 = .ok (.aload_n 0, 1) := by decide +kernel
theorem dX0_goesToNext_1 : decode cX0_goesToNext 1 = .ok (.getfield 21, 3) := by decide +kernel
theorem dX0_goesToNext_4 : decode cX0_goesToNext 4 = .ok (.bipush 14, 2) := by decide +kernel
theorem dX0_goesToNext_6 : decode cX0_goesToNext 6 = .ok (.if_icmp .eq 43, 3) := by decide +kernel
theorem dX0_goesToNext_9 : decode cX0_goesToNext 9 = .ok (.aload_n 0, 1) := by decide +kernel
theorem dX0_goesToNext_10 : decode cX0_goesToNext 10 = .ok (.getfield 21, 3) := by decide +kernel
theorem dX0_goesToNext_13 : decode cX0_goesToNext 13 = .ok (.bipush 16, 2) := by decide +kernel
theorem dX0_goesToNext_15 : decode cX0_goesToNext 15 = .ok (.if_icmp .eq 34, 3) := by decide +kernel
theorem dX0_goesToNext_18 : decode cX0_goesToNext 18 = .ok (.aload_n 0, 1) := by decide +kernel
theorem dX0_goesToNext_19 : decode cX0_goesToNext 19 = .ok (.getfield 21, 3) := by decide +kernel
theorem dX0_goesToNext_22 : decode cX0_goesToNext 22 = .ok (.bipush 17, 2) := by decide +kernel
theorem dX0_goesToNext_24 : decode cX0_goesToNext 24 = .ok (.if_icmp .eq 25, 3) := by decide +kernel
theorem dX0_goesToNext_27 : decode cX0_goesToNext 27 = .ok (.aload_n 0, 1) := by decide +kernel
theorem dX0_goesToNext_28 : decode cX0_goesToNext 28 = .ok (.getfield 21, 3) := by decide +kernel
theorem dX0_goesToNext_31 : decode cX0_goesToNext 31 = .ok (.bipush 18, 2) := by decide +kernel
theorem dX0_goesToNext_33 : decode cX0_goesToNext 33 = .ok (.if_icmp .eq 16, 3) := by decide +kernel
theorem dX0_goesToNext_36 : decode cX0_goesToNext 36 = .ok (.aload_n 0, 1) := by decide +kernel
theorem dX0_goesToNext_37 : decode cX0_goesToNext 37 = .ok (.getfield 21, 3) := by decide +kernel
theorem dX0_goesToNext_40 : decode cX0_goesToNext 40 = .ok (.bipush 19, 2) := by decide +kernel
theorem dX0_goesToNext_42 : decode cX0_goesToNext 42 = .ok (.if_icmp .eq 7, 3) := by decide +kernel
theorem dX0_goesToNext_45 : decode cX0_goesToNext 45 = .ok (.iconst 1, 1) := by decide +kernel
theorem dX0_goesToNext_46 : decode cX0_goesToNext 46 = .ok (.goto 4, 3) := by decide +kernel
theorem dX0_goesToNext_49 : decode cX0_goesToNext 49 = .ok (.iconst 0, 1) := by decide +kernel
theorem dX0_goesToNext_50 : decode cX0_goesToNext 50 = .ok (.ireturn, 1) := by decide +kernel
theorem dX0_usesPlace_0 : decode cX0_usesPlace 0 = .ok (.aload_n 0, 1) := by decide +kernel
theorem dX0_usesPlace_1 : decode cX0_usesPlace 1 = .ok (.getfield 21, 3) := by decide +kernel
theorem dX0_usesPlace_4 : decode cX0_usesPlace 4 = .ok (.iconst 3, 1) := by decide +kernel
theorem dX0_usesPlace_5 : decode cX0_usesPlace 5 = .ok (.if_icmp .eq 20, 3) := by decide +kernel
theorem dX0_usesPlace_8 : decode cX0_usesPlace 8 = .ok (.aload_n 0, 1) := by decide +kernel
theorem dX0_usesPlace_9 : decode cX0_usesPlace 9 = .ok (.getfield 21, 3) := by decide +kernel
theorem dX0_usesPlace_12 : decode cX0_usesPlace 12 = .ok (.iconst 4, 1) := by decide +kernel
theorem dX0_usesPlace_13 : decode cX0_usesPlace 13 = .ok (.if_icmp .eq 12, 3) := by decide +kernel
theorem dX0_usesPlace_16 : decode cX0_usesPlace 16 = .ok (.aload_n 0, 1) := by decide +kernel
theorem dX0_usesPlace_17 : decode cX0_usesPlace 17 = .ok (.getfield 21, 3) := by decide +kernel
theorem dX0_usesPlace_20 : decode cX0_usesPlace 20 = .ok (.bipush 20, 2) := by decide +kernel
theorem dX0_usesPlace_22 : decode cX0_usesPlace 22 = .ok (.if_icmp .ne 7, 3) := by decide +kernel
theorem dX0_usesPlace_25 : decode cX0_usesPlace 25 = .ok (.iconst 1, 1) := by decide +kernel
theorem dX0_usesPlace_26 : decode cX0_usesPlace 26 = .ok (.goto 4, 3) := by decide +kernel
theorem dX0_usesPlace_29 : decode cX0_usesPlace 29 = .ok (.iconst 0, 1) := by decide +kernel
theorem dX0_usesPlace_30 : decode cX0_usesPlace 30 = .ok (.ireturn, 1) := by decide +kernel
theorem dX1_init_0 : decode cX1_init 0 = .ok (.aload_n 0, 1) := by decide +kernel
theorem dX1_init_1 : decode cX1_init 1 = .ok (.invokespecial 3, 3) := by decide +kernel
theorem dX1_init_4 : decode cX1_init 4 = .ok (.aload_n 0, 1) := by decide +kernel
theorem dX1_init_5 : decode cX1_init 5 = .ok (.bipush 16, 2) := by decide +kernel
theorem dX1_init_7 : decode cX1_init 7 = .ok (.newarray .int, 2) := by decide +kernel
theorem dX1_init_9 : decode cX1_init 9 = .ok (.putfield 9, 3) := by decide +kernel
theorem dX1_init_12 : decode cX1_init 12 = .ok (.aload_n 0, 1) := by decide +kernel
theorem dX1_init_13 : decode cX1_init 13 = .ok (.bipush 16, 2) := by decide +kernel
theorem dX1_init_15 : decode cX1_init 15 = .ok (.newarray .boolean, 2) := by decide +kernel
theorem dX1_init_17 : decode cX1_init 17 = .ok (.putfield 15, 3) := by decide +kernel
theorem dX1_init_20 : decode cX1_init 20 = .ok (.aload_n 0, 1) := by decide +kernel
theorem dX1_init_21 : decode cX1_init 21 = .ok (.iconst 0, 1) := by decide +kernel
theorem dX1_init_22 : decode cX1_init 22 = .ok (.putfield 19, 3) := by decide +kernel
theorem dX1_init_25 : decode cX1_init 25 = .ok (.aload_n 0, 1) := by decide +kernel
theorem dX1_init_26 : decode cX1_init 26 = .ok (.getfield 9, 3) := by decide +kernel
theorem dX1_init_29 : decode cX1_init 29 = .ok (.iconst 0, 1) := by decide +kernel
theorem dX1_init_30 : decode cX1_init 30 = .ok (.iconst 1, 1) := by decide +kernel
theorem dX1_init_31 : decode cX1_init 31 = .ok (.iastore, 1) := by decide +kernel
theorem dX1_init_32 : decode cX1_init 32 = .ok (.aload_n 0, 1) := by decide +kernel
theorem dX1_init_33 : decode cX1_init 33 = .ok (.iconst 1, 1) := by decide +kernel
theorem dX1_init_34 : decode cX1_init 34 = .ok (.putfield 19, 3) := by decide +kernel
theorem dX1_init_37 : decode cX1_init 37 = .ok (.return_, 1) := by decide +kernel
theorem dX1_has_0 : decode cX1_has 0 = .ok (.iload_n 1, 1) := by decide +kernel
theorem dX1_has_1 : decode cX1_has 1 = .ok (.ifCond .lt 15, 3) := by decide +kernel
theorem dX1_has_4 : decode cX1_has 4 = .ok (.iload_n 1, 1) := by decide +kernel
theorem dX1_has_5 : decode cX1_has 5 = .ok (.aload_n 0, 1) := by decide +kernel
theorem dX1_has_6 : decode cX1_has 6 = .ok (.getfield 19, 3) := by decide +kernel
theorem dX1_has_9 : decode cX1_has 9 = .ok (.if_icmp .ge 7, 3) := by decide +kernel
theorem dX1_has_12 : decode cX1_has 12 = .ok (.iconst 1, 1) := by decide +kernel
theorem dX1_has_13 : decode cX1_has 13 = .ok (.goto 4, 3) := by decide +kernel
theorem dX1_has_16 : decode cX1_has 16 = .ok (.iconst 0, 1) := by decide +kernel
theorem dX1_has_17 : decode cX1_has 17 = .ok (.ireturn, 1) := by decide +kernel
theorem dX1_isFace_0 : decode cX1_isFace 0 = .ok (.aload_n 0, 1) := by decide +kernel
theorem dX1_isFace_1 : decode cX1_isFace 1 = .ok (.iload_n 1, 1) := by decide +kernel
theorem dX1_isFace_2 : decode cX1_isFace 2 = .ok (.invokevirtual 23, 3) := by decide +kernel
theorem dX1_isFace_5 : decode cX1_isFace 5 = .ok (.ifCond .eq 16, 3) := by decide +kernel
theorem dX1_isFace_8 : decode cX1_isFace 8 = .ok (.aload_n 0, 1) := by decide +kernel
theorem dX1_isFace_9 : decode cX1_isFace 9 = .ok (.getfield 15, 3) := by decide +kernel
theorem dX1_isFace_12 : decode cX1_isFace 12 = .ok (.iload_n 1, 1) := by decide +kernel
theorem dX1_isFace_13 : decode cX1_isFace 13 = .ok (.baload, 1) := by decide +kernel
theorem dX1_isFace_14 : decode cX1_isFace 14 = .ok (.ifCond .eq 7, 3) := by decide +kernel
theorem dX1_isFace_17 : decode cX1_isFace 17 = .ok (.iconst 1, 1) := by decide +kernel
theorem dX1_isFace_18 : decode cX1_isFace 18 = .ok (.goto 4, 3) := by decide +kernel
theorem dX1_isFace_21 : decode cX1_isFace 21 = .ok (.iconst 0, 1) := by decide +kernel
theorem dX1_isFace_22 : decode cX1_isFace 22 = .ok (.ireturn, 1) := by decide +kernel
theorem dX1_add_0 : decode cX1_add 0 = .ok (.aload_n 0, 1) := by decide +kernel
theorem dX1_add_1 : decode cX1_add 1 = .ok (.iload_n 1, 1) := by decide +kernel
theorem dX1_add_2 : decode cX1_add 2 = .ok (.invokevirtual 23, 3) := by decide +kernel
theorem dX1_add_5 : decode cX1_add 5 = .ok (.ifCond .ne 5, 3) := by decide +kernel
theorem dX1_add_8 : decode cX1_add 8 = .ok (.iconst (-1), 1) := by decide +kernel
theorem dX1_add_9 : decode cX1_add 9 = .ok (.ireturn, 1) := by decide +kernel
theorem dX1_add_10 : decode cX1_add 10 = .ok (.aload_n 0, 1) := by decide +kernel
theorem dX1_add_11 : decode cX1_add 11 = .ok (.getfield 19, 3) := by decide +kernel
theorem dX1_add_14 : decode cX1_add 14 = .ok (.bipush 16, 2) := by decide +kernel
theorem dX1_add_16 : decode cX1_add 16 = .ok (.if_icmp .lt 6, 3) := by decide +kernel
theorem dX1_add_19 : decode cX1_add 19 = .ok (.bipush (-2), 2) := by decide +kernel
theorem dX1_add_21 : decode cX1_add 21 = .ok (.ireturn, 1) := by decide +kernel
theorem dX1_add_22 : decode cX1_add 22 = .ok (.aload_n 0, 1) := by decide +kernel
theorem dX1_add_23 : decode cX1_add 23 = .ok (.getfield 9, 3) := by decide +kernel
theorem dX1_add_26 : decode cX1_add 26 = .ok (.aload_n 0, 1) := by decide +kernel
theorem dX1_add_27 : decode cX1_add 27 = .ok (.getfield 19, 3) := by decide +kernel
theorem dX1_add_30 : decode cX1_add 30 = .ok (.aload_n 0, 1) := by decide +kernel
theorem dX1_add_31 : decode cX1_add 31 = .ok (.getfield 9, 3) := by decide +kernel
theorem dX1_add_34 : decode cX1_add 34 = .ok (.iload_n 1, 1) := by decide +kernel
theorem dX1_add_35 : decode cX1_add 35 = .ok (.iaload, 1) := by decide +kernel
theorem dX1_add_36 : decode cX1_add 36 = .ok (.iconst 1, 1) := by decide +kernel
theorem dX1_add_37 : decode cX1_add 37 = .ok (.aload_n 0, 1) := by decide +kernel
theorem dX1_add_38 : decode cX1_add 38 = .ok (.getfield 19, 3) := by decide +kernel
theorem dX1_add_41 : decode cX1_add 41 = .ok (.ishl, 1) := by decide +kernel
theorem dX1_add_42 : decode cX1_add 42 = .ok (.ior, 1) := by decide +kernel
theorem dX1_add_43 : decode cX1_add 43 = .ok (.iastore, 1) := by decide +kernel
theorem dX1_add_44 : decode cX1_add 44 = .ok (.aload_n 0, 1) := by decide +kernel
theorem dX1_add_45 : decode cX1_add 45 = .ok (.getfield 15, 3) := by decide +kernel
theorem dX1_add_48 : decode cX1_add 48 = .ok (.aload_n 0, 1) := by decide +kernel
theorem dX1_add_49 : decode cX1_add 49 = .ok (.getfield 19, 3) := by decide +kernel
theorem dX1_add_52 : decode cX1_add 52 = .ok (.iload_n 2, 1) := by decide +kernel
theorem dX1_add_53 : decode cX1_add 53 = .ok (.bastore, 1) := by decide +kernel
theorem dX1_add_54 : decode cX1_add 54 = .ok (.aload_n 0, 1) := by decide +kernel
theorem dX1_add_55 : decode cX1_add 55 = .ok (.dup, 1) := by decide +kernel
theorem dX1_add_56 : decode cX1_add 56 = .ok (.getfield 19, 3) := by decide +kernel
theorem dX1_add_59 : decode cX1_add 59 = .ok (.iconst 1, 1) := by decide +kernel
theorem dX1_add_60 : decode cX1_add 60 = .ok (.iadd, 1) := by decide +kernel
theorem dX1_add_61 : decode cX1_add 61 = .ok (.putfield 19, 3) := by decide +kernel
theorem dX1_add_64 : decode cX1_add 64 = .ok (.aload_n 0, 1) := by decide +kernel
theorem dX1_add_65 : decode cX1_add 65 = .ok (.getfield 19, 3) := by decide +kernel
theorem dX1_add_68 : decode cX1_add 68 = .ok (.iconst 1, 1) := by decide +kernel
theorem dX1_add_69 : decode cX1_add 69 = .ok (.isub, 1) := by decide +kernel
theorem dX1_add_70 : decode cX1_add 70 = .ok (.ireturn, 1) := by decide +kernel
theorem dX1_nearest_0 : decode cX1_nearest 0 = .ok (.iload_n 1, 1) := by decide +kernel
theorem dX1_nearest_1 : decode cX1_nearest 1 = .ok (.iload_n 2, 1) := by decide +kernel
theorem dX1_nearest_2 : decode cX1_nearest 2 = .ok (.if_icmp .ne 5, 3) := by decide +kernel
theorem dX1_nearest_5 : decode cX1_nearest 5 = .ok (.iload_n 1, 1) := by decide +kernel
theorem dX1_nearest_6 : decode cX1_nearest 6 = .ok (.ireturn, 1) := by decide +kernel
theorem dX1_nearest_7 : decode cX1_nearest 7 = .ok (.iload_n 1, 1) := by decide +kernel
theorem dX1_nearest_8 : decode cX1_nearest 8 = .ok (.ifCond .lt 41, 3) := by decide +kernel
theorem dX1_nearest_11 : decode cX1_nearest 11 = .ok (.iload_n 1, 1) := by decide +kernel
theorem dX1_nearest_12 : decode cX1_nearest 12 = .ok (.aload_n 0, 1) := by decide +kernel
theorem dX1_nearest_13 : decode cX1_nearest 13 = .ok (.getfield 19, 3) := by decide +kernel
theorem dX1_nearest_16 : decode cX1_nearest 16 = .ok (.if_icmp .ge 33, 3) := by decide +kernel
theorem dX1_nearest_19 : decode cX1_nearest 19 = .ok (.iload_n 2, 1) := by decide +kernel
theorem dX1_nearest_20 : decode cX1_nearest 20 = .ok (.ifCond .lt 29, 3) := by decide +kernel
theorem dX1_nearest_23 : decode cX1_nearest 23 = .ok (.iload_n 2, 1) := by decide +kernel
theorem dX1_nearest_24 : decode cX1_nearest 24 = .ok (.aload_n 0, 1) := by decide +kernel
theorem dX1_nearest_25 : decode cX1_nearest 25 = .ok (.getfield 19, 3) := by decide +kernel
theorem dX1_nearest_28 : decode cX1_nearest 28 = .ok (.if_icmp .ge 21, 3) := by decide +kernel
theorem dX1_nearest_31 : decode cX1_nearest 31 = .ok (.aload_n 0, 1) := by decide +kernel
theorem dX1_nearest_32 : decode cX1_nearest 32 = .ok (.getfield 15, 3) := by decide +kernel
theorem dX1_nearest_35 : decode cX1_nearest 35 = .ok (.iload_n 1, 1) := by decide +kernel
theorem dX1_nearest_36 : decode cX1_nearest 36 = .ok (.baload, 1) := by decide +kernel
theorem dX1_nearest_37 : decode cX1_nearest 37 = .ok (.ifCond .ne 12, 3) := by decide +kernel
theorem dX1_nearest_40 : decode cX1_nearest 40 = .ok (.aload_n 0, 1) := by decide +kernel
theorem dX1_nearest_41 : decode cX1_nearest 41 = .ok (.getfield 15, 3) := by decide +kernel
theorem dX1_nearest_44 : decode cX1_nearest 44 = .ok (.iload_n 2, 1) := by decide +kernel
theorem dX1_nearest_45 : decode cX1_nearest 45 = .ok (.baload, 1) := by decide +kernel
theorem dX1_nearest_46 : decode cX1_nearest 46 = .ok (.ifCond .eq 5, 3) := by decide +kernel
theorem dX1_nearest_49 : decode cX1_nearest 49 = .ok (.iconst 0, 1) := by decide +kernel
theorem dX1_nearest_50 : decode cX1_nearest 50 = .ok (.ireturn, 1) := by decide +kernel
theorem dX1_nearest_51 : decode cX1_nearest 51 = .ok (.aload_n 0, 1) := by decide +kernel
theorem dX1_nearest_52 : decode cX1_nearest 52 = .ok (.getfield 9, 3) := by decide +kernel
theorem dX1_nearest_55 : decode cX1_nearest 55 = .ok (.iload_n 1, 1) := by decide +kernel
theorem dX1_nearest_56 : decode cX1_nearest 56 = .ok (.iaload, 1) := by decide +kernel
theorem dX1_nearest_57 : decode cX1_nearest 57 = .ok (.aload_n 0, 1) := by decide +kernel
theorem dX1_nearest_58 : decode cX1_nearest 58 = .ok (.getfield 9, 3) := by decide +kernel
theorem dX1_nearest_61 : decode cX1_nearest 61 = .ok (.iload_n 2, 1) := by decide +kernel
theorem dX1_nearest_62 : decode cX1_nearest 62 = .ok (.iaload, 1) := by decide +kernel
theorem dX1_nearest_63 : decode cX1_nearest 63 = .ok (.iand, 1) := by decide +kernel
theorem dX1_nearest_64 : decode cX1_nearest 64 = .ok (.istore_n 3, 1) := by decide +kernel
theorem dX1_nearest_65 : decode cX1_nearest 65 = .ok (.aload_n 0, 1) := by decide +kernel
theorem dX1_nearest_66 : decode cX1_nearest 66 = .ok (.getfield 19, 3) := by decide +kernel
theorem dX1_nearest_69 : decode cX1_nearest 69 = .ok (.iconst 1, 1) := by decide +kernel
theorem dX1_nearest_70 : decode cX1_nearest 70 = .ok (.isub, 1) := by decide +kernel
theorem dX1_nearest_71 : decode cX1_nearest 71 = .ok (.istore 4, 2) := by decide +kernel
theorem dX1_nearest_73 : decode cX1_nearest 73 = .ok (.iload 4, 2) := by decide +kernel
theorem dX1_nearest_75 : decode cX1_nearest 75 = .ok (.ifCond .le 21, 3) := by decide +kernel
theorem dX1_nearest_78 : decode cX1_nearest 78 = .ok (.iload_n 3, 1) := by decide +kernel
theorem dX1_nearest_79 : decode cX1_nearest 79 = .ok (.iconst 1, 1) := by decide +kernel
theorem dX1_nearest_80 : decode cX1_nearest 80 = .ok (.iload 4, 2) := by decide +kernel
theorem dX1_nearest_82 : decode cX1_nearest 82 = .ok (.ishl, 1) := by decide +kernel
theorem dX1_nearest_83 : decode cX1_nearest 83 = .ok (.iand, 1) := by decide +kernel
theorem dX1_nearest_84 : decode cX1_nearest 84 = .ok (.ifCond .eq 6, 3) := by decide +kernel
theorem dX1_nearest_87 : decode cX1_nearest 87 = .ok (.iload 4, 2) := by decide +kernel
theorem dX1_nearest_89 : decode cX1_nearest 89 = .ok (.ireturn, 1) := by decide +kernel
theorem dX1_nearest_90 : decode cX1_nearest 90 = .ok (.iinc 4 (-1), 3) := by decide +kernel
theorem dX1_nearest_93 : decode cX1_nearest 93 = .ok (.goto (-20), 3) := by decide +kernel
theorem dX1_nearest_96 : decode cX1_nearest 96 = .ok (.iconst 0, 1) := by decide +kernel
theorem dX1_nearest_97 : decode cX1_nearest 97 = .ok (.ireturn, 1) := by decide +kernel
theorem dX1_isKindOf_0 : decode cX1_isKindOf 0 = .ok (.iload_n 1, 1) := by decide +kernel
theorem dX1_isKindOf_1 : decode cX1_isKindOf 1 = .ok (.ifCond .lt 23, 3) := by decide +kernel
theorem dX1_isKindOf_4 : decode cX1_isKindOf 4 = .ok (.iload_n 1, 1) := by decide +kernel
theorem dX1_isKindOf_5 : decode cX1_isKindOf 5 = .ok (.aload_n 0, 1) := by decide +kernel
theorem dX1_isKindOf_6 : decode cX1_isKindOf 6 = .ok (.getfield 19, 3) := by decide +kernel
theorem dX1_isKindOf_9 : decode cX1_isKindOf 9 = .ok (.if_icmp .ge 15, 3) := by decide +kernel
theorem dX1_isKindOf_12 : decode cX1_isKindOf 12 = .ok (.iload_n 2, 1) := by decide +kernel
theorem dX1_isKindOf_13 : decode cX1_isKindOf 13 = .ok (.ifCond .lt 11, 3) := by decide +kernel
theorem dX1_isKindOf_16 : decode cX1_isKindOf 16 = .ok (.iload_n 2, 1) := by decide +kernel
theorem dX1_isKindOf_17 : decode cX1_isKindOf 17 = .ok (.aload_n 0, 1) := by decide +kernel
theorem dX1_isKindOf_18 : decode cX1_isKindOf 18 = .ok (.getfield 19, 3) := by decide +kernel
theorem dX1_isKindOf_21 : decode cX1_isKindOf 21 = .ok (.if_icmp .lt 5, 3) := by decide +kernel
theorem dX1_isKindOf_24 : decode cX1_isKindOf 24 = .ok (.iconst 0, 1) := by decide +kernel
theorem dX1_isKindOf_25 : decode cX1_isKindOf 25 = .ok (.ireturn, 1) := by decide +kernel
theorem dX1_isKindOf_26 : decode cX1_isKindOf 26 = .ok (.aload_n 0, 1) := by decide +kernel
theorem dX1_isKindOf_27 : decode cX1_isKindOf 27 = .ok (.getfield 15, 3) := by decide +kernel
theorem dX1_isKindOf_30 : decode cX1_isKindOf 30 = .ok (.iload_n 2, 1) := by decide +kernel
theorem dX1_isKindOf_31 : decode cX1_isKindOf 31 = .ok (.baload, 1) := by decide +kernel
theorem dX1_isKindOf_32 : decode cX1_isKindOf 32 = .ok (.ifCond .ne 16, 3) := by decide +kernel
theorem dX1_isKindOf_35 : decode cX1_isKindOf 35 = .ok (.aload_n 0, 1) := by decide +kernel
theorem dX1_isKindOf_36 : decode cX1_isKindOf 36 = .ok (.getfield 9, 3) := by decide +kernel
theorem dX1_isKindOf_39 : decode cX1_isKindOf 39 = .ok (.iload_n 1, 1) := by decide +kernel
theorem dX1_isKindOf_40 : decode cX1_isKindOf 40 = .ok (.iaload, 1) := by decide +kernel
theorem dX1_isKindOf_41 : decode cX1_isKindOf 41 = .ok (.iconst 1, 1) := by decide +kernel
theorem dX1_isKindOf_42 : decode cX1_isKindOf 42 = .ok (.iload_n 2, 1) := by decide +kernel
theorem dX1_isKindOf_43 : decode cX1_isKindOf 43 = .ok (.ishl, 1) := by decide +kernel
theorem dX1_isKindOf_44 : decode cX1_isKindOf 44 = .ok (.iand, 1) := by decide +kernel
theorem dX1_isKindOf_45 : decode cX1_isKindOf 45 = .ok (.ifCond .eq 7, 3) := by decide +kernel
theorem dX1_isKindOf_48 : decode cX1_isKindOf 48 = .ok (.iconst 1, 1) := by decide +kernel
theorem dX1_isKindOf_49 : decode cX1_isKindOf 49 = .ok (.goto 4, 3) := by decide +kernel
theorem dX1_isKindOf_52 : decode cX1_isKindOf 52 = .ok (.iconst 0, 1) := by decide +kernel
theorem dX1_isKindOf_53 : decode cX1_isKindOf 53 = .ok (.ireturn, 1) := by decide +kernel
theorem dX1_isKnownObject_0 : decode cX1_isKnownObject 0 = .ok (.iload_n 1, 1) := by decide +kernel
theorem dX1_isKnownObject_1 : decode cX1_isKnownObject 1 = .ok (.bipush 10, 2) := by decide +kernel
theorem dX1_isKnownObject_3 : decode cX1_isKnownObject 3 = .ok (.if_icmp .lt 18, 3) := by decide +kernel
theorem dX1_isKnownObject_6 : decode cX1_isKnownObject 6 = .ok (.iload_n 1, 1) := by decide +kernel
theorem dX1_isKnownObject_7 : decode cX1_isKnownObject 7 = .ok (.bipush 10, 2) := by decide +kernel
theorem dX1_isKnownObject_9 : decode cX1_isKnownObject 9 = .ok (.aload_n 0, 1) := by decide +kernel
theorem dX1_isKnownObject_10 : decode cX1_isKnownObject 10 = .ok (.getfield 19, 3) := by decide +kernel
theorem dX1_isKnownObject_13 : decode cX1_isKnownObject 13 = .ok (.iadd, 1) := by decide +kernel
theorem dX1_isKnownObject_14 : decode cX1_isKnownObject 14 = .ok (.if_icmp .ge 7, 3) := by decide +kernel
theorem dX1_isKnownObject_17 : decode cX1_isKnownObject 17 = .ok (.iconst 1, 1) := by decide +kernel
theorem dX1_isKnownObject_18 : decode cX1_isKnownObject 18 = .ok (.goto 4, 3) := by decide +kernel
theorem dX1_isKnownObject_21 : decode cX1_isKnownObject 21 = .ok (.iconst 0, 1) := by decide +kernel
theorem dX1_isKnownObject_22 : decode cX1_isKnownObject 22 = .ok (.ireturn, 1) := by decide +kernel
theorem dX1_joinTypes_0 : decode cX1_joinTypes 0 = .ok (.iload_n 1, 1) := by decide +kernel
theorem dX1_joinTypes_1 : decode cX1_joinTypes 1 = .ok (.iload_n 2, 1) := by decide +kernel
theorem dX1_joinTypes_2 : decode cX1_joinTypes 2 = .ok (.if_icmp .ne 5, 3) := by decide +kernel
theorem dX1_joinTypes_5 : decode cX1_joinTypes 5 = .ok (.iload_n 1, 1) := by decide +kernel
theorem dX1_joinTypes_6 : decode cX1_joinTypes 6 = .ok (.ireturn, 1) := by decide +kernel
theorem dX1_joinTypes_7 : decode cX1_joinTypes 7 = .ok (.aload_n 0, 1) := by decide +kernel
theorem dX1_joinTypes_8 : decode cX1_joinTypes 8 = .ok (.iload_n 1, 1) := by decide +kernel
theorem dX1_joinTypes_9 : decode cX1_joinTypes 9 = .ok (.invokevirtual 27, 3) := by decide +kernel
theorem dX1_joinTypes_12 : decode cX1_joinTypes 12 = .ok (.istore_n 3, 1) := by decide +kernel
theorem dX1_joinTypes_13 : decode cX1_joinTypes 13 = .ok (.aload_n 0, 1) := by decide +kernel
theorem dX1_joinTypes_14 : decode cX1_joinTypes 14 = .ok (.iload_n 2, 1) := by decide +kernel
theorem dX1_joinTypes_15 : decode cX1_joinTypes 15 = .ok (.invokevirtual 27, 3) := by decide +kernel
theorem dX1_joinTypes_18 : decode cX1_joinTypes 18 = .ok (.istore 4, 2) := by decide +kernel
theorem dX1_joinTypes_20 : decode cX1_joinTypes 20 = .ok (.iload_n 3, 1) := by decide +kernel
theorem dX1_joinTypes_21 : decode cX1_joinTypes 21 = .ok (.ifCond .eq 24, 3) := by decide +kernel
theorem dX1_joinTypes_24 : decode cX1_joinTypes 24 = .ok (.iload 4, 2) := by decide +kernel
theorem dX1_joinTypes_26 : decode cX1_joinTypes 26 = .ok (.ifCond .eq 19, 3) := by decide +kernel
theorem dX1_joinTypes_29 : decode cX1_joinTypes 29 = .ok (.bipush 10, 2) := by decide +kernel
theorem dX1_joinTypes_31 : decode cX1_joinTypes 31 = .ok (.aload_n 0, 1) := by decide +kernel
theorem dX1_joinTypes_32 : decode cX1_joinTypes 32 = .ok (.iload_n 1, 1) := by decide +kernel
theorem dX1_joinTypes_33 : decode cX1_joinTypes 33 = .ok (.bipush 10, 2) := by decide +kernel
theorem dX1_joinTypes_35 : decode cX1_joinTypes 35 = .ok (.isub, 1) := by decide +kernel
theorem dX1_joinTypes_36 : decode cX1_joinTypes 36 = .ok (.iload_n 2, 1) := by decide +kernel
theorem dX1_joinTypes_37 : decode cX1_joinTypes 37 = .ok (.bipush 10, 2) := by decide +kernel
theorem dX1_joinTypes_39 : decode cX1_joinTypes 39 = .ok (.isub, 1) := by decide +kernel
theorem dX1_joinTypes_40 : decode cX1_joinTypes 40 = .ok (.invokevirtual 30, 3) := by decide +kernel
theorem dX1_joinTypes_43 : decode cX1_joinTypes 43 = .ok (.iadd, 1) := by decide +kernel
theorem dX1_joinTypes_44 : decode cX1_joinTypes 44 = .ok (.ireturn, 1) := by decide +kernel
theorem dX1_joinTypes_45 : decode cX1_joinTypes 45 = .ok (.iload_n 1, 1) := by decide +kernel
theorem dX1_joinTypes_46 : decode cX1_joinTypes 46 = .ok (.iconst 4, 1) := by decide +kernel
theorem dX1_joinTypes_47 : decode cX1_joinTypes 47 = .ok (.if_icmp .ne 10, 3) := by decide +kernel
theorem dX1_joinTypes_50 : decode cX1_joinTypes 50 = .ok (.iload 4, 2) := by decide +kernel
theorem dX1_joinTypes_52 : decode cX1_joinTypes 52 = .ok (.ifCond .eq 5, 3) := by decide +kernel
theorem dX1_joinTypes_55 : decode cX1_joinTypes 55 = .ok (.iload_n 2, 1) := by decide +kernel
theorem dX1_joinTypes_56 : decode cX1_joinTypes 56 = .ok (.ireturn, 1) := by decide +kernel
theorem dX1_joinTypes_57 : decode cX1_joinTypes 57 = .ok (.iload_n 2, 1) := by decide +kernel
theorem dX1_joinTypes_58 : decode cX1_joinTypes 58 = .ok (.iconst 4, 1) := by decide +kernel
theorem dX1_joinTypes_59 : decode cX1_joinTypes 59 = .ok (.if_icmp .ne 11, 3) := by decide +kernel
theorem dX1_joinTypes_62 : decode cX1_joinTypes 62 = .ok (.iload_n 3, 1) := by decide +kernel
theorem dX1_joinTypes_63 : decode cX1_joinTypes 63 = .ok (.ifCond .eq 7, 3) := by decide +kernel
theorem dX1_joinTypes_66 : decode cX1_joinTypes 66 = .ok (.iload_n 1, 1) := by decide +kernel
theorem dX1_joinTypes_67 : decode cX1_joinTypes 67 = .ok (.goto 4, 3) := by decide +kernel
theorem dX1_joinTypes_70 : decode cX1_joinTypes 70 = .ok (.iconst 0, 1) := by decide +kernel
theorem dX1_joinTypes_71 : decode cX1_joinTypes 71 = .ok (.ireturn, 1) := by decide +kernel
theorem dX1_isObjectFor_0 : decode cX1_isObjectFor 0 = .ok (.iload_n 1, 1) := by decide +kernel
theorem dX1_isObjectFor_1 : decode cX1_isObjectFor 1 = .ok (.iconst 4, 1) := by decide +kernel
theorem dX1_isObjectFor_2 : decode cX1_isObjectFor 2 = .ok (.if_icmp .eq 15, 3) := by decide +kernel
theorem dX1_isObjectFor_5 : decode cX1_isObjectFor 5 = .ok (.aload_n 0, 1) := by decide +kernel
theorem dX1_isObjectFor_6 : decode cX1_isObjectFor 6 = .ok (.iload_n 1, 1) := by decide +kernel
theorem dX1_isObjectFor_7 : decode cX1_isObjectFor 7 = .ok (.bipush 10, 2) := by decide +kernel
theorem dX1_isObjectFor_9 : decode cX1_isObjectFor 9 = .ok (.isub, 1) := by decide +kernel
theorem dX1_isObjectFor_10 : decode cX1_isObjectFor 10 = .ok (.iload_n 2, 1) := by decide +kernel
theorem dX1_isObjectFor_11 : decode cX1_isObjectFor 11 = .ok (.invokevirtual 34, 3) := by decide +kernel
theorem dX1_isObjectFor_14 : decode cX1_isObjectFor 14 = .ok (.ifCond .eq 7, 3) := by decide +kernel
theorem dX1_isObjectFor_17 : decode cX1_isObjectFor 17 = .ok (.iconst 1, 1) := by decide +kernel
theorem dX1_isObjectFor_18 : decode cX1_isObjectFor 18 = .ok (.goto 4, 3) := by decide +kernel
theorem dX1_isObjectFor_21 : decode cX1_isObjectFor 21 = .ok (.iconst 0, 1) := by decide +kernel
theorem dX1_isObjectFor_22 : decode cX1_isObjectFor 22 = .ok (.ireturn, 1) := by decide +kernel
theorem dX1_fitsType_0 : decode cX1_fitsType 0 = .ok (.iload_n 1, 1) := by decide +kernel
theorem dX1_fitsType_1 : decode cX1_fitsType 1 = .ok (.iload_n 2, 1) := by decide +kernel
theorem dX1_fitsType_2 : decode cX1_fitsType 2 = .ok (.if_icmp .eq 7, 3) := by decide +kernel
theorem dX1_fitsType_5 : decode cX1_fitsType 5 = .ok (.iload_n 2, 1) := by decide +kernel
theorem dX1_fitsType_6 : decode cX1_fitsType 6 = .ok (.ifCond .ne 5, 3) := by decide +kernel
theorem dX1_fitsType_9 : decode cX1_fitsType 9 = .ok (.iconst 1, 1) := by decide +kernel
theorem dX1_fitsType_10 : decode cX1_fitsType 10 = .ok (.ireturn, 1) := by decide +kernel
theorem dX1_fitsType_11 : decode cX1_fitsType 11 = .ok (.iload_n 1, 1) := by decide +kernel
theorem dX1_fitsType_12 : decode cX1_fitsType 12 = .ok (.iconst 4, 1) := by decide +kernel
theorem dX1_fitsType_13 : decode cX1_fitsType 13 = .ok (.if_icmp .ne 11, 3) := by decide +kernel
theorem dX1_fitsType_16 : decode cX1_fitsType 16 = .ok (.aload_n 0, 1) := by decide +kernel
theorem dX1_fitsType_17 : decode cX1_fitsType 17 = .ok (.iload_n 2, 1) := by decide +kernel
theorem dX1_fitsType_18 : decode cX1_fitsType 18 = .ok (.invokevirtual 27, 3) := by decide +kernel
theorem dX1_fitsType_21 : decode cX1_fitsType 21 = .ok (.goto 15, 3) := by decide +kernel
theorem dX1_fitsType_24 : decode cX1_fitsType 24 = .ok (.aload_n 0, 1) := by decide +kernel
theorem dX1_fitsType_25 : decode cX1_fitsType 25 = .ok (.iload_n 1, 1) := by decide +kernel
theorem dX1_fitsType_26 : decode cX1_fitsType 26 = .ok (.bipush 10, 2) := by decide +kernel
theorem dX1_fitsType_28 : decode cX1_fitsType 28 = .ok (.isub, 1) := by decide +kernel
theorem dX1_fitsType_29 : decode cX1_fitsType 29 = .ok (.iload_n 2, 1) := by decide +kernel
theorem dX1_fitsType_30 : decode cX1_fitsType 30 = .ok (.bipush 10, 2) := by decide +kernel
theorem dX1_fitsType_32 : decode cX1_fitsType 32 = .ok (.isub, 1) := by decide +kernel
theorem dX1_fitsType_33 : decode cX1_fitsType 33 = .ok (.invokevirtual 34, 3) := by decide +kernel
theorem dX1_fitsType_36 : decode cX1_fitsType 36 = .ok (.ireturn, 1) := by decide +kernel
theorem dX1_fitsAll_0 : decode cX1_fitsAll 0 = .ok (.aload_n 1, 1) := by decide +kernel
theorem dX1_fitsAll_1 : decode cX1_fitsAll 1 = .ok (.getfield 38, 3) := by decide +kernel
theorem dX1_fitsAll_4 : decode cX1_fitsAll 4 = .ok (.aload_n 2, 1) := by decide +kernel
theorem dX1_fitsAll_5 : decode cX1_fitsAll 5 = .ok (.getfield 38, 3) := by decide +kernel
theorem dX1_fitsAll_8 : decode cX1_fitsAll 8 = .ok (.if_icmp .eq 5, 3) := by decide +kernel
theorem dX1_fitsAll_11 : decode cX1_fitsAll 11 = .ok (.iconst 0, 1) := by decide +kernel
theorem dX1_fitsAll_12 : decode cX1_fitsAll 12 = .ok (.ireturn, 1) := by decide +kernel
theorem dX1_fitsAll_13 : decode cX1_fitsAll 13 = .ok (.iconst 0, 1) := by decide +kernel
theorem dX1_fitsAll_14 : decode cX1_fitsAll 14 = .ok (.istore_n 3, 1) := by decide +kernel
theorem dX1_fitsAll_15 : decode cX1_fitsAll 15 = .ok (.iload_n 3, 1) := by decide +kernel
theorem dX1_fitsAll_16 : decode cX1_fitsAll 16 = .ok (.bipush 8, 2) := by decide +kernel
theorem dX1_fitsAll_18 : decode cX1_fitsAll 18 = .ok (.if_icmp .ge 28, 3) := by decide +kernel
theorem dX1_fitsAll_21 : decode cX1_fitsAll 21 = .ok (.aload_n 0, 1) := by decide +kernel
theorem dX1_fitsAll_22 : decode cX1_fitsAll 22 = .ok (.aload_n 1, 1) := by decide +kernel
theorem dX1_fitsAll_23 : decode cX1_fitsAll 23 = .ok (.iload_n 3, 1) := by decide +kernel
theorem dX1_fitsAll_24 : decode cX1_fitsAll 24 = .ok (.invokevirtual 43, 3) := by decide +kernel
theorem dX1_fitsAll_27 : decode cX1_fitsAll 27 = .ok (.aload_n 2, 1) := by decide +kernel
theorem dX1_fitsAll_28 : decode cX1_fitsAll 28 = .ok (.iload_n 3, 1) := by decide +kernel
theorem dX1_fitsAll_29 : decode cX1_fitsAll 29 = .ok (.invokevirtual 43, 3) := by decide +kernel
theorem dX1_fitsAll_32 : decode cX1_fitsAll 32 = .ok (.invokevirtual 47, 3) := by decide +kernel
theorem dX1_fitsAll_35 : decode cX1_fitsAll 35 = .ok (.ifCond .ne 5, 3) := by decide +kernel
theorem dX1_fitsAll_38 : decode cX1_fitsAll 38 = .ok (.iconst 0, 1) := by decide +kernel
theorem dX1_fitsAll_39 : decode cX1_fitsAll 39 = .ok (.ireturn, 1) := by decide +kernel
theorem dX1_fitsAll_40 : decode cX1_fitsAll 40 = .ok (.iinc 3 1, 3) := by decide +kernel
theorem dX1_fitsAll_43 : decode cX1_fitsAll 43 = .ok (.goto (-28), 3) := by decide +kernel
theorem dX1_fitsAll_46 : decode cX1_fitsAll 46 = .ok (.iconst 0, 1) := by decide +kernel
theorem dX1_fitsAll_47 : decode cX1_fitsAll 47 = .ok (.istore_n 3, 1) := by decide +kernel
theorem dX1_fitsAll_48 : decode cX1_fitsAll 48 = .ok (.iload_n 3, 1) := by decide +kernel
theorem dX1_fitsAll_49 : decode cX1_fitsAll 49 = .ok (.aload_n 1, 1) := by decide +kernel
theorem dX1_fitsAll_50 : decode cX1_fitsAll 50 = .ok (.getfield 38, 3) := by decide +kernel
theorem dX1_fitsAll_53 : decode cX1_fitsAll 53 = .ok (.if_icmp .ge 28, 3) := by decide +kernel
theorem dX1_fitsAll_56 : decode cX1_fitsAll 56 = .ok (.aload_n 0, 1) := by decide +kernel
theorem dX1_fitsAll_57 : decode cX1_fitsAll 57 = .ok (.aload_n 1, 1) := by decide +kernel
theorem dX1_fitsAll_58 : decode cX1_fitsAll 58 = .ok (.iload_n 3, 1) := by decide +kernel
theorem dX1_fitsAll_59 : decode cX1_fitsAll 59 = .ok (.invokevirtual 50, 3) := by decide +kernel
theorem dX1_fitsAll_62 : decode cX1_fitsAll 62 = .ok (.aload_n 2, 1) := by decide +kernel
theorem dX1_fitsAll_63 : decode cX1_fitsAll 63 = .ok (.iload_n 3, 1) := by decide +kernel
theorem dX1_fitsAll_64 : decode cX1_fitsAll 64 = .ok (.invokevirtual 50, 3) := by decide +kernel
theorem dX1_fitsAll_67 : decode cX1_fitsAll 67 = .ok (.invokevirtual 47, 3) := by decide +kernel
theorem dX1_fitsAll_70 : decode cX1_fitsAll 70 = .ok (.ifCond .ne 5, 3) := by decide +kernel
theorem dX1_fitsAll_73 : decode cX1_fitsAll 73 = .ok (.iconst 0, 1) := by decide +kernel
theorem dX1_fitsAll_74 : decode cX1_fitsAll 74 = .ok (.ireturn, 1) := by decide +kernel
theorem dX1_fitsAll_75 : decode cX1_fitsAll 75 = .ok (.iinc 3 1, 3) := by decide +kernel
theorem dX1_fitsAll_78 : decode cX1_fitsAll 78 = .ok (.goto (-30), 3) := by decide +kernel
theorem dX1_fitsAll_81 : decode cX1_fitsAll 81 = .ok (.iconst 1, 1) := by decide +kernel
theorem dX1_fitsAll_82 : decode cX1_fitsAll 82 = .ok (.ireturn, 1) := by decide +kernel
theorem dX2_init_0 : decode cX2_init 0 = .ok (.aload_n 0, 1) := by decide +kernel
theorem dX2_init_1 : decode cX2_init 1 = .ok (.invokespecial 3, 3) := by decide +kernel
theorem dX2_init_4 : decode cX2_init 4 = .ok (.aload_n 0, 1) := by decide +kernel
theorem dX2_init_5 : decode cX2_init 5 = .ok (.new 9, 3) := by decide +kernel
theorem dX2_init_8 : decode cX2_init 8 = .ok (.dup, 1) := by decide +kernel
theorem dX2_init_9 : decode cX2_init 9 = .ok (.invokespecial 11, 3) := by decide +kernel
theorem dX2_init_12 : decode cX2_init 12 = .ok (.putfield 12, 3) := by decide +kernel
theorem dX2_init_15 : decode cX2_init 15 = .ok (.aload_n 0, 1) := by decide +kernel
theorem dX2_init_16 : decode cX2_init 16 = .ok (.new 9, 3) := by decide +kernel
theorem dX2_init_19 : decode cX2_init 19 = .ok (.dup, 1) := by decide +kernel
theorem dX2_init_20 : decode cX2_init 20 = .ok (.invokespecial 11, 3) := by decide +kernel
theorem dX2_init_23 : decode cX2_init 23 = .ok (.putfield 18, 3) := by decide +kernel
theorem dX2_init_26 : decode cX2_init 26 = .ok (.aload_n 0, 1) := by decide +kernel
theorem dX2_init_27 : decode cX2_init 27 = .ok (.iconst 0, 1) := by decide +kernel
theorem dX2_init_28 : decode cX2_init 28 = .ok (.putfield 21, 3) := by decide +kernel
theorem dX2_init_31 : decode cX2_init 31 = .ok (.aload_n 0, 1) := by decide +kernel
theorem dX2_init_32 : decode cX2_init 32 = .ok (.aload_n 1, 1) := by decide +kernel
theorem dX2_init_33 : decode cX2_init 33 = .ok (.putfield 25, 3) := by decide +kernel
theorem dX2_init_36 : decode cX2_init 36 = .ok (.aload_n 0, 1) := by decide +kernel
theorem dX2_init_37 : decode cX2_init 37 = .ok (.aload_n 2, 1) := by decide +kernel
theorem dX2_init_38 : decode cX2_init 38 = .ok (.putfield 29, 3) := by decide +kernel
theorem dX2_init_41 : decode cX2_init 41 = .ok (.return_, 1) := by decide +kernel
theorem dX2_run_0 : decode cX2_run 0 = .ok (.aload_n 1, 1) := by decide +kernel
theorem dX2_run_1 : decode cX2_run 1 = .ok (.invokevirtual 33, 3) := by decide +kernel
theorem dX2_run_4 : decode cX2_run 4 = .ok (.aload_n 0, 1) := by decide +kernel
theorem dX2_run_5 : decode cX2_run 5 = .ok (.aload_n 0, 1) := by decide +kernel
theorem dX2_run_6 : decode cX2_run 6 = .ok (.aload_n 1, 1) := by decide +kernel
theorem dX2_run_7 : decode cX2_run 7 = .ok (.iconst (-1), 1) := by decide +kernel
theorem dX2_run_8 : decode cX2_run 8 = .ok (.iconst 0, 1) := by decide +kernel
theorem dX2_run_9 : decode cX2_run 9 = .ok (.aload_n 1, 1) := by decide +kernel
theorem dX2_run_10 : decode cX2_run 10 = .ok (.getfield 38, 3) := by decide +kernel
theorem dX2_run_13 : decode cX2_run 13 = .ok (.invokevirtual 41, 3) := by decide +kernel
theorem dX2_run_16 : decode cX2_run 16 = .ok (.putfield 21, 3) := by decide +kernel
theorem dX2_run_19 : decode cX2_run 19 = .ok (.aload_n 1, 1) := by decide +kernel
theorem dX2_run_20 : decode cX2_run 20 = .ok (.invokevirtual 45, 3) := by decide +kernel
theorem dX2_run_23 : decode cX2_run 23 = .ok (.istore_n 2, 1) := by decide +kernel
theorem dX2_run_24 : decode cX2_run 24 = .ok (.iconst 0, 1) := by decide +kernel
theorem dX2_run_25 : decode cX2_run 25 = .ok (.istore_n 3, 1) := by decide +kernel
theorem dX2_run_26 : decode cX2_run 26 = .ok (.iload_n 3, 1) := by decide +kernel
theorem dX2_run_27 : decode cX2_run 27 = .ok (.ldc 49, 2) := by decide +kernel
theorem dX2_run_29 : decode cX2_run 29 = .ok (.if_icmp .ge 38, 3) := by decide +kernel
theorem dX2_run_32 : decode cX2_run 32 = .ok (.iload_n 2, 1) := by decide +kernel
theorem dX2_run_33 : decode cX2_run 33 = .ok (.iconst (-1), 1) := by decide +kernel
theorem dX2_run_34 : decode cX2_run 34 = .ok (.if_icmp .eq 33, 3) := by decide +kernel
theorem dX2_run_37 : decode cX2_run 37 = .ok (.aload_n 0, 1) := by decide +kernel
theorem dX2_run_38 : decode cX2_run 38 = .ok (.aload_n 0, 1) := by decide +kernel
theorem dX2_run_39 : decode cX2_run 39 = .ok (.aload_n 1, 1) := by decide +kernel
theorem dX2_run_40 : decode cX2_run 40 = .ok (.iload_n 2, 1) := by decide +kernel
theorem dX2_run_41 : decode cX2_run 41 = .ok (.invokevirtual 50, 3) := by decide +kernel
theorem dX2_run_44 : decode cX2_run 44 = .ok (.putfield 21, 3) := by decide +kernel
theorem dX2_run_47 : decode cX2_run 47 = .ok (.aload_n 0, 1) := by decide +kernel
theorem dX2_run_48 : decode cX2_run 48 = .ok (.getfield 21, 3) := by decide +kernel
theorem dX2_run_51 : decode cX2_run 51 = .ok (.ifCond .eq 5, 3) := by decide +kernel
theorem dX2_run_54 : decode cX2_run 54 = .ok (.iload_n 2, 1) := by decide +kernel
theorem dX2_run_55 : decode cX2_run 55 = .ok (.ireturn, 1) := by decide +kernel
theorem dX2_run_56 : decode cX2_run 56 = .ok (.aload_n 1, 1) := by decide +kernel
theorem dX2_run_57 : decode cX2_run 57 = .ok (.invokevirtual 45, 3) := by decide +kernel
theorem dX2_run_60 : decode cX2_run 60 = .ok (.istore_n 2, 1) := by decide +kernel
theorem dX2_run_61 : decode cX2_run 61 = .ok (.iinc 3 1, 3) := by decide +kernel
theorem dX2_run_64 : decode cX2_run 64 = .ok (.goto (-38), 3) := by decide +kernel
theorem dX2_run_67 : decode cX2_run 67 = .ok (.aload_n 1, 1) := by decide +kernel
theorem dX2_run_68 : decode cX2_run 68 = .ok (.invokevirtual 54, 3) := by decide +kernel
theorem dX2_run_71 : decode cX2_run 71 = .ok (.aload_n 1, 1) := by decide +kernel
theorem dX2_run_72 : decode cX2_run 72 = .ok (.iconst 1, 1) := by decide +kernel
theorem dX2_run_73 : decode cX2_run 73 = .ok (.putfield 57, 3) := by decide +kernel
theorem dX2_run_76 : decode cX2_run 76 = .ok (.iconst (-1), 1) := by decide +kernel
theorem dX2_run_77 : decode cX2_run 77 = .ok (.ireturn, 1) := by decide +kernel
theorem dX2_workOn_0 : decode cX2_workOn 0 = .ok (.aload_n 1, 1) := by decide +kernel
theorem dX2_workOn_1 : decode cX2_workOn 1 = .ok (.iload_n 2, 1) := by decide +kernel
theorem dX2_workOn_2 : decode cX2_workOn 2 = .ok (.invokevirtual 61, 3) := by decide +kernel
theorem dX2_workOn_5 : decode cX2_workOn 5 = .ok (.astore_n 3, 1) := by decide +kernel
theorem dX2_workOn_6 : decode cX2_workOn 6 = .ok (.aload_n 3, 1) := by decide +kernel
theorem dX2_workOn_7 : decode cX2_workOn 7 = .ok (.ifnonnull 5, 3) := by decide +kernel
theorem dX2_workOn_10 : decode cX2_workOn 10 = .ok (.iconst 5, 1) := by decide +kernel
theorem dX2_workOn_11 : decode cX2_workOn 11 = .ok (.ireturn, 1) := by decide +kernel
theorem dX2_workOn_12 : decode cX2_workOn 12 = .ok (.aload_n 3, 1) := by decide +kernel
theorem dX2_workOn_13 : decode cX2_workOn 13 = .ok (.iconst 0, 1) := by decide +kernel
theorem dX2_workOn_14 : decode cX2_workOn 14 = .ok (.putfield 65, 3) := by decide +kernel
theorem dX2_workOn_17 : decode cX2_workOn 17 = .ok (.aload_n 0, 1) := by decide +kernel
theorem dX2_workOn_18 : decode cX2_workOn 18 = .ok (.getfield 12, 3) := by decide +kernel
theorem dX2_workOn_21 : decode cX2_workOn 21 = .ok (.aload_n 3, 1) := by decide +kernel
theorem dX2_workOn_22 : decode cX2_workOn 22 = .ok (.getfield 70, 3) := by decide +kernel
theorem dX2_workOn_25 : decode cX2_workOn 25 = .ok (.invokevirtual 73, 3) := by decide +kernel
theorem dX2_workOn_28 : decode cX2_workOn 28 = .ok (.aload_n 1, 1) := by decide +kernel
theorem dX2_workOn_29 : decode cX2_workOn 29 = .ok (.aload_n 0, 1) := by decide +kernel
theorem dX2_workOn_30 : decode cX2_workOn 30 = .ok (.getfield 12, 3) := by decide +kernel
theorem dX2_workOn_33 : decode cX2_workOn 33 = .ok (.invokevirtual 77, 3) := by decide +kernel
theorem dX2_workOn_36 : decode cX2_workOn 36 = .ok (.aload_n 0, 1) := by decide +kernel
theorem dX2_workOn_37 : decode cX2_workOn 37 = .ok (.aload_n 1, 1) := by decide +kernel
theorem dX2_workOn_38 : decode cX2_workOn 38 = .ok (.iload_n 2, 1) := by decide +kernel
theorem dX2_workOn_39 : decode cX2_workOn 39 = .ok (.invokevirtual 80, 3) := by decide +kernel
theorem dX2_workOn_42 : decode cX2_workOn 42 = .ok (.istore 4, 2) := by decide +kernel
theorem dX2_workOn_44 : decode cX2_workOn 44 = .ok (.iload 4, 2) := by decide +kernel
theorem dX2_workOn_46 : decode cX2_workOn 46 = .ok (.ifCond .ne 19, 3) := by decide +kernel
theorem dX2_workOn_49 : decode cX2_workOn 49 = .ok (.aload_n 0, 1) := by decide +kernel
theorem dX2_workOn_50 : decode cX2_workOn 50 = .ok (.getfield 29, 3) := by decide +kernel
theorem dX2_workOn_53 : decode cX2_workOn 53 = .ok (.aload_n 1, 1) := by decide +kernel
theorem dX2_workOn_54 : decode cX2_workOn 54 = .ok (.iload_n 2, 1) := by decide +kernel
theorem dX2_workOn_55 : decode cX2_workOn 55 = .ok (.aload_n 3, 1) := by decide +kernel
theorem dX2_workOn_56 : decode cX2_workOn 56 = .ok (.aload_n 0, 1) := by decide +kernel
theorem dX2_workOn_57 : decode cX2_workOn 57 = .ok (.getfield 12, 3) := by decide +kernel
theorem dX2_workOn_60 : decode cX2_workOn 60 = .ok (.invokevirtual 83, 3) := by decide +kernel
theorem dX2_workOn_63 : decode cX2_workOn 63 = .ok (.istore 4, 2) := by decide +kernel
theorem dX2_workOn_65 : decode cX2_workOn 65 = .ok (.iload 4, 2) := by decide +kernel
theorem dX2_workOn_67 : decode cX2_workOn 67 = .ok (.ifCond .eq 6, 3) := by decide +kernel
theorem dX2_workOn_70 : decode cX2_workOn 70 = .ok (.iload 4, 2) := by decide +kernel
theorem dX2_workOn_72 : decode cX2_workOn 72 = .ok (.ireturn, 1) := by decide +kernel
theorem dX2_workOn_73 : decode cX2_workOn 73 = .ok (.aload_n 1, 1) := by decide +kernel
theorem dX2_workOn_74 : decode cX2_workOn 74 = .ok (.aload_n 0, 1) := by decide +kernel
theorem dX2_workOn_75 : decode cX2_workOn 75 = .ok (.getfield 12, 3) := by decide +kernel
theorem dX2_workOn_78 : decode cX2_workOn 78 = .ok (.invokevirtual 77, 3) := by decide +kernel
theorem dX2_workOn_81 : decode cX2_workOn 81 = .ok (.aload_n 1, 1) := by decide +kernel
theorem dX2_workOn_82 : decode cX2_workOn 82 = .ok (.aload_n 3, 1) := by decide +kernel
theorem dX2_workOn_83 : decode cX2_workOn 83 = .ok (.aload_n 0, 1) := by decide +kernel
theorem dX2_workOn_84 : decode cX2_workOn 84 = .ok (.getfield 12, 3) := by decide +kernel
theorem dX2_workOn_87 : decode cX2_workOn 87 = .ok (.invokevirtual 89, 3) := by decide +kernel
theorem dX2_workOn_90 : decode cX2_workOn 90 = .ok (.aload_n 0, 1) := by decide +kernel
theorem dX2_workOn_91 : decode cX2_workOn 91 = .ok (.aload_n 1, 1) := by decide +kernel
theorem dX2_workOn_92 : decode cX2_workOn 92 = .ok (.iload_n 2, 1) := by decide +kernel
theorem dX2_workOn_93 : decode cX2_workOn 93 = .ok (.aload_n 3, 1) := by decide +kernel
theorem dX2_workOn_94 : decode cX2_workOn 94 = .ok (.invokevirtual 93, 3) := by decide +kernel
theorem dX2_workOn_97 : decode cX2_workOn 97 = .ok (.ireturn, 1) := by decide +kernel
theorem dX2_sendToGuards_0 : decode cX2_sendToGuards 0 = .ok (.iconst 0, 1) := by decide +kernel
theorem dX2_sendToGuards_1 : decode cX2_sendToGuards 1 = .ok (.istore_n 3, 1) := by decide +kernel
theorem dX2_sendToGuards_2 : decode cX2_sendToGuards 2 = .ok (.iload_n 3, 1) := by decide +kernel
theorem dX2_sendToGuards_3 : decode cX2_sendToGuards 3 = .ok (.aload_n 1, 1) := by decide +kernel
theorem dX2_sendToGuards_4 : decode cX2_sendToGuards 4 = .ok (.getfield 97, 3) := by decide +kernel
theorem dX2_sendToGuards_7 : decode cX2_sendToGuards 7 = .ok (.if_icmp .ge 63, 3) := by decide +kernel
theorem dX2_sendToGuards_10 : decode cX2_sendToGuards 10 = .ok (.aload_n 1, 1) := by decide +kernel
theorem dX2_sendToGuards_11 : decode cX2_sendToGuards 11 = .ok (.iload_n 3, 1) := by decide +kernel
theorem dX2_sendToGuards_12 : decode cX2_sendToGuards 12 = .ok (.iload_n 2, 1) := by decide +kernel
theorem dX2_sendToGuards_13 : decode cX2_sendToGuards 13 = .ok (.invokevirtual 100, 3) := by decide +kernel
theorem dX2_sendToGuards_16 : decode cX2_sendToGuards 16 = .ok (.astore 4, 2) := by decide +kernel
theorem dX2_sendToGuards_18 : decode cX2_sendToGuards 18 = .ok (.aload 4, 2) := by decide +kernel
theorem dX2_sendToGuards_20 : decode cX2_sendToGuards 20 = .ok (.ifnull 44, 3) := by decide +kernel
theorem dX2_sendToGuards_23 : decode cX2_sendToGuards 23 = .ok (.aload_n 0, 1) := by decide +kernel
theorem dX2_sendToGuards_24 : decode cX2_sendToGuards 24 = .ok (.getfield 18, 3) := by decide +kernel
theorem dX2_sendToGuards_27 : decode cX2_sendToGuards 27 = .ok (.aload_n 0, 1) := by decide +kernel
theorem dX2_sendToGuards_28 : decode cX2_sendToGuards 28 = .ok (.getfield 12, 3) := by decide +kernel
theorem dX2_sendToGuards_31 : decode cX2_sendToGuards 31 = .ok (.aload 4, 2) := by decide +kernel
theorem dX2_sendToGuards_33 : decode cX2_sendToGuards 33 = .ok (.getfield 104, 3) := by decide +kernel
theorem dX2_sendToGuards_36 : decode cX2_sendToGuards 36 = .ok (.invokevirtual 109, 3) := by decide +kernel
theorem dX2_sendToGuards_39 : decode cX2_sendToGuards 39 = .ok (.aload_n 0, 1) := by decide +kernel
theorem dX2_sendToGuards_40 : decode cX2_sendToGuards 40 = .ok (.aload_n 1, 1) := by decide +kernel
theorem dX2_sendToGuards_41 : decode cX2_sendToGuards 41 = .ok (.iload_n 2, 1) := by decide +kernel
theorem dX2_sendToGuards_42 : decode cX2_sendToGuards 42 = .ok (.aload 4, 2) := by decide +kernel
theorem dX2_sendToGuards_44 : decode cX2_sendToGuards 44 = .ok (.getfield 113, 3) := by decide +kernel
theorem dX2_sendToGuards_47 : decode cX2_sendToGuards 47 = .ok (.aload_n 0, 1) := by decide +kernel
theorem dX2_sendToGuards_48 : decode cX2_sendToGuards 48 = .ok (.getfield 18, 3) := by decide +kernel
theorem dX2_sendToGuards_51 : decode cX2_sendToGuards 51 = .ok (.invokevirtual 41, 3) := by decide +kernel
theorem dX2_sendToGuards_54 : decode cX2_sendToGuards 54 = .ok (.istore 5, 2) := by decide +kernel
theorem dX2_sendToGuards_56 : decode cX2_sendToGuards 56 = .ok (.iload 5, 2) := by decide +kernel
theorem dX2_sendToGuards_58 : decode cX2_sendToGuards 58 = .ok (.ifCond .eq 6, 3) := by decide +kernel
theorem dX2_sendToGuards_61 : decode cX2_sendToGuards 61 = .ok (.iload 5, 2) := by decide +kernel
theorem dX2_sendToGuards_63 : decode cX2_sendToGuards 63 = .ok (.ireturn, 1) := by decide +kernel
theorem dX2_sendToGuards_64 : decode cX2_sendToGuards 64 = .ok (.iinc 3 1, 3) := by decide +kernel
theorem dX2_sendToGuards_67 : decode cX2_sendToGuards 67 = .ok (.goto (-65), 3) := by decide +kernel
theorem dX2_sendToGuards_70 : decode cX2_sendToGuards 70 = .ok (.iconst 0, 1) := by decide +kernel
theorem dX2_sendToGuards_71 : decode cX2_sendToGuards 71 = .ok (.ireturn, 1) := by decide +kernel
theorem dX2_sendOn_0 : decode cX2_sendOn 0 = .ok (.aload_n 3, 1) := by decide +kernel
theorem dX2_sendOn_1 : decode cX2_sendOn 1 = .ok (.invokevirtual 116, 3) := by decide +kernel
theorem dX2_sendOn_4 : decode cX2_sendOn 4 = .ok (.ifCond .eq 19, 3) := by decide +kernel
theorem dX2_sendOn_7 : decode cX2_sendOn 7 = .ok (.aload_n 0, 1) := by decide +kernel
theorem dX2_sendOn_8 : decode cX2_sendOn 8 = .ok (.aload_n 1, 1) := by decide +kernel
theorem dX2_sendOn_9 : decode cX2_sendOn 9 = .ok (.iload_n 2, 1) := by decide +kernel
theorem dX2_sendOn_10 : decode cX2_sendOn 10 = .ok (.iload_n 2, 1) := by decide +kernel
theorem dX2_sendOn_11 : decode cX2_sendOn 11 = .ok (.iconst 1, 1) := by decide +kernel
theorem dX2_sendOn_12 : decode cX2_sendOn 12 = .ok (.iadd, 1) := by decide +kernel
theorem dX2_sendOn_13 : decode cX2_sendOn 13 = .ok (.aload_n 0, 1) := by decide +kernel
theorem dX2_sendOn_14 : decode cX2_sendOn 14 = .ok (.getfield 12, 3) := by decide +kernel
theorem dX2_sendOn_17 : decode cX2_sendOn 17 = .ok (.invokevirtual 41, 3) := by decide +kernel
theorem dX2_sendOn_20 : decode cX2_sendOn 20 = .ok (.goto 4, 3) := by decide +kernel
theorem dX2_sendOn_23 : decode cX2_sendOn 23 = .ok (.iconst 0, 1) := by decide +kernel
theorem dX2_sendOn_24 : decode cX2_sendOn 24 = .ok (.istore 4, 2) := by decide +kernel
theorem dX2_sendOn_26 : decode cX2_sendOn 26 = .ok (.aload_n 3, 1) := by decide +kernel
theorem dX2_sendOn_27 : decode cX2_sendOn 27 = .ok (.invokevirtual 120, 3) := by decide +kernel
theorem dX2_sendOn_30 : decode cX2_sendOn 30 = .ok (.istore 5, 2) := by decide +kernel
theorem dX2_sendOn_32 : decode cX2_sendOn 32 = .ok (.aload_n 3, 1) := by decide +kernel
theorem dX2_sendOn_33 : decode cX2_sendOn 33 = .ok (.invokevirtual 123, 3) := by decide +kernel
theorem dX2_sendOn_36 : decode cX2_sendOn 36 = .ok (.istore 6, 2) := by decide +kernel
theorem dX2_sendOn_38 : decode cX2_sendOn 38 = .ok (.iload 6, 2) := by decide +kernel
theorem dX2_sendOn_40 : decode cX2_sendOn 40 = .ok (.iload 5, 2) := by decide +kernel
theorem dX2_sendOn_42 : decode cX2_sendOn 42 = .ok (.if_icmp .gt 28, 3) := by decide +kernel
theorem dX2_sendOn_45 : decode cX2_sendOn 45 = .ok (.iload 4, 2) := by decide +kernel
theorem dX2_sendOn_47 : decode cX2_sendOn 47 = .ok (.ifCond .ne 23, 3) := by decide +kernel
theorem dX2_sendOn_50 : decode cX2_sendOn 50 = .ok (.aload_n 0, 1) := by decide +kernel
theorem dX2_sendOn_51 : decode cX2_sendOn 51 = .ok (.aload_n 1, 1) := by decide +kernel
theorem dX2_sendOn_52 : decode cX2_sendOn 52 = .ok (.iload_n 2, 1) := by decide +kernel
theorem dX2_sendOn_53 : decode cX2_sendOn 53 = .ok (.iload 6, 2) := by decide +kernel
theorem dX2_sendOn_55 : decode cX2_sendOn 55 = .ok (.aload_n 0, 1) := by decide +kernel
theorem dX2_sendOn_56 : decode cX2_sendOn 56 = .ok (.getfield 12, 3) := by decide +kernel
theorem dX2_sendOn_59 : decode cX2_sendOn 59 = .ok (.invokevirtual 41, 3) := by decide +kernel
theorem dX2_sendOn_62 : decode cX2_sendOn 62 = .ok (.istore 4, 2) := by decide +kernel
theorem dX2_sendOn_64 : decode cX2_sendOn 64 = .ok (.iinc 6 1, 3) := by decide +kernel
theorem dX2_sendOn_67 : decode cX2_sendOn 67 = .ok (.goto (-29), 3) := by decide +kernel
theorem dX2_sendOn_70 : decode cX2_sendOn 70 = .ok (.iload 4, 2) := by decide +kernel
theorem dX2_sendOn_72 : decode cX2_sendOn 72 = .ok (.ireturn, 1) := by decide +kernel
theorem dX2_arrive_0 : decode cX2_arrive 0 = .ok (.aload_n 1, 1) := by decide +kernel
theorem dX2_arrive_1 : decode cX2_arrive 1 = .ok (.iload_n 3, 1) := by decide +kernel
theorem dX2_arrive_2 : decode cX2_arrive 2 = .ok (.invokevirtual 61, 3) := by decide +kernel
theorem dX2_arrive_5 : decode cX2_arrive 5 = .ok (.astore 5, 2) := by decide +kernel
theorem dX2_arrive_7 : decode cX2_arrive 7 = .ok (.aload 5, 2) := by decide +kernel
theorem dX2_arrive_9 : decode cX2_arrive 9 = .ok (.ifnonnull 5, 3) := by decide +kernel
theorem dX2_arrive_12 : decode cX2_arrive 12 = .ok (.iconst 5, 1) := by decide +kernel
theorem dX2_arrive_13 : decode cX2_arrive 13 = .ok (.ireturn, 1) := by decide +kernel
theorem dX2_arrive_14 : decode cX2_arrive 14 = .ok (.iload_n 3, 1) := by decide +kernel
theorem dX2_arrive_15 : decode cX2_arrive 15 = .ok (.iload_n 2, 1) := by decide +kernel
theorem dX2_arrive_16 : decode cX2_arrive 16 = .ok (.if_icmp .gt 14, 3) := by decide +kernel
theorem dX2_arrive_19 : decode cX2_arrive 19 = .ok (.aload 4, 2) := by decide +kernel
theorem dX2_arrive_21 : decode cX2_arrive 21 = .ok (.invokevirtual 126, 3) := by decide +kernel
theorem dX2_arrive_24 : decode cX2_arrive 24 = .ok (.ifCond .eq 6, 3) := by decide +kernel
theorem dX2_arrive_27 : decode cX2_arrive 27 = .ok (.bipush 6, 2) := by decide +kernel
theorem dX2_arrive_29 : decode cX2_arrive 29 = .ok (.ireturn, 1) := by decide +kernel
theorem dX2_arrive_30 : decode cX2_arrive 30 = .ok (.aload 5, 2) := by decide +kernel
theorem dX2_arrive_32 : decode cX2_arrive 32 = .ok (.getfield 129, 3) := by decide +kernel
theorem dX2_arrive_35 : decode cX2_arrive 35 = .ok (.ifCond .ne 27, 3) := by decide +kernel
theorem dX2_arrive_38 : decode cX2_arrive 38 = .ok (.aload 5, 2) := by decide +kernel
theorem dX2_arrive_40 : decode cX2_arrive 40 = .ok (.getfield 70, 3) := by decide +kernel
theorem dX2_arrive_43 : decode cX2_arrive 43 = .ok (.aload 4, 2) := by decide +kernel
theorem dX2_arrive_45 : decode cX2_arrive 45 = .ok (.invokevirtual 73, 3) := by decide +kernel
theorem dX2_arrive_48 : decode cX2_arrive 48 = .ok (.aload 5, 2) := by decide +kernel
theorem dX2_arrive_50 : decode cX2_arrive 50 = .ok (.iconst 1, 1) := by decide +kernel
theorem dX2_arrive_51 : decode cX2_arrive 51 = .ok (.putfield 129, 3) := by decide +kernel
theorem dX2_arrive_54 : decode cX2_arrive 54 = .ok (.aload 5, 2) := by decide +kernel
theorem dX2_arrive_56 : decode cX2_arrive 56 = .ok (.iconst 1, 1) := by decide +kernel
theorem dX2_arrive_57 : decode cX2_arrive 57 = .ok (.putfield 65, 3) := by decide +kernel
theorem dX2_arrive_60 : decode cX2_arrive 60 = .ok (.iconst 0, 1) := by decide +kernel
theorem dX2_arrive_61 : decode cX2_arrive 61 = .ok (.ireturn, 1) := by decide +kernel
theorem dX2_arrive_62 : decode cX2_arrive 62 = .ok (.aload_n 0, 1) := by decide +kernel
theorem dX2_arrive_63 : decode cX2_arrive 63 = .ok (.aload 5, 2) := by decide +kernel
theorem dX2_arrive_65 : decode cX2_arrive 65 = .ok (.aload 4, 2) := by decide +kernel
theorem dX2_arrive_67 : decode cX2_arrive 67 = .ok (.invokevirtual 132, 3) := by decide +kernel
theorem dX2_arrive_70 : decode cX2_arrive 70 = .ok (.ireturn, 1) := by decide +kernel
theorem dX2_merge_0 : decode cX2_merge 0 = .ok (.aload_n 1, 1) := by decide +kernel
theorem dX2_merge_1 : decode cX2_merge 1 = .ok (.getfield 70, 3) := by decide +kernel
theorem dX2_merge_4 : decode cX2_merge 4 = .ok (.astore_n 3, 1) := by decide +kernel
theorem dX2_merge_5 : decode cX2_merge 5 = .ok (.aload_n 3, 1) := by decide +kernel
theorem dX2_merge_6 : decode cX2_merge 6 = .ok (.getfield 136, 3) := by decide +kernel
theorem dX2_merge_9 : decode cX2_merge 9 = .ok (.aload_n 2, 1) := by decide +kernel
theorem dX2_merge_10 : decode cX2_merge 10 = .ok (.getfield 136, 3) := by decide +kernel
theorem dX2_merge_13 : decode cX2_merge 13 = .ok (.if_icmp .eq 5, 3) := by decide +kernel
theorem dX2_merge_16 : decode cX2_merge 16 = .ok (.iconst 4, 1) := by decide +kernel
theorem dX2_merge_17 : decode cX2_merge 17 = .ok (.ireturn, 1) := by decide +kernel
theorem dX2_merge_18 : decode cX2_merge 18 = .ok (.iconst 0, 1) := by decide +kernel
theorem dX2_merge_19 : decode cX2_merge 19 = .ok (.istore 4, 2) := by decide +kernel
theorem dX2_merge_21 : decode cX2_merge 21 = .ok (.iload 4, 2) := by decide +kernel
theorem dX2_merge_23 : decode cX2_merge 23 = .ok (.aload_n 2, 1) := by decide +kernel
theorem dX2_merge_24 : decode cX2_merge 24 = .ok (.getfield 136, 3) := by decide +kernel
theorem dX2_merge_27 : decode cX2_merge 27 = .ok (.if_icmp .ge 72, 3) := by decide +kernel
theorem dX2_merge_30 : decode cX2_merge 30 = .ok (.aload_n 3, 1) := by decide +kernel
theorem dX2_merge_31 : decode cX2_merge 31 = .ok (.iload 4, 2) := by decide +kernel
theorem dX2_merge_33 : decode cX2_merge 33 = .ok (.invokevirtual 139, 3) := by decide +kernel
theorem dX2_merge_36 : decode cX2_merge 36 = .ok (.istore 5, 2) := by decide +kernel
theorem dX2_merge_38 : decode cX2_merge 38 = .ok (.aload_n 0, 1) := by decide +kernel
theorem dX2_merge_39 : decode cX2_merge 39 = .ok (.getfield 25, 3) := by decide +kernel
theorem dX2_merge_42 : decode cX2_merge 42 = .ok (.iload 5, 2) := by decide +kernel
theorem dX2_merge_44 : decode cX2_merge 44 = .ok (.aload_n 2, 1) := by decide +kernel
theorem dX2_merge_45 : decode cX2_merge 45 = .ok (.iload 4, 2) := by decide +kernel
theorem dX2_merge_47 : decode cX2_merge 47 = .ok (.invokevirtual 139, 3) := by decide +kernel
theorem dX2_merge_50 : decode cX2_merge 50 = .ok (.invokevirtual 143, 3) := by decide +kernel
theorem dX2_merge_53 : decode cX2_merge 53 = .ok (.istore 6, 2) := by decide +kernel
theorem dX2_merge_55 : decode cX2_merge 55 = .ok (.iload 6, 2) := by decide +kernel
theorem dX2_merge_57 : decode cX2_merge 57 = .ok (.ifCond .ne 5, 3) := by decide +kernel
theorem dX2_merge_60 : decode cX2_merge 60 = .ok (.iconst 2, 1) := by decide +kernel
theorem dX2_merge_61 : decode cX2_merge 61 = .ok (.ireturn, 1) := by decide +kernel
theorem dX2_merge_62 : decode cX2_merge 62 = .ok (.aload_n 1, 1) := by decide +kernel
theorem dX2_merge_63 : decode cX2_merge 63 = .ok (.aload_n 1, 1) := by decide +kernel
theorem dX2_merge_64 : decode cX2_merge 64 = .ok (.getfield 65, 3) := by decide +kernel
theorem dX2_merge_67 : decode cX2_merge 67 = .ok (.ifCond .ne 10, 3) := by decide +kernel
theorem dX2_merge_70 : decode cX2_merge 70 = .ok (.iload 6, 2) := by decide +kernel
theorem dX2_merge_72 : decode cX2_merge 72 = .ok (.iload 5, 2) := by decide +kernel
theorem dX2_merge_74 : decode cX2_merge 74 = .ok (.if_icmp .eq 7, 3) := by decide +kernel
theorem dX2_merge_77 : decode cX2_merge 77 = .ok (.iconst 1, 1) := by decide +kernel
theorem dX2_merge_78 : decode cX2_merge 78 = .ok (.goto 4, 3) := by decide +kernel
theorem dX2_merge_81 : decode cX2_merge 81 = .ok (.iconst 0, 1) := by decide +kernel
theorem dX2_merge_82 : decode cX2_merge 82 = .ok (.putfield 65, 3) := by decide +kernel
theorem dX2_merge_85 : decode cX2_merge 85 = .ok (.aload_n 3, 1) := by decide +kernel
theorem dX2_merge_86 : decode cX2_merge 86 = .ok (.iload 4, 2) := by decide +kernel
theorem dX2_merge_88 : decode cX2_merge 88 = .ok (.iload 6, 2) := by decide +kernel
theorem dX2_merge_90 : decode cX2_merge 90 = .ok (.invokevirtual 149, 3) := by decide +kernel
theorem dX2_merge_93 : decode cX2_merge 93 = .ok (.iinc 4 1, 3) := by decide +kernel
theorem dX2_merge_96 : decode cX2_merge 96 = .ok (.goto (-75), 3) := by decide +kernel
theorem dX2_merge_99 : decode cX2_merge 99 = .ok (.iconst 0, 1) := by decide +kernel
theorem dX2_merge_100 : decode cX2_merge 100 = .ok (.istore 4, 2) := by decide +kernel
theorem dX2_merge_102 : decode cX2_merge 102 = .ok (.iload 4, 2) := by decide +kernel
theorem dX2_merge_104 : decode cX2_merge 104 = .ok (.bipush 8, 2) := by decide +kernel
theorem dX2_merge_106 : decode cX2_merge 106 = .ok (.if_icmp .ge 65, 3) := by decide +kernel
theorem dX2_merge_109 : decode cX2_merge 109 = .ok (.aload_n 3, 1) := by decide +kernel
theorem dX2_merge_110 : decode cX2_merge 110 = .ok (.iload 4, 2) := by decide +kernel
theorem dX2_merge_112 : decode cX2_merge 112 = .ok (.invokevirtual 153, 3) := by decide +kernel
theorem dX2_merge_115 : decode cX2_merge 115 = .ok (.istore 5, 2) := by decide +kernel
theorem dX2_merge_117 : decode cX2_merge 117 = .ok (.aload_n 0, 1) := by decide +kernel
theorem dX2_merge_118 : decode cX2_merge 118 = .ok (.getfield 25, 3) := by decide +kernel
theorem dX2_merge_121 : decode cX2_merge 121 = .ok (.iload 5, 2) := by decide +kernel
theorem dX2_merge_123 : decode cX2_merge 123 = .ok (.aload_n 2, 1) := by decide +kernel
theorem dX2_merge_124 : decode cX2_merge 124 = .ok (.iload 4, 2) := by decide +kernel
theorem dX2_merge_126 : decode cX2_merge 126 = .ok (.invokevirtual 153, 3) := by decide +kernel
theorem dX2_merge_129 : decode cX2_merge 129 = .ok (.invokevirtual 143, 3) := by decide +kernel
theorem dX2_merge_132 : decode cX2_merge 132 = .ok (.istore 6, 2) := by decide +kernel
theorem dX2_merge_134 : decode cX2_merge 134 = .ok (.aload_n 1, 1) := by decide +kernel
theorem dX2_merge_135 : decode cX2_merge 135 = .ok (.aload_n 1, 1) := by decide +kernel
theorem dX2_merge_136 : decode cX2_merge 136 = .ok (.getfield 65, 3) := by decide +kernel
theorem dX2_merge_139 : decode cX2_merge 139 = .ok (.ifCond .ne 10, 3) := by decide +kernel
theorem dX2_merge_142 : decode cX2_merge 142 = .ok (.iload 6, 2) := by decide +kernel
theorem dX2_merge_144 : decode cX2_merge 144 = .ok (.iload 5, 2) := by decide +kernel
theorem dX2_merge_146 : decode cX2_merge 146 = .ok (.if_icmp .eq 7, 3) := by decide +kernel
theorem dX2_merge_149 : decode cX2_merge 149 = .ok (.iconst 1, 1) := by decide +kernel
theorem dX2_merge_150 : decode cX2_merge 150 = .ok (.goto 4, 3) := by decide +kernel
theorem dX2_merge_153 : decode cX2_merge 153 = .ok (.iconst 0, 1) := by decide +kernel
theorem dX2_merge_154 : decode cX2_merge 154 = .ok (.putfield 65, 3) := by decide +kernel
theorem dX2_merge_157 : decode cX2_merge 157 = .ok (.aload_n 3, 1) := by decide +kernel
theorem dX2_merge_158 : decode cX2_merge 158 = .ok (.iload 4, 2) := by decide +kernel
theorem dX2_merge_160 : decode cX2_merge 160 = .ok (.iload 6, 2) := by decide +kernel
theorem dX2_merge_162 : decode cX2_merge 162 = .ok (.invokevirtual 156, 3) := by decide +kernel
theorem dX2_merge_165 : decode cX2_merge 165 = .ok (.iinc 4 1, 3) := by decide +kernel
theorem dX2_merge_168 : decode cX2_merge 168 = .ok (.goto (-66), 3) := by decide +kernel
theorem dX2_merge_171 : decode cX2_merge 171 = .ok (.iconst 0, 1) := by decide +kernel
theorem dX2_merge_172 : decode cX2_merge 172 = .ok (.ireturn, 1) := by decide +kernel
theorem dX3_init_0 : decode cX3_init 0 = .ok (.aload_n 0, 1) := by decide +kernel
theorem dX3_init_1 : decode cX3_init 1 = .ok (.invokespecial 1, 3) := by decide +kernel
theorem dX3_init_4 : decode cX3_init 4 = .ok (.return_, 1) := by decide +kernel
theorem dX3_holds_0 : decode cX3_holds 0 = .ok (.iload_n 1, 1) := by decide +kernel
theorem dX3_holds_1 : decode cX3_holds 1 = .ok (.aload_n 0, 1) := by decide +kernel
theorem dX3_holds_2 : decode cX3_holds 2 = .ok (.getfield 7, 3) := by decide +kernel
theorem dX3_holds_5 : decode cX3_holds 5 = .ok (.if_icmp .lt 15, 3) := by decide +kernel
theorem dX3_holds_8 : decode cX3_holds 8 = .ok (.iload_n 1, 1) := by decide +kernel
theorem dX3_holds_9 : decode cX3_holds 9 = .ok (.aload_n 0, 1) := by decide +kernel
theorem dX3_holds_10 : decode cX3_holds 10 = .ok (.getfield 13, 3) := by decide +kernel
theorem dX3_holds_13 : decode cX3_holds 13 = .ok (.if_icmp .ge 7, 3) := by decide +kernel
theorem dX3_holds_16 : decode cX3_holds 16 = .ok (.iconst 1, 1) := by decide +kernel
theorem dX3_holds_17 : decode cX3_holds 17 = .ok (.goto 4, 3) := by decide +kernel
theorem dX3_holds_20 : decode cX3_holds 20 = .ok (.iconst 0, 1) := by decide +kernel
theorem dX3_holds_21 : decode cX3_holds 21 = .ok (.ireturn, 1) := by decide +kernel
theorem dX4_init_0 : decode cX4_init 0 = .ok (.aload_n 0, 1) := by decide +kernel
theorem dX4_init_1 : decode cX4_init 1 = .ok (.invokespecial 3, 3) := by decide +kernel
theorem dX4_init_4 : decode cX4_init 4 = .ok (.aload_n 0, 1) := by decide +kernel
theorem dX4_init_5 : decode cX4_init 5 = .ok (.new 9, 3) := by decide +kernel
theorem dX4_init_8 : decode cX4_init 8 = .ok (.dup, 1) := by decide +kernel
theorem dX4_init_9 : decode cX4_init 9 = .ok (.invokespecial 11, 3) := by decide +kernel
theorem dX4_init_12 : decode cX4_init 12 = .ok (.putfield 12, 3) := by decide +kernel
theorem dX4_init_15 : decode cX4_init 15 = .ok (.aload_n 0, 1) := by decide +kernel
theorem dX4_init_16 : decode cX4_init 16 = .ok (.new 9, 3) := by decide +kernel
theorem dX4_init_19 : decode cX4_init 19 = .ok (.dup, 1) := by decide +kernel
theorem dX4_init_20 : decode cX4_init 20 = .ok (.invokespecial 11, 3) := by decide +kernel
theorem dX4_init_23 : decode cX4_init 23 = .ok (.putfield 18, 3) := by decide +kernel
theorem dX4_init_26 : decode cX4_init 26 = .ok (.aload_n 0, 1) := by decide +kernel
theorem dX4_init_27 : decode cX4_init 27 = .ok (.iconst 0, 1) := by decide +kernel
theorem dX4_init_28 : decode cX4_init 28 = .ok (.putfield 21, 3) := by decide +kernel
theorem dX4_init_31 : decode cX4_init 31 = .ok (.aload_n 0, 1) := by decide +kernel
theorem dX4_init_32 : decode cX4_init 32 = .ok (.iconst 0, 1) := by decide +kernel
theorem dX4_init_33 : decode cX4_init 33 = .ok (.putfield 25, 3) := by decide +kernel
theorem dX4_init_36 : decode cX4_init 36 = .ok (.aload_n 0, 1) := by decide +kernel
theorem dX4_init_37 : decode cX4_init 37 = .ok (.aload_n 1, 1) := by decide +kernel
theorem dX4_init_38 : decode cX4_init 38 = .ok (.putfield 29, 3) := by decide +kernel
theorem dX4_init_41 : decode cX4_init 41 = .ok (.aload_n 0, 1) := by decide +kernel
theorem dX4_init_42 : decode cX4_init 42 = .ok (.aload_n 2, 1) := by decide +kernel
theorem dX4_init_43 : decode cX4_init 43 = .ok (.putfield 33, 3) := by decide +kernel
theorem dX4_init_46 : decode cX4_init 46 = .ok (.return_, 1) := by decide +kernel
theorem dX4_run_0 : decode cX4_run 0 = .ok (.aload_n 0, 1) := by decide +kernel
theorem dX4_run_1 : decode cX4_run 1 = .ok (.getfield 12, 3) := by decide +kernel
theorem dX4_run_4 : decode cX4_run 4 = .ok (.aload_n 1, 1) := by decide +kernel
theorem dX4_run_5 : decode cX4_run 5 = .ok (.getfield 37, 3) := by decide +kernel
theorem dX4_run_8 : decode cX4_run 8 = .ok (.invokevirtual 42, 3) := by decide +kernel
theorem dX4_run_11 : decode cX4_run 11 = .ok (.aload_n 0, 1) := by decide +kernel
theorem dX4_run_12 : decode cX4_run 12 = .ok (.iconst 1, 1) := by decide +kernel
theorem dX4_run_13 : decode cX4_run 13 = .ok (.putfield 21, 3) := by decide +kernel
theorem dX4_run_16 : decode cX4_run 16 = .ok (.iconst 0, 1) := by decide +kernel
theorem dX4_run_17 : decode cX4_run 17 = .ok (.istore_n 2, 1) := by decide +kernel
theorem dX4_run_18 : decode cX4_run 18 = .ok (.iload_n 2, 1) := by decide +kernel
theorem dX4_run_19 : decode cX4_run 19 = .ok (.aload_n 1, 1) := by decide +kernel
theorem dX4_run_20 : decode cX4_run 20 = .ok (.getfield 46, 3) := by decide +kernel
theorem dX4_run_23 : decode cX4_run 23 = .ok (.if_icmp .ge 28, 3) := by decide +kernel
theorem dX4_run_26 : decode cX4_run 26 = .ok (.aload_n 0, 1) := by decide +kernel
theorem dX4_run_27 : decode cX4_run 27 = .ok (.aload_n 0, 1) := by decide +kernel
theorem dX4_run_28 : decode cX4_run 28 = .ok (.aload_n 1, 1) := by decide +kernel
theorem dX4_run_29 : decode cX4_run 29 = .ok (.iload_n 2, 1) := by decide +kernel
theorem dX4_run_30 : decode cX4_run 30 = .ok (.invokevirtual 49, 3) := by decide +kernel
theorem dX4_run_33 : decode cX4_run 33 = .ok (.putfield 25, 3) := by decide +kernel
theorem dX4_run_36 : decode cX4_run 36 = .ok (.aload_n 0, 1) := by decide +kernel
theorem dX4_run_37 : decode cX4_run 37 = .ok (.getfield 25, 3) := by decide +kernel
theorem dX4_run_40 : decode cX4_run 40 = .ok (.ifCond .eq 5, 3) := by decide +kernel
theorem dX4_run_43 : decode cX4_run 43 = .ok (.iload_n 2, 1) := by decide +kernel
theorem dX4_run_44 : decode cX4_run 44 = .ok (.ireturn, 1) := by decide +kernel
theorem dX4_run_45 : decode cX4_run 45 = .ok (.iinc 2 1, 3) := by decide +kernel
theorem dX4_run_48 : decode cX4_run 48 = .ok (.goto (-30), 3) := by decide +kernel
theorem dX4_run_51 : decode cX4_run 51 = .ok (.aload_n 0, 1) := by decide +kernel
theorem dX4_run_52 : decode cX4_run 52 = .ok (.aload_n 0, 1) := by decide +kernel
theorem dX4_run_53 : decode cX4_run 53 = .ok (.getfield 21, 3) := by decide +kernel
theorem dX4_run_56 : decode cX4_run 56 = .ok (.ifCond .eq 7, 3) := by decide +kernel
theorem dX4_run_59 : decode cX4_run 59 = .ok (.iconst 5, 1) := by decide +kernel
theorem dX4_run_60 : decode cX4_run 60 = .ok (.goto 4, 3) := by decide +kernel
theorem dX4_run_63 : decode cX4_run 63 = .ok (.iconst 0, 1) := by decide +kernel
theorem dX4_run_64 : decode cX4_run 64 = .ok (.putfield 25, 3) := by decide +kernel
theorem dX4_run_67 : decode cX4_run 67 = .ok (.aload_n 0, 1) := by decide +kernel
theorem dX4_run_68 : decode cX4_run 68 = .ok (.getfield 21, 3) := by decide +kernel
theorem dX4_run_71 : decode cX4_run 71 = .ok (.ifCond .eq 12, 3) := by decide +kernel
theorem dX4_run_74 : decode cX4_run 74 = .ok (.aload_n 1, 1) := by decide +kernel
theorem dX4_run_75 : decode cX4_run 75 = .ok (.getfield 46, 3) := by decide +kernel
theorem dX4_run_78 : decode cX4_run 78 = .ok (.iconst 1, 1) := by decide +kernel
theorem dX4_run_79 : decode cX4_run 79 = .ok (.isub, 1) := by decide +kernel
theorem dX4_run_80 : decode cX4_run 80 = .ok (.goto 4, 3) := by decide +kernel
theorem dX4_run_83 : decode cX4_run 83 = .ok (.iconst (-1), 1) := by decide +kernel
theorem dX4_run_84 : decode cX4_run 84 = .ok (.ireturn, 1) := by decide +kernel
theorem dX4_lookAt_0 : decode cX4_lookAt 0 = .ok (.aload_n 1, 1) := by decide +kernel
theorem dX4_lookAt_1 : decode cX4_lookAt 1 = .ok (.iload_n 2, 1) := by decide +kernel
theorem dX4_lookAt_2 : decode cX4_lookAt 2 = .ok (.invokevirtual 53, 3) := by decide +kernel
theorem dX4_lookAt_5 : decode cX4_lookAt 5 = .ok (.astore_n 3, 1) := by decide +kernel
theorem dX4_lookAt_6 : decode cX4_lookAt 6 = .ok (.aload_n 3, 1) := by decide +kernel
theorem dX4_lookAt_7 : decode cX4_lookAt 7 = .ok (.ifnonnull 5, 3) := by decide +kernel
theorem dX4_lookAt_10 : decode cX4_lookAt 10 = .ok (.iconst 5, 1) := by decide +kernel
theorem dX4_lookAt_11 : decode cX4_lookAt 11 = .ok (.ireturn, 1) := by decide +kernel
theorem dX4_lookAt_12 : decode cX4_lookAt 12 = .ok (.aload_n 0, 1) := by decide +kernel
theorem dX4_lookAt_13 : decode cX4_lookAt 13 = .ok (.aload_n 3, 1) := by decide +kernel
theorem dX4_lookAt_14 : decode cX4_lookAt 14 = .ok (.invokevirtual 57, 3) := by decide +kernel
theorem dX4_lookAt_17 : decode cX4_lookAt 17 = .ok (.istore 4, 2) := by decide +kernel
theorem dX4_lookAt_19 : decode cX4_lookAt 19 = .ok (.iload 4, 2) := by decide +kernel
theorem dX4_lookAt_21 : decode cX4_lookAt 21 = .ok (.ifCond .ne 11, 3) := by decide +kernel
theorem dX4_lookAt_24 : decode cX4_lookAt 24 = .ok (.aload_n 0, 1) := by decide +kernel
theorem dX4_lookAt_25 : decode cX4_lookAt 25 = .ok (.aload_n 1, 1) := by decide +kernel
theorem dX4_lookAt_26 : decode cX4_lookAt 26 = .ok (.iload_n 2, 1) := by decide +kernel
theorem dX4_lookAt_27 : decode cX4_lookAt 27 = .ok (.invokevirtual 61, 3) := by decide +kernel
theorem dX4_lookAt_30 : decode cX4_lookAt 30 = .ok (.istore 4, 2) := by decide +kernel
theorem dX4_lookAt_32 : decode cX4_lookAt 32 = .ok (.iload 4, 2) := by decide +kernel
theorem dX4_lookAt_34 : decode cX4_lookAt 34 = .ok (.ifCond .ne 19, 3) := by decide +kernel
theorem dX4_lookAt_37 : decode cX4_lookAt 37 = .ok (.aload_n 0, 1) := by decide +kernel
theorem dX4_lookAt_38 : decode cX4_lookAt 38 = .ok (.getfield 33, 3) := by decide +kernel
theorem dX4_lookAt_41 : decode cX4_lookAt 41 = .ok (.aload_n 1, 1) := by decide +kernel
theorem dX4_lookAt_42 : decode cX4_lookAt 42 = .ok (.iload_n 2, 1) := by decide +kernel
theorem dX4_lookAt_43 : decode cX4_lookAt 43 = .ok (.aload_n 3, 1) := by decide +kernel
theorem dX4_lookAt_44 : decode cX4_lookAt 44 = .ok (.aload_n 0, 1) := by decide +kernel
theorem dX4_lookAt_45 : decode cX4_lookAt 45 = .ok (.getfield 12, 3) := by decide +kernel
theorem dX4_lookAt_48 : decode cX4_lookAt 48 = .ok (.invokevirtual 64, 3) := by decide +kernel
theorem dX4_lookAt_51 : decode cX4_lookAt 51 = .ok (.istore 4, 2) := by decide +kernel
theorem dX4_lookAt_53 : decode cX4_lookAt 53 = .ok (.iload 4, 2) := by decide +kernel
theorem dX4_lookAt_55 : decode cX4_lookAt 55 = .ok (.ifCond .ne 12, 3) := by decide +kernel
theorem dX4_lookAt_58 : decode cX4_lookAt 58 = .ok (.aload_n 0, 1) := by decide +kernel
theorem dX4_lookAt_59 : decode cX4_lookAt 59 = .ok (.aload_n 1, 1) := by decide +kernel
theorem dX4_lookAt_60 : decode cX4_lookAt 60 = .ok (.iload_n 2, 1) := by decide +kernel
theorem dX4_lookAt_61 : decode cX4_lookAt 61 = .ok (.aload_n 3, 1) := by decide +kernel
theorem dX4_lookAt_62 : decode cX4_lookAt 62 = .ok (.invokevirtual 70, 3) := by decide +kernel
theorem dX4_lookAt_65 : decode cX4_lookAt 65 = .ok (.istore 4, 2) := by decide +kernel
theorem dX4_lookAt_67 : decode cX4_lookAt 67 = .ok (.aload_n 0, 1) := by decide +kernel
theorem dX4_lookAt_68 : decode cX4_lookAt 68 = .ok (.aload_n 3, 1) := by decide +kernel
theorem dX4_lookAt_69 : decode cX4_lookAt 69 = .ok (.invokevirtual 74, 3) := by decide +kernel
theorem dX4_lookAt_72 : decode cX4_lookAt 72 = .ok (.putfield 21, 3) := by decide +kernel
theorem dX4_lookAt_75 : decode cX4_lookAt 75 = .ok (.iload 4, 2) := by decide +kernel
theorem dX4_lookAt_77 : decode cX4_lookAt 77 = .ok (.ireturn, 1) := by decide +kernel
theorem dX4_takeFrame_0 : decode cX4_takeFrame 0 = .ok (.aload_n 1, 1) := by decide +kernel
theorem dX4_takeFrame_1 : decode cX4_takeFrame 1 = .ok (.getfield 80, 3) := by decide +kernel
theorem dX4_takeFrame_4 : decode cX4_takeFrame 4 = .ok (.ifCond .ne 17, 3) := by decide +kernel
theorem dX4_takeFrame_7 : decode cX4_takeFrame 7 = .ok (.aload_n 0, 1) := by decide +kernel
theorem dX4_takeFrame_8 : decode cX4_takeFrame 8 = .ok (.getfield 21, 3) := by decide +kernel
theorem dX4_takeFrame_11 : decode cX4_takeFrame 11 = .ok (.ifCond .eq 7, 3) := by decide +kernel
theorem dX4_takeFrame_14 : decode cX4_takeFrame 14 = .ok (.iconst 0, 1) := by decide +kernel
theorem dX4_takeFrame_15 : decode cX4_takeFrame 15 = .ok (.goto 5, 3) := by decide +kernel
theorem dX4_takeFrame_18 : decode cX4_takeFrame 18 = .ok (.bipush 8, 2) := by decide +kernel
theorem dX4_takeFrame_20 : decode cX4_takeFrame 20 = .ok (.ireturn, 1) := by decide +kernel
theorem dX4_takeFrame_21 : decode cX4_takeFrame 21 = .ok (.aload_n 0, 1) := by decide +kernel
theorem dX4_takeFrame_22 : decode cX4_takeFrame 22 = .ok (.getfield 21, 3) := by decide +kernel
theorem dX4_takeFrame_25 : decode cX4_takeFrame 25 = .ok (.ifCond .eq 24, 3) := by decide +kernel
theorem dX4_takeFrame_28 : decode cX4_takeFrame 28 = .ok (.aload_n 0, 1) := by decide +kernel
theorem dX4_takeFrame_29 : decode cX4_takeFrame 29 = .ok (.getfield 29, 3) := by decide +kernel
theorem dX4_takeFrame_32 : decode cX4_takeFrame 32 = .ok (.aload_n 0, 1) := by decide +kernel
theorem dX4_takeFrame_33 : decode cX4_takeFrame 33 = .ok (.getfield 12, 3) := by decide +kernel
theorem dX4_takeFrame_36 : decode cX4_takeFrame 36 = .ok (.aload_n 1, 1) := by decide +kernel
theorem dX4_takeFrame_37 : decode cX4_takeFrame 37 = .ok (.getfield 83, 3) := by decide +kernel
theorem dX4_takeFrame_40 : decode cX4_takeFrame 40 = .ok (.invokevirtual 86, 3) := by decide +kernel
theorem dX4_takeFrame_43 : decode cX4_takeFrame 43 = .ok (.ifCond .ne 6, 3) := by decide +kernel
theorem dX4_takeFrame_46 : decode cX4_takeFrame 46 = .ok (.bipush 9, 2) := by decide +kernel
theorem dX4_takeFrame_48 : decode cX4_takeFrame 48 = .ok (.ireturn, 1) := by decide +kernel
theorem dX4_takeFrame_49 : decode cX4_takeFrame 49 = .ok (.aload_n 0, 1) := by decide +kernel
theorem dX4_takeFrame_50 : decode cX4_takeFrame 50 = .ok (.getfield 12, 3) := by decide +kernel
theorem dX4_takeFrame_53 : decode cX4_takeFrame 53 = .ok (.aload_n 1, 1) := by decide +kernel
theorem dX4_takeFrame_54 : decode cX4_takeFrame 54 = .ok (.getfield 83, 3) := by decide +kernel
theorem dX4_takeFrame_57 : decode cX4_takeFrame 57 = .ok (.invokevirtual 42, 3) := by decide +kernel
theorem dX4_takeFrame_60 : decode cX4_takeFrame 60 = .ok (.iconst 0, 1) := by decide +kernel
theorem dX4_takeFrame_61 : decode cX4_takeFrame 61 = .ok (.ireturn, 1) := by decide +kernel
theorem dX4_lookAtGuards_0 : decode cX4_lookAtGuards 0 = .ok (.iconst 0, 1) := by decide +kernel
theorem dX4_lookAtGuards_1 : decode cX4_lookAtGuards 1 = .ok (.istore_n 3, 1) := by decide +kernel
theorem dX4_lookAtGuards_2 : decode cX4_lookAtGuards 2 = .ok (.iload_n 3, 1) := by decide +kernel
theorem dX4_lookAtGuards_3 : decode cX4_lookAtGuards 3 = .ok (.aload_n 1, 1) := by decide +kernel
theorem dX4_lookAtGuards_4 : decode cX4_lookAtGuards 4 = .ok (.getfield 92, 3) := by decide +kernel
theorem dX4_lookAtGuards_7 : decode cX4_lookAtGuards 7 = .ok (.if_icmp .ge 65, 3) := by decide +kernel
theorem dX4_lookAtGuards_10 : decode cX4_lookAtGuards 10 = .ok (.aload_n 1, 1) := by decide +kernel
theorem dX4_lookAtGuards_11 : decode cX4_lookAtGuards 11 = .ok (.iload_n 3, 1) := by decide +kernel
theorem dX4_lookAtGuards_12 : decode cX4_lookAtGuards 12 = .ok (.iload_n 2, 1) := by decide +kernel
theorem dX4_lookAtGuards_13 : decode cX4_lookAtGuards 13 = .ok (.invokevirtual 95, 3) := by decide +kernel
theorem dX4_lookAtGuards_16 : decode cX4_lookAtGuards 16 = .ok (.astore 4, 2) := by decide +kernel
theorem dX4_lookAtGuards_18 : decode cX4_lookAtGuards 18 = .ok (.aload 4, 2) := by decide +kernel
theorem dX4_lookAtGuards_20 : decode cX4_lookAtGuards 20 = .ok (.ifnull 46, 3) := by decide +kernel
theorem dX4_lookAtGuards_23 : decode cX4_lookAtGuards 23 = .ok (.aload_n 0, 1) := by decide +kernel
theorem dX4_lookAtGuards_24 : decode cX4_lookAtGuards 24 = .ok (.getfield 18, 3) := by decide +kernel
theorem dX4_lookAtGuards_27 : decode cX4_lookAtGuards 27 = .ok (.aload_n 0, 1) := by decide +kernel
theorem dX4_lookAtGuards_28 : decode cX4_lookAtGuards 28 = .ok (.getfield 12, 3) := by decide +kernel
theorem dX4_lookAtGuards_31 : decode cX4_lookAtGuards 31 = .ok (.aload 4, 2) := by decide +kernel
theorem dX4_lookAtGuards_33 : decode cX4_lookAtGuards 33 = .ok (.getfield 99, 3) := by decide +kernel
theorem dX4_lookAtGuards_36 : decode cX4_lookAtGuards 36 = .ok (.invokevirtual 104, 3) := by decide +kernel
theorem dX4_lookAtGuards_39 : decode cX4_lookAtGuards 39 = .ok (.aload_n 0, 1) := by decide +kernel
theorem dX4_lookAtGuards_40 : decode cX4_lookAtGuards 40 = .ok (.aload_n 1, 1) := by decide +kernel
theorem dX4_lookAtGuards_41 : decode cX4_lookAtGuards 41 = .ok (.aload 4, 2) := by decide +kernel
theorem dX4_lookAtGuards_43 : decode cX4_lookAtGuards 43 = .ok (.getfield 108, 3) := by decide +kernel
theorem dX4_lookAtGuards_46 : decode cX4_lookAtGuards 46 = .ok (.invokevirtual 53, 3) := by decide +kernel
theorem dX4_lookAtGuards_49 : decode cX4_lookAtGuards 49 = .ok (.aload_n 0, 1) := by decide +kernel
theorem dX4_lookAtGuards_50 : decode cX4_lookAtGuards 50 = .ok (.getfield 18, 3) := by decide +kernel
theorem dX4_lookAtGuards_53 : decode cX4_lookAtGuards 53 = .ok (.invokevirtual 111, 3) := by decide +kernel
theorem dX4_lookAtGuards_56 : decode cX4_lookAtGuards 56 = .ok (.istore 5, 2) := by decide +kernel
theorem dX4_lookAtGuards_58 : decode cX4_lookAtGuards 58 = .ok (.iload 5, 2) := by decide +kernel
theorem dX4_lookAtGuards_60 : decode cX4_lookAtGuards 60 = .ok (.ifCond .eq 6, 3) := by decide +kernel
theorem dX4_lookAtGuards_63 : decode cX4_lookAtGuards 63 = .ok (.iload 5, 2) := by decide +kernel
theorem dX4_lookAtGuards_65 : decode cX4_lookAtGuards 65 = .ok (.ireturn, 1) := by decide +kernel
theorem dX4_lookAtGuards_66 : decode cX4_lookAtGuards 66 = .ok (.iinc 3 1, 3) := by decide +kernel
theorem dX4_lookAtGuards_69 : decode cX4_lookAtGuards 69 = .ok (.goto (-67), 3) := by decide +kernel
theorem dX4_lookAtGuards_72 : decode cX4_lookAtGuards 72 = .ok (.iconst 0, 1) := by decide +kernel
theorem dX4_lookAtGuards_73 : decode cX4_lookAtGuards 73 = .ok (.ireturn, 1) := by decide +kernel
theorem dX4_lookAtTargets_0 : decode cX4_lookAtTargets 0 = .ok (.aload_n 3, 1) := by decide +kernel
theorem dX4_lookAtTargets_1 : decode cX4_lookAtTargets 1 = .ok (.invokevirtual 115, 3) := by decide +kernel
theorem dX4_lookAtTargets_4 : decode cX4_lookAtTargets 4 = .ok (.istore 4, 2) := by decide +kernel
theorem dX4_lookAtTargets_6 : decode cX4_lookAtTargets 6 = .ok (.aload_n 3, 1) := by decide +kernel
theorem dX4_lookAtTargets_7 : decode cX4_lookAtTargets 7 = .ok (.invokevirtual 119, 3) := by decide +kernel
theorem dX4_lookAtTargets_10 : decode cX4_lookAtTargets 10 = .ok (.istore 5, 2) := by decide +kernel
theorem dX4_lookAtTargets_12 : decode cX4_lookAtTargets 12 = .ok (.iload 5, 2) := by decide +kernel
theorem dX4_lookAtTargets_14 : decode cX4_lookAtTargets 14 = .ok (.iload 4, 2) := by decide +kernel
theorem dX4_lookAtTargets_16 : decode cX4_lookAtTargets 16 = .ok (.if_icmp .gt 63, 3) := by decide +kernel
theorem dX4_lookAtTargets_19 : decode cX4_lookAtTargets 19 = .ok (.aload_n 1, 1) := by decide +kernel
theorem dX4_lookAtTargets_20 : decode cX4_lookAtTargets 20 = .ok (.iload 5, 2) := by decide +kernel
theorem dX4_lookAtTargets_22 : decode cX4_lookAtTargets 22 = .ok (.invokevirtual 53, 3) := by decide +kernel
theorem dX4_lookAtTargets_25 : decode cX4_lookAtTargets 25 = .ok (.astore 6, 2) := by decide +kernel
theorem dX4_lookAtTargets_27 : decode cX4_lookAtTargets 27 = .ok (.aload 6, 2) := by decide +kernel
theorem dX4_lookAtTargets_29 : decode cX4_lookAtTargets 29 = .ok (.ifnonnull 5, 3) := by decide +kernel
theorem dX4_lookAtTargets_32 : decode cX4_lookAtTargets 32 = .ok (.iconst 5, 1) := by decide +kernel
theorem dX4_lookAtTargets_33 : decode cX4_lookAtTargets 33 = .ok (.ireturn, 1) := by decide +kernel
theorem dX4_lookAtTargets_34 : decode cX4_lookAtTargets 34 = .ok (.iload 5, 2) := by decide +kernel
theorem dX4_lookAtTargets_36 : decode cX4_lookAtTargets 36 = .ok (.iload_n 2, 1) := by decide +kernel
theorem dX4_lookAtTargets_37 : decode cX4_lookAtTargets 37 = .ok (.if_icmp .gt 16, 3) := by decide +kernel
theorem dX4_lookAtTargets_40 : decode cX4_lookAtTargets 40 = .ok (.aload_n 0, 1) := by decide +kernel
theorem dX4_lookAtTargets_41 : decode cX4_lookAtTargets 41 = .ok (.getfield 12, 3) := by decide +kernel
theorem dX4_lookAtTargets_44 : decode cX4_lookAtTargets 44 = .ok (.invokevirtual 122, 3) := by decide +kernel
theorem dX4_lookAtTargets_47 : decode cX4_lookAtTargets 47 = .ok (.ifCond .eq 6, 3) := by decide +kernel
theorem dX4_lookAtTargets_50 : decode cX4_lookAtTargets 50 = .ok (.bipush 6, 2) := by decide +kernel
theorem dX4_lookAtTargets_52 : decode cX4_lookAtTargets 52 = .ok (.ireturn, 1) := by decide +kernel
theorem dX4_lookAtTargets_53 : decode cX4_lookAtTargets 53 = .ok (.aload_n 0, 1) := by decide +kernel
theorem dX4_lookAtTargets_54 : decode cX4_lookAtTargets 54 = .ok (.aload 6, 2) := by decide +kernel
theorem dX4_lookAtTargets_56 : decode cX4_lookAtTargets 56 = .ok (.aload_n 0, 1) := by decide +kernel
theorem dX4_lookAtTargets_57 : decode cX4_lookAtTargets 57 = .ok (.getfield 12, 3) := by decide +kernel
theorem dX4_lookAtTargets_60 : decode cX4_lookAtTargets 60 = .ok (.invokevirtual 111, 3) := by decide +kernel
theorem dX4_lookAtTargets_63 : decode cX4_lookAtTargets 63 = .ok (.istore 7, 2) := by decide +kernel
theorem dX4_lookAtTargets_65 : decode cX4_lookAtTargets 65 = .ok (.iload 7, 2) := by decide +kernel
theorem dX4_lookAtTargets_67 : decode cX4_lookAtTargets 67 = .ok (.ifCond .eq 6, 3) := by decide +kernel
theorem dX4_lookAtTargets_70 : decode cX4_lookAtTargets 70 = .ok (.iload 7, 2) := by decide +kernel
theorem dX4_lookAtTargets_72 : decode cX4_lookAtTargets 72 = .ok (.ireturn, 1) := by decide +kernel
theorem dX4_lookAtTargets_73 : decode cX4_lookAtTargets 73 = .ok (.iinc 5 1, 3) := by decide +kernel
theorem dX4_lookAtTargets_76 : decode cX4_lookAtTargets 76 = .ok (.goto (-64), 3) := by decide +kernel
theorem dX4_lookAtTargets_79 : decode cX4_lookAtTargets 79 = .ok (.iconst 0, 1) := by decide +kernel
theorem dX4_lookAtTargets_80 : decode cX4_lookAtTargets 80 = .ok (.ireturn, 1) := by decide +kernel
theorem dX4_meet_0 : decode cX4_meet 0 = .ok (.aload_n 1, 1) := by decide +kernel
theorem dX4_meet_1 : decode cX4_meet 1 = .ok (.ifnull 10, 3) := by decide +kernel
theorem dX4_meet_4 : decode cX4_meet 4 = .ok (.aload_n 1, 1) := by decide +kernel
theorem dX4_meet_5 : decode cX4_meet 5 = .ok (.getfield 80, 3) := by decide +kernel
theorem dX4_meet_8 : decode cX4_meet 8 = .ok (.ifCond .ne 6, 3) := by decide +kernel
theorem dX4_meet_11 : decode cX4_meet 11 = .ok (.bipush 8, 2) := by decide +kernel
theorem dX4_meet_13 : decode cX4_meet 13 = .ok (.ireturn, 1) := by decide +kernel
theorem dX4_meet_14 : decode cX4_meet 14 = .ok (.aload_n 0, 1) := by decide +kernel
theorem dX4_meet_15 : decode cX4_meet 15 = .ok (.getfield 29, 3) := by decide +kernel
theorem dX4_meet_18 : decode cX4_meet 18 = .ok (.aload_n 2, 1) := by decide +kernel
theorem dX4_meet_19 : decode cX4_meet 19 = .ok (.aload_n 1, 1) := by decide +kernel
theorem dX4_meet_20 : decode cX4_meet 20 = .ok (.getfield 83, 3) := by decide +kernel
theorem dX4_meet_23 : decode cX4_meet 23 = .ok (.invokevirtual 86, 3) := by decide +kernel
theorem dX4_meet_26 : decode cX4_meet 26 = .ok (.ifCond .eq 7, 3) := by decide +kernel
theorem dX4_meet_29 : decode cX4_meet 29 = .ok (.iconst 0, 1) := by decide +kernel
theorem dX4_meet_30 : decode cX4_meet 30 = .ok (.goto 5, 3) := by decide +kernel
theorem dX4_meet_33 : decode cX4_meet 33 = .ok (.bipush 9, 2) := by decide +kernel
theorem dX4_meet_35 : decode cX4_meet 35 = .ok (.ireturn, 1) := by decide +kernel
theorem dX5_init_0 : decode cX5_init 0 = .ok (.aload_n 0, 1) := by decide +kernel
theorem dX5_init_1 : decode cX5_init 1 = .ok (.invokespecial 3, 3) := by decide +kernel
theorem dX5_init_4 : decode cX5_init 4 = .ok (.aload_n 0, 1) := by decide +kernel
theorem dX5_init_5 : decode cX5_init 5 = .ok (.bipush 40, 2) := by decide +kernel
theorem dX5_init_7 : decode cX5_init 7 = .ok (.anewarray 9, 3) := by decide +kernel
theorem dX5_init_10 : decode cX5_init 10 = .ok (.putfield 11, 3) := by decide +kernel
theorem dX5_init_13 : decode cX5_init 13 = .ok (.aload_n 0, 1) := by decide +kernel
theorem dX5_init_14 : decode cX5_init 14 = .ok (.iconst 4, 1) := by decide +kernel
theorem dX5_init_15 : decode cX5_init 15 = .ok (.anewarray 17, 3) := by decide +kernel
theorem dX5_init_18 : decode cX5_init 18 = .ok (.putfield 19, 3) := by decide +kernel
theorem dX5_init_21 : decode cX5_init 21 = .ok (.aload_n 0, 1) := by decide +kernel
theorem dX5_init_22 : decode cX5_init 22 = .ok (.new 23, 3) := by decide +kernel
theorem dX5_init_25 : decode cX5_init 25 = .ok (.dup, 1) := by decide +kernel
theorem dX5_init_26 : decode cX5_init 26 = .ok (.invokespecial 25, 3) := by decide +kernel
theorem dX5_init_29 : decode cX5_init 29 = .ok (.putfield 26, 3) := by decide +kernel
theorem dX5_init_32 : decode cX5_init 32 = .ok (.aload_n 0, 1) := by decide +kernel
theorem dX5_init_33 : decode cX5_init 33 = .ok (.iconst 0, 1) := by decide +kernel
theorem dX5_init_34 : decode cX5_init 34 = .ok (.putfield 30, 3) := by decide +kernel
theorem dX5_init_37 : decode cX5_init 37 = .ok (.aload_n 0, 1) := by decide +kernel
theorem dX5_init_38 : decode cX5_init 38 = .ok (.iconst 0, 1) := by decide +kernel
theorem dX5_init_39 : decode cX5_init 39 = .ok (.putfield 34, 3) := by decide +kernel
theorem dX5_init_42 : decode cX5_init 42 = .ok (.aload_n 0, 1) := by decide +kernel
theorem dX5_init_43 : decode cX5_init 43 = .ok (.iconst 4, 1) := by decide +kernel
theorem dX5_init_44 : decode cX5_init 44 = .ok (.putfield 37, 3) := by decide +kernel
theorem dX5_init_47 : decode cX5_init 47 = .ok (.aload_n 0, 1) := by decide +kernel
theorem dX5_init_48 : decode cX5_init 48 = .ok (.iconst 0, 1) := by decide +kernel
theorem dX5_init_49 : decode cX5_init 49 = .ok (.putfield 40, 3) := by decide +kernel
theorem dX5_init_52 : decode cX5_init 52 = .ok (.aload_n 0, 1) := by decide +kernel
theorem dX5_init_53 : decode cX5_init 53 = .ok (.iconst 0, 1) := by decide +kernel
theorem dX5_init_54 : decode cX5_init 54 = .ok (.putfield 43, 3) := by decide +kernel
theorem dX5_init_57 : decode cX5_init 57 = .ok (.aload_n 0, 1) := by decide +kernel
theorem dX5_init_58 : decode cX5_init 58 = .ok (.iconst 0, 1) := by decide +kernel
theorem dX5_init_59 : decode cX5_init 59 = .ok (.putfield 47, 3) := by decide +kernel
theorem dX5_init_62 : decode cX5_init 62 = .ok (.aload_n 0, 1) := by decide +kernel
theorem dX5_init_63 : decode cX5_init 63 = .ok (.iconst 0, 1) := by decide +kernel
theorem dX5_init_64 : decode cX5_init 64 = .ok (.putfield 50, 3) := by decide +kernel
theorem dX5_init_67 : decode cX5_init 67 = .ok (.return_, 1) := by decide +kernel
theorem dX5_empty_0 : decode cX5_empty 0 = .ok (.aload_n 0, 1) := by decide +kernel
theorem dX5_empty_1 : decode cX5_empty 1 = .ok (.getfield 26, 3) := by decide +kernel
theorem dX5_empty_4 : decode cX5_empty 4 = .ok (.invokevirtual 53, 3) := by decide +kernel
theorem dX5_empty_7 : decode cX5_empty 7 = .ok (.aload_n 0, 1) := by decide +kernel
theorem dX5_empty_8 : decode cX5_empty 8 = .ok (.iconst 0, 1) := by decide +kernel
theorem dX5_empty_9 : decode cX5_empty 9 = .ok (.putfield 30, 3) := by decide +kernel
theorem dX5_empty_12 : decode cX5_empty 12 = .ok (.aload_n 0, 1) := by decide +kernel
theorem dX5_empty_13 : decode cX5_empty 13 = .ok (.iconst 0, 1) := by decide +kernel
theorem dX5_empty_14 : decode cX5_empty 14 = .ok (.putfield 34, 3) := by decide +kernel
theorem dX5_empty_17 : decode cX5_empty 17 = .ok (.aload_n 0, 1) := by decide +kernel
theorem dX5_empty_18 : decode cX5_empty 18 = .ok (.iload_n 1, 1) := by decide +kernel
theorem dX5_empty_19 : decode cX5_empty 19 = .ok (.putfield 37, 3) := by decide +kernel
theorem dX5_empty_22 : decode cX5_empty 22 = .ok (.aload_n 0, 1) := by decide +kernel
theorem dX5_empty_23 : decode cX5_empty 23 = .ok (.iconst 0, 1) := by decide +kernel
theorem dX5_empty_24 : decode cX5_empty 24 = .ok (.putfield 40, 3) := by decide +kernel
theorem dX5_empty_27 : decode cX5_empty 27 = .ok (.aload_n 0, 1) := by decide +kernel
theorem dX5_empty_28 : decode cX5_empty 28 = .ok (.iconst 0, 1) := by decide +kernel
theorem dX5_empty_29 : decode cX5_empty 29 = .ok (.putfield 43, 3) := by decide +kernel
theorem dX5_empty_32 : decode cX5_empty 32 = .ok (.return_, 1) := by decide +kernel
theorem dX5_addArgument_0 : decode cX5_addArgument 0 = .ok (.iload_n 1, 1) := by decide +kernel
theorem dX5_addArgument_1 : decode cX5_addArgument 1 = .ok (.iconst 2, 1) := by decide +kernel
theorem dX5_addArgument_2 : decode cX5_addArgument 2 = .ok (.if_icmp .ne 7, 3) := by decide +kernel
theorem dX5_addArgument_5 : decode cX5_addArgument 5 = .ok (.iconst 2, 1) := by decide +kernel
theorem dX5_addArgument_6 : decode cX5_addArgument 6 = .ok (.goto 4, 3) := by decide +kernel
theorem dX5_addArgument_9 : decode cX5_addArgument 9 = .ok (.iconst 1, 1) := by decide +kernel
theorem dX5_addArgument_10 : decode cX5_addArgument 10 = .ok (.istore_n 2, 1) := by decide +kernel
theorem dX5_addArgument_11 : decode cX5_addArgument 11 = .ok (.aload_n 0, 1) := by decide +kernel
theorem dX5_addArgument_12 : decode cX5_addArgument 12 = .ok (.getfield 40, 3) := by decide +kernel
theorem dX5_addArgument_15 : decode cX5_addArgument 15 = .ok (.iload_n 2, 1) := by decide +kernel
theorem dX5_addArgument_16 : decode cX5_addArgument 16 = .ok (.iadd, 1) := by decide +kernel
theorem dX5_addArgument_17 : decode cX5_addArgument 17 = .ok (.aload_n 0, 1) := by decide +kernel
theorem dX5_addArgument_18 : decode cX5_addArgument 18 = .ok (.getfield 37, 3) := by decide +kernel
theorem dX5_addArgument_21 : decode cX5_addArgument 21 = .ok (.if_icmp .le 6, 3) := by decide +kernel
theorem dX5_addArgument_24 : decode cX5_addArgument 24 = .ok (.bipush (-2), 2) := by decide +kernel
theorem dX5_addArgument_26 : decode cX5_addArgument 26 = .ok (.ireturn, 1) := by decide +kernel
theorem dX5_addArgument_27 : decode cX5_addArgument 27 = .ok (.aload_n 0, 1) := by decide +kernel
theorem dX5_addArgument_28 : decode cX5_addArgument 28 = .ok (.getfield 40, 3) := by decide +kernel
theorem dX5_addArgument_31 : decode cX5_addArgument 31 = .ok (.istore_n 3, 1) := by decide +kernel
theorem dX5_addArgument_32 : decode cX5_addArgument 32 = .ok (.aload_n 0, 1) := by decide +kernel
theorem dX5_addArgument_33 : decode cX5_addArgument 33 = .ok (.getfield 26, 3) := by decide +kernel
theorem dX5_addArgument_36 : decode cX5_addArgument 36 = .ok (.iload_n 3, 1) := by decide +kernel
theorem dX5_addArgument_37 : decode cX5_addArgument 37 = .ok (.iload_n 1, 1) := by decide +kernel
theorem dX5_addArgument_38 : decode cX5_addArgument 38 = .ok (.invokevirtual 56, 3) := by decide +kernel
theorem dX5_addArgument_41 : decode cX5_addArgument 41 = .ok (.aload_n 0, 1) := by decide +kernel
theorem dX5_addArgument_42 : decode cX5_addArgument 42 = .ok (.dup, 1) := by decide +kernel
theorem dX5_addArgument_43 : decode cX5_addArgument 43 = .ok (.getfield 40, 3) := by decide +kernel
theorem dX5_addArgument_46 : decode cX5_addArgument 46 = .ok (.iload_n 2, 1) := by decide +kernel
theorem dX5_addArgument_47 : decode cX5_addArgument 47 = .ok (.iadd, 1) := by decide +kernel
theorem dX5_addArgument_48 : decode cX5_addArgument 48 = .ok (.putfield 40, 3) := by decide +kernel
theorem dX5_addArgument_51 : decode cX5_addArgument 51 = .ok (.aload_n 0, 1) := by decide +kernel
theorem dX5_addArgument_52 : decode cX5_addArgument 52 = .ok (.iconst 0, 1) := by decide +kernel
theorem dX5_addArgument_53 : decode cX5_addArgument 53 = .ok (.putfield 43, 3) := by decide +kernel
theorem dX5_addArgument_56 : decode cX5_addArgument 56 = .ok (.iload_n 3, 1) := by decide +kernel
theorem dX5_addArgument_57 : decode cX5_addArgument 57 = .ok (.ireturn, 1) := by decide +kernel
theorem dX5_addAct_0 : decode cX5_addAct 0 = .ok (.aload_n 0, 1) := by decide +kernel
theorem dX5_addAct_1 : decode cX5_addAct 1 = .ok (.getfield 30, 3) := by decide +kernel
theorem dX5_addAct_4 : decode cX5_addAct 4 = .ok (.bipush 40, 2) := by decide +kernel
theorem dX5_addAct_6 : decode cX5_addAct 6 = .ok (.if_icmp .lt 6, 3) := by decide +kernel
theorem dX5_addAct_9 : decode cX5_addAct 9 = .ok (.bipush (-2), 2) := by decide +kernel
theorem dX5_addAct_11 : decode cX5_addAct 11 = .ok (.ireturn, 1) := by decide +kernel
theorem dX5_addAct_12 : decode cX5_addAct 12 = .ok (.aload_n 0, 1) := by decide +kernel
theorem dX5_addAct_13 : decode cX5_addAct 13 = .ok (.getfield 11, 3) := by decide +kernel
theorem dX5_addAct_16 : decode cX5_addAct 16 = .ok (.aload_n 0, 1) := by decide +kernel
theorem dX5_addAct_17 : decode cX5_addAct 17 = .ok (.getfield 30, 3) := by decide +kernel
theorem dX5_addAct_20 : decode cX5_addAct 20 = .ok (.aaload, 1) := by decide +kernel
theorem dX5_addAct_21 : decode cX5_addAct 21 = .ok (.astore 4, 2) := by decide +kernel
theorem dX5_addAct_23 : decode cX5_addAct 23 = .ok (.aload 4, 2) := by decide +kernel
theorem dX5_addAct_25 : decode cX5_addAct 25 = .ok (.ifnonnull 23, 3) := by decide +kernel
theorem dX5_addAct_28 : decode cX5_addAct 28 = .ok (.new 9, 3) := by decide +kernel
theorem dX5_addAct_31 : decode cX5_addAct 31 = .ok (.dup, 1) := by decide +kernel
theorem dX5_addAct_32 : decode cX5_addAct 32 = .ok (.invokespecial 60, 3) := by decide +kernel
theorem dX5_addAct_35 : decode cX5_addAct 35 = .ok (.astore 4, 2) := by decide +kernel
theorem dX5_addAct_37 : decode cX5_addAct 37 = .ok (.aload_n 0, 1) := by decide +kernel
theorem dX5_addAct_38 : decode cX5_addAct 38 = .ok (.getfield 11, 3) := by decide +kernel
theorem dX5_addAct_41 : decode cX5_addAct 41 = .ok (.aload_n 0, 1) := by decide +kernel
theorem dX5_addAct_42 : decode cX5_addAct 42 = .ok (.getfield 30, 3) := by decide +kernel
theorem dX5_addAct_45 : decode cX5_addAct 45 = .ok (.aload 4, 2) := by decide +kernel
theorem dX5_addAct_47 : decode cX5_addAct 47 = .ok (.aastore, 1) := by decide +kernel
theorem dX5_addAct_48 : decode cX5_addAct 48 = .ok (.aload 4, 2) := by decide +kernel
theorem dX5_addAct_50 : decode cX5_addAct 50 = .ok (.iload_n 1, 1) := by decide +kernel
theorem dX5_addAct_51 : decode cX5_addAct 51 = .ok (.iload_n 2, 1) := by decide +kernel
theorem dX5_addAct_52 : decode cX5_addAct 52 = .ok (.iload_n 3, 1) := by decide +kernel
theorem dX5_addAct_53 : decode cX5_addAct 53 = .ok (.invokevirtual 61, 3) := by decide +kernel
theorem dX5_addAct_56 : decode cX5_addAct 56 = .ok (.aload_n 0, 1) := by decide +kernel
theorem dX5_addAct_57 : decode cX5_addAct 57 = .ok (.dup, 1) := by decide +kernel
theorem dX5_addAct_58 : decode cX5_addAct 58 = .ok (.getfield 30, 3) := by decide +kernel
theorem dX5_addAct_61 : decode cX5_addAct 61 = .ok (.iconst 1, 1) := by decide +kernel
theorem dX5_addAct_62 : decode cX5_addAct 62 = .ok (.iadd, 1) := by decide +kernel
theorem dX5_addAct_63 : decode cX5_addAct 63 = .ok (.putfield 30, 3) := by decide +kernel
theorem dX5_addAct_66 : decode cX5_addAct 66 = .ok (.aload_n 0, 1) := by decide +kernel
theorem dX5_addAct_67 : decode cX5_addAct 67 = .ok (.iconst 0, 1) := by decide +kernel
theorem dX5_addAct_68 : decode cX5_addAct 68 = .ok (.putfield 43, 3) := by decide +kernel
theorem dX5_addAct_71 : decode cX5_addAct 71 = .ok (.aload_n 0, 1) := by decide +kernel
theorem dX5_addAct_72 : decode cX5_addAct 72 = .ok (.getfield 30, 3) := by decide +kernel
theorem dX5_addAct_75 : decode cX5_addAct 75 = .ok (.iconst 1, 1) := by decide +kernel
theorem dX5_addAct_76 : decode cX5_addAct 76 = .ok (.isub, 1) := by decide +kernel
theorem dX5_addAct_77 : decode cX5_addAct 77 = .ok (.ireturn, 1) := by decide +kernel
theorem dX5_addGuard_0 : decode cX5_addGuard 0 = .ok (.aload_n 0, 1) := by decide +kernel
theorem dX5_addGuard_1 : decode cX5_addGuard 1 = .ok (.getfield 34, 3) := by decide +kernel
theorem dX5_addGuard_4 : decode cX5_addGuard 4 = .ok (.iconst 4, 1) := by decide +kernel
theorem dX5_addGuard_5 : decode cX5_addGuard 5 = .ok (.if_icmp .lt 6, 3) := by decide +kernel
theorem dX5_addGuard_8 : decode cX5_addGuard 8 = .ok (.bipush (-2), 2) := by decide +kernel
theorem dX5_addGuard_10 : decode cX5_addGuard 10 = .ok (.ireturn, 1) := by decide +kernel
theorem dX5_addGuard_11 : decode cX5_addGuard 11 = .ok (.aload_n 0, 1) := by decide +kernel
theorem dX5_addGuard_12 : decode cX5_addGuard 12 = .ok (.getfield 19, 3) := by decide +kernel
theorem dX5_addGuard_15 : decode cX5_addGuard 15 = .ok (.aload_n 0, 1) := by decide +kernel
theorem dX5_addGuard_16 : decode cX5_addGuard 16 = .ok (.getfield 34, 3) := by decide +kernel
theorem dX5_addGuard_19 : decode cX5_addGuard 19 = .ok (.aaload, 1) := by decide +kernel
theorem dX5_addGuard_20 : decode cX5_addGuard 20 = .ok (.astore 5, 2) := by decide +kernel
theorem dX5_addGuard_22 : decode cX5_addGuard 22 = .ok (.aload 5, 2) := by decide +kernel
theorem dX5_addGuard_24 : decode cX5_addGuard 24 = .ok (.ifnonnull 23, 3) := by decide +kernel
theorem dX5_addGuard_27 : decode cX5_addGuard 27 = .ok (.new 17, 3) := by decide +kernel
theorem dX5_addGuard_30 : decode cX5_addGuard 30 = .ok (.dup, 1) := by decide +kernel
theorem dX5_addGuard_31 : decode cX5_addGuard 31 = .ok (.invokespecial 65, 3) := by decide +kernel
theorem dX5_addGuard_34 : decode cX5_addGuard 34 = .ok (.astore 5, 2) := by decide +kernel
theorem dX5_addGuard_36 : decode cX5_addGuard 36 = .ok (.aload_n 0, 1) := by decide +kernel
theorem dX5_addGuard_37 : decode cX5_addGuard 37 = .ok (.getfield 19, 3) := by decide +kernel
theorem dX5_addGuard_40 : decode cX5_addGuard 40 = .ok (.aload_n 0, 1) := by decide +kernel
theorem dX5_addGuard_41 : decode cX5_addGuard 41 = .ok (.getfield 34, 3) := by decide +kernel
theorem dX5_addGuard_44 : decode cX5_addGuard 44 = .ok (.aload 5, 2) := by decide +kernel
theorem dX5_addGuard_46 : decode cX5_addGuard 46 = .ok (.aastore, 1) := by decide +kernel
theorem dX5_addGuard_47 : decode cX5_addGuard 47 = .ok (.aload 5, 2) := by decide +kernel
theorem dX5_addGuard_49 : decode cX5_addGuard 49 = .ok (.iload_n 1, 1) := by decide +kernel
theorem dX5_addGuard_50 : decode cX5_addGuard 50 = .ok (.putfield 66, 3) := by decide +kernel
theorem dX5_addGuard_53 : decode cX5_addGuard 53 = .ok (.aload 5, 2) := by decide +kernel
theorem dX5_addGuard_55 : decode cX5_addGuard 55 = .ok (.iload_n 2, 1) := by decide +kernel
theorem dX5_addGuard_56 : decode cX5_addGuard 56 = .ok (.putfield 69, 3) := by decide +kernel
theorem dX5_addGuard_59 : decode cX5_addGuard 59 = .ok (.aload 5, 2) := by decide +kernel
theorem dX5_addGuard_61 : decode cX5_addGuard 61 = .ok (.iload_n 3, 1) := by decide +kernel
theorem dX5_addGuard_62 : decode cX5_addGuard 62 = .ok (.putfield 72, 3) := by decide +kernel
theorem dX5_addGuard_65 : decode cX5_addGuard 65 = .ok (.aload 5, 2) := by decide +kernel
theorem dX5_addGuard_67 : decode cX5_addGuard 67 = .ok (.iload 4, 2) := by decide +kernel
theorem dX5_addGuard_69 : decode cX5_addGuard 69 = .ok (.putfield 75, 3) := by decide +kernel
theorem dX5_addGuard_72 : decode cX5_addGuard 72 = .ok (.aload_n 0, 1) := by decide +kernel
theorem dX5_addGuard_73 : decode cX5_addGuard 73 = .ok (.dup, 1) := by decide +kernel
theorem dX5_addGuard_74 : decode cX5_addGuard 74 = .ok (.getfield 34, 3) := by decide +kernel
theorem dX5_addGuard_77 : decode cX5_addGuard 77 = .ok (.iconst 1, 1) := by decide +kernel
theorem dX5_addGuard_78 : decode cX5_addGuard 78 = .ok (.iadd, 1) := by decide +kernel
theorem dX5_addGuard_79 : decode cX5_addGuard 79 = .ok (.putfield 34, 3) := by decide +kernel
theorem dX5_addGuard_82 : decode cX5_addGuard 82 = .ok (.aload_n 0, 1) := by decide +kernel
theorem dX5_addGuard_83 : decode cX5_addGuard 83 = .ok (.iconst 0, 1) := by decide +kernel
theorem dX5_addGuard_84 : decode cX5_addGuard 84 = .ok (.putfield 43, 3) := by decide +kernel
theorem dX5_addGuard_87 : decode cX5_addGuard 87 = .ok (.aload_n 0, 1) := by decide +kernel
theorem dX5_addGuard_88 : decode cX5_addGuard 88 = .ok (.getfield 34, 3) := by decide +kernel
theorem dX5_addGuard_91 : decode cX5_addGuard 91 = .ok (.iconst 1, 1) := by decide +kernel
theorem dX5_addGuard_92 : decode cX5_addGuard 92 = .ok (.isub, 1) := by decide +kernel
theorem dX5_addGuard_93 : decode cX5_addGuard 93 = .ok (.ireturn, 1) := by decide +kernel
theorem dX5_actAt_0 : decode cX5_actAt 0 = .ok (.iload_n 1, 1) := by decide +kernel
theorem dX5_actAt_1 : decode cX5_actAt 1 = .ok (.ifCond .lt 20, 3) := by decide +kernel
theorem dX5_actAt_4 : decode cX5_actAt 4 = .ok (.iload_n 1, 1) := by decide +kernel
theorem dX5_actAt_5 : decode cX5_actAt 5 = .ok (.aload_n 0, 1) := by decide +kernel
theorem dX5_actAt_6 : decode cX5_actAt 6 = .ok (.getfield 30, 3) := by decide +kernel
theorem dX5_actAt_9 : decode cX5_actAt 9 = .ok (.if_icmp .ge 12, 3) := by decide +kernel
theorem dX5_actAt_12 : decode cX5_actAt 12 = .ok (.aload_n 0, 1) := by decide +kernel
theorem dX5_actAt_13 : decode cX5_actAt 13 = .ok (.getfield 11, 3) := by decide +kernel
theorem dX5_actAt_16 : decode cX5_actAt 16 = .ok (.iload_n 1, 1) := by decide +kernel
theorem dX5_actAt_17 : decode cX5_actAt 17 = .ok (.aaload, 1) := by decide +kernel
theorem dX5_actAt_18 : decode cX5_actAt 18 = .ok (.goto 4, 3) := by decide +kernel
theorem dX5_actAt_21 : decode cX5_actAt 21 = .ok (.aconst_null, 1) := by decide +kernel
theorem dX5_actAt_22 : decode cX5_actAt 22 = .ok (.areturn, 1) := by decide +kernel
theorem dX5_guardOver_0 : decode cX5_guardOver 0 = .ok (.iload_n 1, 1) := by decide +kernel
theorem dX5_guardOver_1 : decode cX5_guardOver 1 = .ok (.ifCond .lt 20, 3) := by decide +kernel
theorem dX5_guardOver_4 : decode cX5_guardOver 4 = .ok (.iload_n 1, 1) := by decide +kernel
theorem dX5_guardOver_5 : decode cX5_guardOver 5 = .ok (.aload_n 0, 1) := by decide +kernel
theorem dX5_guardOver_6 : decode cX5_guardOver 6 = .ok (.getfield 34, 3) := by decide +kernel
theorem dX5_guardOver_9 : decode cX5_guardOver 9 = .ok (.if_icmp .ge 12, 3) := by decide +kernel
theorem dX5_guardOver_12 : decode cX5_guardOver 12 = .ok (.aload_n 0, 1) := by decide +kernel
theorem dX5_guardOver_13 : decode cX5_guardOver 13 = .ok (.getfield 19, 3) := by decide +kernel
theorem dX5_guardOver_16 : decode cX5_guardOver 16 = .ok (.iload_n 1, 1) := by decide +kernel
theorem dX5_guardOver_17 : decode cX5_guardOver 17 = .ok (.aaload, 1) := by decide +kernel
theorem dX5_guardOver_18 : decode cX5_guardOver 18 = .ok (.goto 4, 3) := by decide +kernel
theorem dX5_guardOver_21 : decode cX5_guardOver 21 = .ok (.aconst_null, 1) := by decide +kernel
theorem dX5_guardOver_22 : decode cX5_guardOver 22 = .ok (.astore_n 3, 1) := by decide +kernel
theorem dX5_guardOver_23 : decode cX5_guardOver 23 = .ok (.aload_n 3, 1) := by decide +kernel
theorem dX5_guardOver_24 : decode cX5_guardOver 24 = .ok (.ifnull 15, 3) := by decide +kernel
theorem dX5_guardOver_27 : decode cX5_guardOver 27 = .ok (.aload_n 3, 1) := by decide +kernel
theorem dX5_guardOver_28 : decode cX5_guardOver 28 = .ok (.iload_n 2, 1) := by decide +kernel
theorem dX5_guardOver_29 : decode cX5_guardOver 29 = .ok (.invokevirtual 78, 3) := by decide +kernel
theorem dX5_guardOver_32 : decode cX5_guardOver 32 = .ok (.ifCond .eq 7, 3) := by decide +kernel
theorem dX5_guardOver_35 : decode cX5_guardOver 35 = .ok (.aload_n 3, 1) := by decide +kernel
theorem dX5_guardOver_36 : decode cX5_guardOver 36 = .ok (.goto 4, 3) := by decide +kernel
theorem dX5_guardOver_39 : decode cX5_guardOver 39 = .ok (.aconst_null, 1) := by decide +kernel
theorem dX5_guardOver_40 : decode cX5_guardOver 40 = .ok (.areturn, 1) := by decide +kernel
theorem dX5_hasPlace_0 : decode cX5_hasPlace 0 = .ok (.iload_n 1, 1) := by decide +kernel
theorem dX5_hasPlace_1 : decode cX5_hasPlace 1 = .ok (.ifCond .lt 15, 3) := by decide +kernel
theorem dX5_hasPlace_4 : decode cX5_hasPlace 4 = .ok (.iload_n 1, 1) := by decide +kernel
theorem dX5_hasPlace_5 : decode cX5_hasPlace 5 = .ok (.aload_n 0, 1) := by decide +kernel
theorem dX5_hasPlace_6 : decode cX5_hasPlace 6 = .ok (.getfield 37, 3) := by decide +kernel
theorem dX5_hasPlace_9 : decode cX5_hasPlace 9 = .ok (.if_icmp .ge 7, 3) := by decide +kernel
theorem dX5_hasPlace_12 : decode cX5_hasPlace 12 = .ok (.iconst 1, 1) := by decide +kernel
theorem dX5_hasPlace_13 : decode cX5_hasPlace 13 = .ok (.goto 4, 3) := by decide +kernel
theorem dX5_hasPlace_16 : decode cX5_hasPlace 16 = .ok (.iconst 0, 1) := by decide +kernel
theorem dX5_hasPlace_17 : decode cX5_hasPlace 17 = .ok (.ireturn, 1) := by decide +kernel
theorem dX5_isUnmadeOf_0 : decode cX5_isUnmadeOf 0 = .ok (.aload_n 0, 1) := by decide +kernel
theorem dX5_isUnmadeOf_1 : decode cX5_isUnmadeOf 1 = .ok (.iload_n 1, 1) := by decide +kernel
theorem dX5_isUnmadeOf_2 : decode cX5_isUnmadeOf 2 = .ok (.bipush 100, 2) := by decide +kernel
theorem dX5_isUnmadeOf_4 : decode cX5_isUnmadeOf 4 = .ok (.isub, 1) := by decide +kernel
theorem dX5_isUnmadeOf_5 : decode cX5_isUnmadeOf 5 = .ok (.invokevirtual 82, 3) := by decide +kernel
theorem dX5_isUnmadeOf_8 : decode cX5_isUnmadeOf 8 = .ok (.astore_n 3, 1) := by decide +kernel
theorem dX5_isUnmadeOf_9 : decode cX5_isUnmadeOf 9 = .ok (.aload_n 3, 1) := by decide +kernel
theorem dX5_isUnmadeOf_10 : decode cX5_isUnmadeOf 10 = .ok (.ifnull 24, 3) := by decide +kernel
theorem dX5_isUnmadeOf_13 : decode cX5_isUnmadeOf 13 = .ok (.aload_n 3, 1) := by decide +kernel
theorem dX5_isUnmadeOf_14 : decode cX5_isUnmadeOf 14 = .ok (.getfield 86, 3) := by decide +kernel
theorem dX5_isUnmadeOf_17 : decode cX5_isUnmadeOf 17 = .ok (.bipush 9, 2) := by decide +kernel
theorem dX5_isUnmadeOf_19 : decode cX5_isUnmadeOf 19 = .ok (.if_icmp .ne 15, 3) := by decide +kernel
theorem dX5_isUnmadeOf_22 : decode cX5_isUnmadeOf 22 = .ok (.aload_n 3, 1) := by decide +kernel
theorem dX5_isUnmadeOf_23 : decode cX5_isUnmadeOf 23 = .ok (.getfield 89, 3) := by decide +kernel
theorem dX5_isUnmadeOf_26 : decode cX5_isUnmadeOf 26 = .ok (.iload_n 2, 1) := by decide +kernel
theorem dX5_isUnmadeOf_27 : decode cX5_isUnmadeOf 27 = .ok (.if_icmp .ne 7, 3) := by decide +kernel
theorem dX5_isUnmadeOf_30 : decode cX5_isUnmadeOf 30 = .ok (.iconst 1, 1) := by decide +kernel
theorem dX5_isUnmadeOf_31 : decode cX5_isUnmadeOf 31 = .ok (.goto 4, 3) := by decide +kernel
theorem dX5_isUnmadeOf_34 : decode cX5_isUnmadeOf 34 = .ok (.iconst 0, 1) := by decide +kernel
theorem dX5_isUnmadeOf_35 : decode cX5_isUnmadeOf 35 = .ok (.ireturn, 1) := by decide +kernel
theorem dX5_forgetComputed_0 : decode cX5_forgetComputed 0 = .ok (.aload_n 0, 1) := by decide +kernel
theorem dX5_forgetComputed_1 : decode cX5_forgetComputed 1 = .ok (.iconst 0, 1) := by decide +kernel
theorem dX5_forgetComputed_2 : decode cX5_forgetComputed 2 = .ok (.putfield 43, 3) := by decide +kernel
theorem dX5_forgetComputed_5 : decode cX5_forgetComputed 5 = .ok (.aload_n 0, 1) := by decide +kernel
theorem dX5_forgetComputed_6 : decode cX5_forgetComputed 6 = .ok (.iconst 0, 1) := by decide +kernel
theorem dX5_forgetComputed_7 : decode cX5_forgetComputed 7 = .ok (.putfield 47, 3) := by decide +kernel
theorem dX5_forgetComputed_10 : decode cX5_forgetComputed 10 = .ok (.aload_n 0, 1) := by decide +kernel
theorem dX5_forgetComputed_11 : decode cX5_forgetComputed 11 = .ok (.aload_n 0, 1) := by decide +kernel
theorem dX5_forgetComputed_12 : decode cX5_forgetComputed 12 = .ok (.getfield 40, 3) := by decide +kernel
theorem dX5_forgetComputed_15 : decode cX5_forgetComputed 15 = .ok (.putfield 50, 3) := by decide +kernel
theorem dX5_forgetComputed_18 : decode cX5_forgetComputed 18 = .ok (.iconst 0, 1) := by decide +kernel
theorem dX5_forgetComputed_19 : decode cX5_forgetComputed 19 = .ok (.istore_n 1, 1) := by decide +kernel
theorem dX5_forgetComputed_20 : decode cX5_forgetComputed 20 = .ok (.iload_n 1, 1) := by decide +kernel
theorem dX5_forgetComputed_21 : decode cX5_forgetComputed 21 = .ok (.aload_n 0, 1) := by decide +kernel
theorem dX5_forgetComputed_22 : decode cX5_forgetComputed 22 = .ok (.getfield 30, 3) := by decide +kernel
theorem dX5_forgetComputed_25 : decode cX5_forgetComputed 25 = .ok (.if_icmp .ge 23, 3) := by decide +kernel
theorem dX5_forgetComputed_28 : decode cX5_forgetComputed 28 = .ok (.aload_n 0, 1) := by decide +kernel
theorem dX5_forgetComputed_29 : decode cX5_forgetComputed 29 = .ok (.iload_n 1, 1) := by decide +kernel
theorem dX5_forgetComputed_30 : decode cX5_forgetComputed 30 = .ok (.invokevirtual 82, 3) := by decide +kernel
theorem dX5_forgetComputed_33 : decode cX5_forgetComputed 33 = .ok (.astore_n 2, 1) := by decide +kernel
theorem dX5_forgetComputed_34 : decode cX5_forgetComputed 34 = .ok (.aload_n 2, 1) := by decide +kernel
theorem dX5_forgetComputed_35 : decode cX5_forgetComputed 35 = .ok (.ifnull 7, 3) := by decide +kernel
theorem dX5_forgetComputed_38 : decode cX5_forgetComputed 38 = .ok (.aload_n 2, 1) := by decide +kernel
theorem dX5_forgetComputed_39 : decode cX5_forgetComputed 39 = .ok (.invokevirtual 92, 3) := by decide +kernel
theorem dX5_forgetComputed_42 : decode cX5_forgetComputed 42 = .ok (.iinc 1 1, 3) := by decide +kernel
theorem dX5_forgetComputed_45 : decode cX5_forgetComputed 45 = .ok (.goto (-25), 3) := by decide +kernel
theorem dX5_forgetComputed_48 : decode cX5_forgetComputed 48 = .ok (.return_, 1) := by decide +kernel
theorem dX5_leastDue_0 : decode cX5_leastDue 0 = .ok (.iconst 0, 1) := by decide +kernel
theorem dX5_leastDue_1 : decode cX5_leastDue 1 = .ok (.istore_n 1, 1) := by decide +kernel
theorem dX5_leastDue_2 : decode cX5_leastDue 2 = .ok (.iload_n 1, 1) := by decide +kernel
theorem dX5_leastDue_3 : decode cX5_leastDue 3 = .ok (.aload_n 0, 1) := by decide +kernel
theorem dX5_leastDue_4 : decode cX5_leastDue 4 = .ok (.getfield 30, 3) := by decide +kernel
theorem dX5_leastDue_7 : decode cX5_leastDue 7 = .ok (.if_icmp .ge 28, 3) := by decide +kernel
theorem dX5_leastDue_10 : decode cX5_leastDue 10 = .ok (.aload_n 0, 1) := by decide +kernel
theorem dX5_leastDue_11 : decode cX5_leastDue 11 = .ok (.iload_n 1, 1) := by decide +kernel
theorem dX5_leastDue_12 : decode cX5_leastDue 12 = .ok (.invokevirtual 82, 3) := by decide +kernel
theorem dX5_leastDue_15 : decode cX5_leastDue 15 = .ok (.astore_n 2, 1) := by decide +kernel
theorem dX5_leastDue_16 : decode cX5_leastDue 16 = .ok (.aload_n 2, 1) := by decide +kernel
theorem dX5_leastDue_17 : decode cX5_leastDue 17 = .ok (.ifnull 12, 3) := by decide +kernel
theorem dX5_leastDue_20 : decode cX5_leastDue 20 = .ok (.aload_n 2, 1) := by decide +kernel
theorem dX5_leastDue_21 : decode cX5_leastDue 21 = .ok (.getfield 95, 3) := by decide +kernel
theorem dX5_leastDue_24 : decode cX5_leastDue 24 = .ok (.ifCond .eq 5, 3) := by decide +kernel
theorem dX5_leastDue_27 : decode cX5_leastDue 27 = .ok (.iload_n 1, 1) := by decide +kernel
theorem dX5_leastDue_28 : decode cX5_leastDue 28 = .ok (.ireturn, 1) := by decide +kernel
theorem dX5_leastDue_29 : decode cX5_leastDue 29 = .ok (.iinc 1 1, 3) := by decide +kernel
theorem dX5_leastDue_32 : decode cX5_leastDue 32 = .ok (.goto (-30), 3) := by decide +kernel
theorem dX5_leastDue_35 : decode cX5_leastDue 35 = .ok (.iconst (-1), 1) := by decide +kernel
theorem dX5_leastDue_36 : decode cX5_leastDue 36 = .ok (.ireturn, 1) := by decide +kernel
theorem dX5_noteStack_0 : decode cX5_noteStack 0 = .ok (.aload_n 0, 1) := by decide +kernel
theorem dX5_noteStack_1 : decode cX5_noteStack 1 = .ok (.aload_n 0, 1) := by decide +kernel
theorem dX5_noteStack_2 : decode cX5_noteStack 2 = .ok (.getfield 47, 3) := by decide +kernel
theorem dX5_noteStack_5 : decode cX5_noteStack 5 = .ok (.aload_n 1, 1) := by decide +kernel
theorem dX5_noteStack_6 : decode cX5_noteStack 6 = .ok (.invokevirtual 98, 3) := by decide +kernel
theorem dX5_noteStack_9 : decode cX5_noteStack 9 = .ok (.invokestatic 102, 3) := by decide +kernel
theorem dX5_noteStack_12 : decode cX5_noteStack 12 = .ok (.putfield 47, 3) := by decide +kernel
theorem dX5_noteStack_15 : decode cX5_noteStack 15 = .ok (.return_, 1) := by decide +kernel
theorem dX5_notePlaces_0 : decode cX5_notePlaces 0 = .ok (.aload_n 1, 1) := by decide +kernel
theorem dX5_notePlaces_1 : decode cX5_notePlaces 1 = .ok (.invokevirtual 108, 3) := by decide +kernel
theorem dX5_notePlaces_4 : decode cX5_notePlaces 4 = .ok (.ifCond .eq 40, 3) := by decide +kernel
theorem dX5_notePlaces_7 : decode cX5_notePlaces 7 = .ok (.aload_n 2, 1) := by decide +kernel
theorem dX5_notePlaces_8 : decode cX5_notePlaces 8 = .ok (.aload_n 1, 1) := by decide +kernel
theorem dX5_notePlaces_9 : decode cX5_notePlaces 9 = .ok (.getfield 89, 3) := by decide +kernel
theorem dX5_notePlaces_12 : decode cX5_notePlaces 12 = .ok (.invokevirtual 112, 3) := by decide +kernel
theorem dX5_notePlaces_15 : decode cX5_notePlaces 15 = .ok (.iconst 2, 1) := by decide +kernel
theorem dX5_notePlaces_16 : decode cX5_notePlaces 16 = .ok (.if_icmp .ne 7, 3) := by decide +kernel
theorem dX5_notePlaces_19 : decode cX5_notePlaces 19 = .ok (.iconst 1, 1) := by decide +kernel
theorem dX5_notePlaces_20 : decode cX5_notePlaces 20 = .ok (.goto 4, 3) := by decide +kernel
theorem dX5_notePlaces_23 : decode cX5_notePlaces 23 = .ok (.iconst 0, 1) := by decide +kernel
theorem dX5_notePlaces_24 : decode cX5_notePlaces 24 = .ok (.istore_n 3, 1) := by decide +kernel
theorem dX5_notePlaces_25 : decode cX5_notePlaces 25 = .ok (.aload_n 0, 1) := by decide +kernel
theorem dX5_notePlaces_26 : decode cX5_notePlaces 26 = .ok (.aload_n 0, 1) := by decide +kernel
theorem dX5_notePlaces_27 : decode cX5_notePlaces 27 = .ok (.getfield 50, 3) := by decide +kernel
theorem dX5_notePlaces_30 : decode cX5_notePlaces 30 = .ok (.aload_n 1, 1) := by decide +kernel
theorem dX5_notePlaces_31 : decode cX5_notePlaces 31 = .ok (.getfield 89, 3) := by decide +kernel
theorem dX5_notePlaces_34 : decode cX5_notePlaces 34 = .ok (.iconst 1, 1) := by decide +kernel
theorem dX5_notePlaces_35 : decode cX5_notePlaces 35 = .ok (.iadd, 1) := by decide +kernel
theorem dX5_notePlaces_36 : decode cX5_notePlaces 36 = .ok (.iload_n 3, 1) := by decide +kernel
theorem dX5_notePlaces_37 : decode cX5_notePlaces 37 = .ok (.iadd, 1) := by decide +kernel
theorem dX5_notePlaces_38 : decode cX5_notePlaces 38 = .ok (.invokestatic 102, 3) := by decide +kernel
theorem dX5_notePlaces_41 : decode cX5_notePlaces 41 = .ok (.putfield 50, 3) := by decide +kernel
theorem dX5_notePlaces_44 : decode cX5_notePlaces 44 = .ok (.return_, 1) := by decide +kernel
theorem dX5_leads_0 : decode cX5_leads 0 = .ok (.aload_n 0, 1) := by decide +kernel
theorem dX5_leads_1 : decode cX5_leads 1 = .ok (.iload_n 1, 1) := by decide +kernel
theorem dX5_leads_2 : decode cX5_leads 2 = .ok (.invokevirtual 82, 3) := by decide +kernel
theorem dX5_leads_5 : decode cX5_leads 5 = .ok (.astore_n 3, 1) := by decide +kernel
theorem dX5_leads_6 : decode cX5_leads 6 = .ok (.aload_n 3, 1) := by decide +kernel
theorem dX5_leads_7 : decode cX5_leads 7 = .ok (.ifnull 10, 3) := by decide +kernel
theorem dX5_leads_10 : decode cX5_leads 10 = .ok (.aload_n 3, 1) := by decide +kernel
theorem dX5_leads_11 : decode cX5_leads 11 = .ok (.getfield 116, 3) := by decide +kernel
theorem dX5_leads_14 : decode cX5_leads 14 = .ok (.ifCond .ne 5, 3) := by decide +kernel
theorem dX5_leads_17 : decode cX5_leads 17 = .ok (.iconst 0, 1) := by decide +kernel
theorem dX5_leads_18 : decode cX5_leads 18 = .ok (.ireturn, 1) := by decide +kernel
theorem dX5_leads_19 : decode cX5_leads 19 = .ok (.aload_n 3, 1) := by decide +kernel
theorem dX5_leads_20 : decode cX5_leads 20 = .ok (.iload_n 2, 1) := by decide +kernel
theorem dX5_leads_21 : decode cX5_leads 21 = .ok (.invokevirtual 119, 3) := by decide +kernel
theorem dX5_leads_24 : decode cX5_leads 24 = .ok (.ifCond .eq 5, 3) := by decide +kernel
theorem dX5_leads_27 : decode cX5_leads 27 = .ok (.iconst 1, 1) := by decide +kernel
theorem dX5_leads_28 : decode cX5_leads 28 = .ok (.ireturn, 1) := by decide +kernel
theorem dX5_leads_29 : decode cX5_leads 29 = .ok (.iconst 0, 1) := by decide +kernel
theorem dX5_leads_30 : decode cX5_leads 30 = .ok (.istore 4, 2) := by decide +kernel
theorem dX5_leads_32 : decode cX5_leads 32 = .ok (.iload 4, 2) := by decide +kernel
theorem dX5_leads_34 : decode cX5_leads 34 = .ok (.aload_n 0, 1) := by decide +kernel
theorem dX5_leads_35 : decode cX5_leads 35 = .ok (.getfield 34, 3) := by decide +kernel
theorem dX5_leads_38 : decode cX5_leads 38 = .ok (.if_icmp .ge 34, 3) := by decide +kernel
theorem dX5_leads_41 : decode cX5_leads 41 = .ok (.aload_n 0, 1) := by decide +kernel
theorem dX5_leads_42 : decode cX5_leads 42 = .ok (.iload 4, 2) := by decide +kernel
theorem dX5_leads_44 : decode cX5_leads 44 = .ok (.iload_n 1, 1) := by decide +kernel
theorem dX5_leads_45 : decode cX5_leads 45 = .ok (.invokevirtual 122, 3) := by decide +kernel
theorem dX5_leads_48 : decode cX5_leads 48 = .ok (.astore 5, 2) := by decide +kernel
theorem dX5_leads_50 : decode cX5_leads 50 = .ok (.aload 5, 2) := by decide +kernel
theorem dX5_leads_52 : decode cX5_leads 52 = .ok (.ifnull 14, 3) := by decide +kernel
theorem dX5_leads_55 : decode cX5_leads 55 = .ok (.aload 5, 2) := by decide +kernel
theorem dX5_leads_57 : decode cX5_leads 57 = .ok (.getfield 72, 3) := by decide +kernel
theorem dX5_leads_60 : decode cX5_leads 60 = .ok (.iload_n 2, 1) := by decide +kernel
theorem dX5_leads_61 : decode cX5_leads 61 = .ok (.if_icmp .ne 5, 3) := by decide +kernel
theorem dX5_leads_64 : decode cX5_leads 64 = .ok (.iconst 1, 1) := by decide +kernel
theorem dX5_leads_65 : decode cX5_leads 65 = .ok (.ireturn, 1) := by decide +kernel
theorem dX5_leads_66 : decode cX5_leads 66 = .ok (.iinc 4 1, 3) := by decide +kernel
theorem dX5_leads_69 : decode cX5_leads 69 = .ok (.goto (-37), 3) := by decide +kernel
theorem dX5_leads_72 : decode cX5_leads 72 = .ok (.iconst 0, 1) := by decide +kernel
theorem dX5_leads_73 : decode cX5_leads 73 = .ok (.ireturn, 1) := by decide +kernel
theorem dX5_countSources_0 : decode cX5_countSources 0 = .ok (.iconst 0, 1) := by decide +kernel
theorem dX5_countSources_1 : decode cX5_countSources 1 = .ok (.istore_n 2, 1) := by decide +kernel
theorem dX5_countSources_2 : decode cX5_countSources 2 = .ok (.iconst 0, 1) := by decide +kernel
theorem dX5_countSources_3 : decode cX5_countSources 3 = .ok (.istore_n 3, 1) := by decide +kernel
theorem dX5_countSources_4 : decode cX5_countSources 4 = .ok (.iload_n 3, 1) := by decide +kernel
theorem dX5_countSources_5 : decode cX5_countSources 5 = .ok (.aload_n 0, 1) := by decide +kernel
theorem dX5_countSources_6 : decode cX5_countSources 6 = .ok (.getfield 30, 3) := by decide +kernel
theorem dX5_countSources_9 : decode cX5_countSources 9 = .ok (.if_icmp .ge 21, 3) := by decide +kernel
theorem dX5_countSources_12 : decode cX5_countSources 12 = .ok (.aload_n 0, 1) := by decide +kernel
theorem dX5_countSources_13 : decode cX5_countSources 13 = .ok (.iload_n 3, 1) := by decide +kernel
theorem dX5_countSources_14 : decode cX5_countSources 14 = .ok (.iload_n 1, 1) := by decide +kernel
theorem dX5_countSources_15 : decode cX5_countSources 15 = .ok (.invokevirtual 126, 3) := by decide +kernel
theorem dX5_countSources_18 : decode cX5_countSources 18 = .ok (.ifCond .eq 6, 3) := by decide +kernel
theorem dX5_countSources_21 : decode cX5_countSources 21 = .ok (.iinc 2 1, 3) := by decide +kernel
theorem dX5_countSources_24 : decode cX5_countSources 24 = .ok (.iinc 3 1, 3) := by decide +kernel
theorem dX5_countSources_27 : decode cX5_countSources 27 = .ok (.goto (-23), 3) := by decide +kernel
theorem dX5_countSources_30 : decode cX5_countSources 30 = .ok (.iload_n 2, 1) := by decide +kernel
theorem dX5_countSources_31 : decode cX5_countSources 31 = .ok (.ireturn, 1) := by decide +kernel
theorem dX5_setFrames_0 : decode cX5_setFrames 0 = .ok (.iconst 0, 1) := by decide +kernel
theorem dX5_setFrames_1 : decode cX5_setFrames 1 = .ok (.istore_n 1, 1) := by decide +kernel
theorem dX5_setFrames_2 : decode cX5_setFrames 2 = .ok (.iload_n 1, 1) := by decide +kernel
theorem dX5_setFrames_3 : decode cX5_setFrames 3 = .ok (.aload_n 0, 1) := by decide +kernel
theorem dX5_setFrames_4 : decode cX5_setFrames 4 = .ok (.getfield 30, 3) := by decide +kernel
theorem dX5_setFrames_7 : decode cX5_setFrames 7 = .ok (.if_icmp .ge 50, 3) := by decide +kernel
theorem dX5_setFrames_10 : decode cX5_setFrames 10 = .ok (.aload_n 0, 1) := by decide +kernel
theorem dX5_setFrames_11 : decode cX5_setFrames 11 = .ok (.iload_n 1, 1) := by decide +kernel
theorem dX5_setFrames_12 : decode cX5_setFrames 12 = .ok (.invokevirtual 82, 3) := by decide +kernel
theorem dX5_setFrames_15 : decode cX5_setFrames 15 = .ok (.astore_n 2, 1) := by decide +kernel
theorem dX5_setFrames_16 : decode cX5_setFrames 16 = .ok (.aload_n 2, 1) := by decide +kernel
theorem dX5_setFrames_17 : decode cX5_setFrames 17 = .ok (.ifnull 34, 3) := by decide +kernel
theorem dX5_setFrames_20 : decode cX5_setFrames 20 = .ok (.aload_n 2, 1) := by decide +kernel
theorem dX5_setFrames_21 : decode cX5_setFrames 21 = .ok (.getfield 116, 3) := by decide +kernel
theorem dX5_setFrames_24 : decode cX5_setFrames 24 = .ok (.ifCond .eq 27, 3) := by decide +kernel
theorem dX5_setFrames_27 : decode cX5_setFrames 27 = .ok (.aload_n 0, 1) := by decide +kernel
theorem dX5_setFrames_28 : decode cX5_setFrames 28 = .ok (.iload_n 1, 1) := by decide +kernel
theorem dX5_setFrames_29 : decode cX5_setFrames 29 = .ok (.invokevirtual 130, 3) := by decide +kernel
theorem dX5_setFrames_32 : decode cX5_setFrames 32 = .ok (.ifCond .le 19, 3) := by decide +kernel
theorem dX5_setFrames_35 : decode cX5_setFrames 35 = .ok (.aload_n 2, 1) := by decide +kernel
theorem dX5_setFrames_36 : decode cX5_setFrames 36 = .ok (.iconst 1, 1) := by decide +kernel
theorem dX5_setFrames_37 : decode cX5_setFrames 37 = .ok (.putfield 133, 3) := by decide +kernel
theorem dX5_setFrames_40 : decode cX5_setFrames 40 = .ok (.aload_n 2, 1) := by decide +kernel
theorem dX5_setFrames_41 : decode cX5_setFrames 41 = .ok (.getfield 136, 3) := by decide +kernel
theorem dX5_setFrames_44 : decode cX5_setFrames 44 = .ok (.aload_n 2, 1) := by decide +kernel
theorem dX5_setFrames_45 : decode cX5_setFrames 45 = .ok (.getfield 139, 3) := by decide +kernel
theorem dX5_setFrames_48 : decode cX5_setFrames 48 = .ok (.invokevirtual 142, 3) := by decide +kernel
theorem dX5_setFrames_51 : decode cX5_setFrames 51 = .ok (.iinc 1 1, 3) := by decide +kernel
theorem dX5_setFrames_54 : decode cX5_setFrames 54 = .ok (.goto (-52), 3) := by decide +kernel
theorem dX5_setFrames_57 : decode cX5_setFrames 57 = .ok (.return_, 1) := by decide +kernel
theorem dX5_frameCount_0 : decode cX5_frameCount 0 = .ok (.iconst 0, 1) := by decide +kernel
theorem dX5_frameCount_1 : decode cX5_frameCount 1 = .ok (.istore_n 1, 1) := by decide +kernel
theorem dX5_frameCount_2 : decode cX5_frameCount 2 = .ok (.iconst 0, 1) := by decide +kernel
theorem dX5_frameCount_3 : decode cX5_frameCount 3 = .ok (.istore_n 2, 1) := by decide +kernel
theorem dX5_frameCount_4 : decode cX5_frameCount 4 = .ok (.iload_n 2, 1) := by decide +kernel
theorem dX5_frameCount_5 : decode cX5_frameCount 5 = .ok (.aload_n 0, 1) := by decide +kernel
theorem dX5_frameCount_6 : decode cX5_frameCount 6 = .ok (.getfield 30, 3) := by decide +kernel
theorem dX5_frameCount_9 : decode cX5_frameCount 9 = .ok (.if_icmp .ge 29, 3) := by decide +kernel
theorem dX5_frameCount_12 : decode cX5_frameCount 12 = .ok (.aload_n 0, 1) := by decide +kernel
theorem dX5_frameCount_13 : decode cX5_frameCount 13 = .ok (.iload_n 2, 1) := by decide +kernel
theorem dX5_frameCount_14 : decode cX5_frameCount 14 = .ok (.invokevirtual 82, 3) := by decide +kernel
theorem dX5_frameCount_17 : decode cX5_frameCount 17 = .ok (.astore_n 3, 1) := by decide +kernel
theorem dX5_frameCount_18 : decode cX5_frameCount 18 = .ok (.aload_n 3, 1) := by decide +kernel
theorem dX5_frameCount_19 : decode cX5_frameCount 19 = .ok (.ifnull 13, 3) := by decide +kernel
theorem dX5_frameCount_22 : decode cX5_frameCount 22 = .ok (.aload_n 3, 1) := by decide +kernel
theorem dX5_frameCount_23 : decode cX5_frameCount 23 = .ok (.getfield 133, 3) := by decide +kernel
theorem dX5_frameCount_26 : decode cX5_frameCount 26 = .ok (.ifCond .eq 6, 3) := by decide +kernel
theorem dX5_frameCount_29 : decode cX5_frameCount 29 = .ok (.iinc 1 1, 3) := by decide +kernel
theorem dX5_frameCount_32 : decode cX5_frameCount 32 = .ok (.iinc 2 1, 3) := by decide +kernel
theorem dX5_frameCount_35 : decode cX5_frameCount 35 = .ok (.goto (-31), 3) := by decide +kernel
theorem dX5_frameCount_38 : decode cX5_frameCount 38 = .ok (.iload_n 1, 1) := by decide +kernel
theorem dX5_frameCount_39 : decode cX5_frameCount 39 = .ok (.ireturn, 1) := by decide +kernel
theorem dX5_actOfFrame_0 : decode cX5_actOfFrame 0 = .ok (.iconst 0, 1) := by decide +kernel
theorem dX5_actOfFrame_1 : decode cX5_actOfFrame 1 = .ok (.istore_n 2, 1) := by decide +kernel
theorem dX5_actOfFrame_2 : decode cX5_actOfFrame 2 = .ok (.iconst 0, 1) := by decide +kernel
theorem dX5_actOfFrame_3 : decode cX5_actOfFrame 3 = .ok (.istore_n 3, 1) := by decide +kernel
theorem dX5_actOfFrame_4 : decode cX5_actOfFrame 4 = .ok (.iload_n 3, 1) := by decide +kernel
theorem dX5_actOfFrame_5 : decode cX5_actOfFrame 5 = .ok (.aload_n 0, 1) := by decide +kernel
theorem dX5_actOfFrame_6 : decode cX5_actOfFrame 6 = .ok (.getfield 30, 3) := by decide +kernel
theorem dX5_actOfFrame_9 : decode cX5_actOfFrame 9 = .ok (.if_icmp .ge 39, 3) := by decide +kernel
theorem dX5_actOfFrame_12 : decode cX5_actOfFrame 12 = .ok (.aload_n 0, 1) := by decide +kernel
theorem dX5_actOfFrame_13 : decode cX5_actOfFrame 13 = .ok (.iload_n 3, 1) := by decide +kernel
theorem dX5_actOfFrame_14 : decode cX5_actOfFrame 14 = .ok (.invokevirtual 82, 3) := by decide +kernel
theorem dX5_actOfFrame_17 : decode cX5_actOfFrame 17 = .ok (.astore 4, 2) := by decide +kernel
theorem dX5_actOfFrame_19 : decode cX5_actOfFrame 19 = .ok (.aload 4, 2) := by decide +kernel
theorem dX5_actOfFrame_21 : decode cX5_actOfFrame 21 = .ok (.ifnull 21, 3) := by decide +kernel
theorem dX5_actOfFrame_24 : decode cX5_actOfFrame 24 = .ok (.aload 4, 2) := by decide +kernel
theorem dX5_actOfFrame_26 : decode cX5_actOfFrame 26 = .ok (.getfield 133, 3) := by decide +kernel
theorem dX5_actOfFrame_29 : decode cX5_actOfFrame 29 = .ok (.ifCond .eq 13, 3) := by decide +kernel
theorem dX5_actOfFrame_32 : decode cX5_actOfFrame 32 = .ok (.iload_n 2, 1) := by decide +kernel
theorem dX5_actOfFrame_33 : decode cX5_actOfFrame 33 = .ok (.iload_n 1, 1) := by decide +kernel
theorem dX5_actOfFrame_34 : decode cX5_actOfFrame 34 = .ok (.if_icmp .ne 5, 3) := by decide +kernel
theorem dX5_actOfFrame_37 : decode cX5_actOfFrame 37 = .ok (.iload_n 3, 1) := by decide +kernel
theorem dX5_actOfFrame_38 : decode cX5_actOfFrame 38 = .ok (.ireturn, 1) := by decide +kernel
theorem dX5_actOfFrame_39 : decode cX5_actOfFrame 39 = .ok (.iinc 2 1, 3) := by decide +kernel
theorem dX5_actOfFrame_42 : decode cX5_actOfFrame 42 = .ok (.iinc 3 1, 3) := by decide +kernel
theorem dX5_actOfFrame_45 : decode cX5_actOfFrame 45 = .ok (.goto (-41), 3) := by decide +kernel
theorem dX5_actOfFrame_48 : decode cX5_actOfFrame 48 = .ok (.iconst (-1), 1) := by decide +kernel
theorem dX5_actOfFrame_49 : decode cX5_actOfFrame 49 = .ok (.ireturn, 1) := by decide +kernel
theorem dX6_init_0 : decode cX6_init 0 = .ok (.aload_n 0, 1) := by decide +kernel
theorem dX6_init_1 : decode cX6_init 1 = .ok (.invokespecial 3, 3) := by decide +kernel
theorem dX6_init_4 : decode cX6_init 4 = .ok (.aload_n 0, 1) := by decide +kernel
theorem dX6_init_5 : decode cX6_init 5 = .ok (.bipush 8, 2) := by decide +kernel
theorem dX6_init_7 : decode cX6_init 7 = .ok (.newarray .int, 2) := by decide +kernel
theorem dX6_init_9 : decode cX6_init 9 = .ok (.putfield 9, 3) := by decide +kernel
theorem dX6_init_12 : decode cX6_init 12 = .ok (.aload_n 0, 1) := by decide +kernel
theorem dX6_init_13 : decode cX6_init 13 = .ok (.bipush 10, 2) := by decide +kernel
theorem dX6_init_15 : decode cX6_init 15 = .ok (.newarray .int, 2) := by decide +kernel
theorem dX6_init_17 : decode cX6_init 17 = .ok (.putfield 15, 3) := by decide +kernel
theorem dX6_init_20 : decode cX6_init 20 = .ok (.aload_n 0, 1) := by decide +kernel
theorem dX6_init_21 : decode cX6_init 21 = .ok (.iconst 0, 1) := by decide +kernel
theorem dX6_init_22 : decode cX6_init 22 = .ok (.putfield 18, 3) := by decide +kernel
theorem dX6_init_25 : decode cX6_init 25 = .ok (.return_, 1) := by decide +kernel
theorem dX6_empty_0 : decode cX6_empty 0 = .ok (.iconst 0, 1) := by decide +kernel
theorem dX6_empty_1 : decode cX6_empty 1 = .ok (.istore_n 1, 1) := by decide +kernel
theorem dX6_empty_2 : decode cX6_empty 2 = .ok (.iload_n 1, 1) := by decide +kernel
theorem dX6_empty_3 : decode cX6_empty 3 = .ok (.bipush 8, 2) := by decide +kernel
