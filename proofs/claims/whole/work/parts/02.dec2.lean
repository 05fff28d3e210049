theorem dX6_empty_5 : decode cX6_empty 5 = .ok (.if_icmp .ge 16, 3) := by decide +kernel
theorem dX6_empty_8 : decode cX6_empty 8 = .ok (.aload_n 0, 1) := by decide +kernel
theorem dX6_empty_9 : decode cX6_empty 9 = .ok (.getfield 9, 3) := by decide +kernel
theorem dX6_empty_12 : decode cX6_empty 12 = .ok (.iload_n 1, 1) := by decide +kernel
theorem dX6_empty_13 : decode cX6_empty 13 = .ok (.iconst 0, 1) := by decide +kernel
theorem dX6_empty_14 : decode cX6_empty 14 = .ok (.iastore, 1) := by decide +kernel
theorem dX6_empty_15 : decode cX6_empty 15 = .ok (.iinc 1 1, 3) := by decide +kernel
theorem dX6_empty_18 : decode cX6_empty 18 = .ok (.goto (-16), 3) := by decide +kernel
theorem dX6_empty_21 : decode cX6_empty 21 = .ok (.aload_n 0, 1) := by decide +kernel
theorem dX6_empty_22 : decode cX6_empty 22 = .ok (.iconst 0, 1) := by decide +kernel
theorem dX6_empty_23 : decode cX6_empty 23 = .ok (.putfield 18, 3) := by decide +kernel
theorem dX6_empty_26 : decode cX6_empty 26 = .ok (.return_, 1) := by decide +kernel
theorem dX6_become_0 : decode cX6_become 0 = .ok (.aload_n 1, 1) := by decide +kernel
theorem dX6_become_1 : decode cX6_become 1 = .ok (.getfield 9, 3) := by decide +kernel
theorem dX6_become_4 : decode cX6_become 4 = .ok (.iconst 0, 1) := by decide +kernel
theorem dX6_become_5 : decode cX6_become 5 = .ok (.aload_n 0, 1) := by decide +kernel
theorem dX6_become_6 : decode cX6_become 6 = .ok (.getfield 9, 3) := by decide +kernel
theorem dX6_become_9 : decode cX6_become 9 = .ok (.iconst 0, 1) := by decide +kernel
theorem dX6_become_10 : decode cX6_become 10 = .ok (.bipush 8, 2) := by decide +kernel
theorem dX6_become_12 : decode cX6_become 12 = .ok (.invokestatic 22, 3) := by decide +kernel
theorem dX6_become_15 : decode cX6_become 15 = .ok (.aload_n 1, 1) := by decide +kernel
theorem dX6_become_16 : decode cX6_become 16 = .ok (.getfield 15, 3) := by decide +kernel
theorem dX6_become_19 : decode cX6_become 19 = .ok (.iconst 0, 1) := by decide +kernel
theorem dX6_become_20 : decode cX6_become 20 = .ok (.aload_n 0, 1) := by decide +kernel
theorem dX6_become_21 : decode cX6_become 21 = .ok (.getfield 15, 3) := by decide +kernel
theorem dX6_become_24 : decode cX6_become 24 = .ok (.iconst 0, 1) := by decide +kernel
theorem dX6_become_25 : decode cX6_become 25 = .ok (.bipush 10, 2) := by decide +kernel
theorem dX6_become_27 : decode cX6_become 27 = .ok (.invokestatic 22, 3) := by decide +kernel
theorem dX6_become_30 : decode cX6_become 30 = .ok (.aload_n 0, 1) := by decide +kernel
theorem dX6_become_31 : decode cX6_become 31 = .ok (.aload_n 1, 1) := by decide +kernel
theorem dX6_become_32 : decode cX6_become 32 = .ok (.getfield 18, 3) := by decide +kernel
theorem dX6_become_35 : decode cX6_become 35 = .ok (.putfield 18, 3) := by decide +kernel
theorem dX6_become_38 : decode cX6_become 38 = .ok (.return_, 1) := by decide +kernel
theorem dX6_inPlace_0 : decode cX6_inPlace 0 = .ok (.iload_n 1, 1) := by decide +kernel
theorem dX6_inPlace_1 : decode cX6_inPlace 1 = .ok (.ifCond .lt 18, 3) := by decide +kernel
theorem dX6_inPlace_4 : decode cX6_inPlace 4 = .ok (.iload_n 1, 1) := by decide +kernel
theorem dX6_inPlace_5 : decode cX6_inPlace 5 = .ok (.bipush 8, 2) := by decide +kernel
theorem dX6_inPlace_7 : decode cX6_inPlace 7 = .ok (.if_icmp .ge 12, 3) := by decide +kernel
theorem dX6_inPlace_10 : decode cX6_inPlace 10 = .ok (.aload_n 0, 1) := by decide +kernel
theorem dX6_inPlace_11 : decode cX6_inPlace 11 = .ok (.getfield 9, 3) := by decide +kernel
theorem dX6_inPlace_14 : decode cX6_inPlace 14 = .ok (.iload_n 1, 1) := by decide +kernel
theorem dX6_inPlace_15 : decode cX6_inPlace 15 = .ok (.iaload, 1) := by decide +kernel
theorem dX6_inPlace_16 : decode cX6_inPlace 16 = .ok (.goto 4, 3) := by decide +kernel
theorem dX6_inPlace_19 : decode cX6_inPlace 19 = .ok (.iconst 0, 1) := by decide +kernel
theorem dX6_inPlace_20 : decode cX6_inPlace 20 = .ok (.ireturn, 1) := by decide +kernel
theorem dX6_setPlace_0 : decode cX6_setPlace 0 = .ok (.iload_n 1, 1) := by decide +kernel
theorem dX6_setPlace_1 : decode cX6_setPlace 1 = .ok (.ifCond .lt 16, 3) := by decide +kernel
theorem dX6_setPlace_4 : decode cX6_setPlace 4 = .ok (.iload_n 1, 1) := by decide +kernel
theorem dX6_setPlace_5 : decode cX6_setPlace 5 = .ok (.bipush 8, 2) := by decide +kernel
theorem dX6_setPlace_7 : decode cX6_setPlace 7 = .ok (.if_icmp .ge 10, 3) := by decide +kernel
theorem dX6_setPlace_10 : decode cX6_setPlace 10 = .ok (.aload_n 0, 1) := by decide +kernel
theorem dX6_setPlace_11 : decode cX6_setPlace 11 = .ok (.getfield 9, 3) := by decide +kernel
theorem dX6_setPlace_14 : decode cX6_setPlace 14 = .ok (.iload_n 1, 1) := by decide +kernel
theorem dX6_setPlace_15 : decode cX6_setPlace 15 = .ok (.iload_n 2, 1) := by decide +kernel
theorem dX6_setPlace_16 : decode cX6_setPlace 16 = .ok (.iastore, 1) := by decide +kernel
theorem dX6_setPlace_17 : decode cX6_setPlace 17 = .ok (.return_, 1) := by decide +kernel
theorem dX6_onStack_0 : decode cX6_onStack 0 = .ok (.iload_n 1, 1) := by decide +kernel
theorem dX6_onStack_1 : decode cX6_onStack 1 = .ok (.ifCond .lt 26, 3) := by decide +kernel
theorem dX6_onStack_4 : decode cX6_onStack 4 = .ok (.iload_n 1, 1) := by decide +kernel
theorem dX6_onStack_5 : decode cX6_onStack 5 = .ok (.aload_n 0, 1) := by decide +kernel
theorem dX6_onStack_6 : decode cX6_onStack 6 = .ok (.getfield 18, 3) := by decide +kernel
theorem dX6_onStack_9 : decode cX6_onStack 9 = .ok (.if_icmp .ge 18, 3) := by decide +kernel
theorem dX6_onStack_12 : decode cX6_onStack 12 = .ok (.iload_n 1, 1) := by decide +kernel
theorem dX6_onStack_13 : decode cX6_onStack 13 = .ok (.bipush 10, 2) := by decide +kernel
theorem dX6_onStack_15 : decode cX6_onStack 15 = .ok (.if_icmp .ge 12, 3) := by decide +kernel
theorem dX6_onStack_18 : decode cX6_onStack 18 = .ok (.aload_n 0, 1) := by decide +kernel
theorem dX6_onStack_19 : decode cX6_onStack 19 = .ok (.getfield 15, 3) := by decide +kernel
theorem dX6_onStack_22 : decode cX6_onStack 22 = .ok (.iload_n 1, 1) := by decide +kernel
theorem dX6_onStack_23 : decode cX6_onStack 23 = .ok (.iaload, 1) := by decide +kernel
theorem dX6_onStack_24 : decode cX6_onStack 24 = .ok (.goto 4, 3) := by decide +kernel
theorem dX6_onStack_27 : decode cX6_onStack 27 = .ok (.iconst (-1), 1) := by decide +kernel
theorem dX6_onStack_28 : decode cX6_onStack 28 = .ok (.ireturn, 1) := by decide +kernel
theorem dX6_setStack_0 : decode cX6_setStack 0 = .ok (.iload_n 1, 1) := by decide +kernel
theorem dX6_setStack_1 : decode cX6_setStack 1 = .ok (.ifCond .lt 24, 3) := by decide +kernel
theorem dX6_setStack_4 : decode cX6_setStack 4 = .ok (.iload_n 1, 1) := by decide +kernel
theorem dX6_setStack_5 : decode cX6_setStack 5 = .ok (.aload_n 0, 1) := by decide +kernel
theorem dX6_setStack_6 : decode cX6_setStack 6 = .ok (.getfield 18, 3) := by decide +kernel
theorem dX6_setStack_9 : decode cX6_setStack 9 = .ok (.if_icmp .ge 16, 3) := by decide +kernel
theorem dX6_setStack_12 : decode cX6_setStack 12 = .ok (.iload_n 1, 1) := by decide +kernel
theorem dX6_setStack_13 : decode cX6_setStack 13 = .ok (.bipush 10, 2) := by decide +kernel
theorem dX6_setStack_15 : decode cX6_setStack 15 = .ok (.if_icmp .ge 10, 3) := by decide +kernel
theorem dX6_setStack_18 : decode cX6_setStack 18 = .ok (.aload_n 0, 1) := by decide +kernel
theorem dX6_setStack_19 : decode cX6_setStack 19 = .ok (.getfield 15, 3) := by decide +kernel
theorem dX6_setStack_22 : decode cX6_setStack 22 = .ok (.iload_n 1, 1) := by decide +kernel
theorem dX6_setStack_23 : decode cX6_setStack 23 = .ok (.iload_n 2, 1) := by decide +kernel
theorem dX6_setStack_24 : decode cX6_setStack 24 = .ok (.iastore, 1) := by decide +kernel
theorem dX6_setStack_25 : decode cX6_setStack 25 = .ok (.return_, 1) := by decide +kernel
theorem dX6_weight_0 : decode cX6_weight 0 = .ok (.iconst 0, 1) := by decide +kernel
theorem dX6_weight_1 : decode cX6_weight 1 = .ok (.istore_n 1, 1) := by decide +kernel
theorem dX6_weight_2 : decode cX6_weight 2 = .ok (.iconst 0, 1) := by decide +kernel
theorem dX6_weight_3 : decode cX6_weight 3 = .ok (.istore_n 2, 1) := by decide +kernel
theorem dX6_weight_4 : decode cX6_weight 4 = .ok (.iload_n 2, 1) := by decide +kernel
theorem dX6_weight_5 : decode cX6_weight 5 = .ok (.aload_n 0, 1) := by decide +kernel
theorem dX6_weight_6 : decode cX6_weight 6 = .ok (.getfield 18, 3) := by decide +kernel
theorem dX6_weight_9 : decode cX6_weight 9 = .ok (.if_icmp .ge 33, 3) := by decide +kernel
theorem dX6_weight_12 : decode cX6_weight 12 = .ok (.iload_n 2, 1) := by decide +kernel
theorem dX6_weight_13 : decode cX6_weight 13 = .ok (.bipush 10, 2) := by decide +kernel
theorem dX6_weight_15 : decode cX6_weight 15 = .ok (.if_icmp .ge 27, 3) := by decide +kernel
theorem dX6_weight_18 : decode cX6_weight 18 = .ok (.iload_n 1, 1) := by decide +kernel
theorem dX6_weight_19 : decode cX6_weight 19 = .ok (.aload_n 0, 1) := by decide +kernel
theorem dX6_weight_20 : decode cX6_weight 20 = .ok (.getfield 15, 3) := by decide +kernel
theorem dX6_weight_23 : decode cX6_weight 23 = .ok (.iload_n 2, 1) := by decide +kernel
theorem dX6_weight_24 : decode cX6_weight 24 = .ok (.iaload, 1) := by decide +kernel
theorem dX6_weight_25 : decode cX6_weight 25 = .ok (.iconst 2, 1) := by decide +kernel
theorem dX6_weight_26 : decode cX6_weight 26 = .ok (.if_icmp .ne 7, 3) := by decide +kernel
theorem dX6_weight_29 : decode cX6_weight 29 = .ok (.iconst 2, 1) := by decide +kernel
theorem dX6_weight_30 : decode cX6_weight 30 = .ok (.goto 4, 3) := by decide +kernel
theorem dX6_weight_33 : decode cX6_weight 33 = .ok (.iconst 1, 1) := by decide +kernel
theorem dX6_weight_34 : decode cX6_weight 34 = .ok (.iadd, 1) := by decide +kernel
theorem dX6_weight_35 : decode cX6_weight 35 = .ok (.istore_n 1, 1) := by decide +kernel
theorem dX6_weight_36 : decode cX6_weight 36 = .ok (.iinc 2 1, 3) := by decide +kernel
theorem dX6_weight_39 : decode cX6_weight 39 = .ok (.goto (-35), 3) := by decide +kernel
theorem dX6_weight_42 : decode cX6_weight 42 = .ok (.iload_n 1, 1) := by decide +kernel
theorem dX6_weight_43 : decode cX6_weight 43 = .ok (.ireturn, 1) := by decide +kernel
theorem dX6_push_0 : decode cX6_push 0 = .ok (.iload_n 1, 1) := by decide +kernel
theorem dX6_push_1 : decode cX6_push 1 = .ok (.iconst 2, 1) := by decide +kernel
theorem dX6_push_2 : decode cX6_push 2 = .ok (.if_icmp .ne 7, 3) := by decide +kernel
theorem dX6_push_5 : decode cX6_push 5 = .ok (.iconst 2, 1) := by decide +kernel
theorem dX6_push_6 : decode cX6_push 6 = .ok (.goto 4, 3) := by decide +kernel
theorem dX6_push_9 : decode cX6_push 9 = .ok (.iconst 1, 1) := by decide +kernel
theorem dX6_push_10 : decode cX6_push 10 = .ok (.istore_n 2, 1) := by decide +kernel
theorem dX6_push_11 : decode cX6_push 11 = .ok (.aload_n 0, 1) := by decide +kernel
theorem dX6_push_12 : decode cX6_push 12 = .ok (.invokevirtual 28, 3) := by decide +kernel
theorem dX6_push_15 : decode cX6_push 15 = .ok (.iload_n 2, 1) := by decide +kernel
theorem dX6_push_16 : decode cX6_push 16 = .ok (.iadd, 1) := by decide +kernel
theorem dX6_push_17 : decode cX6_push 17 = .ok (.bipush 10, 2) := by decide +kernel
theorem dX6_push_19 : decode cX6_push 19 = .ok (.if_icmp .le 5, 3) := by decide +kernel
theorem dX6_push_22 : decode cX6_push 22 = .ok (.iconst 3, 1) := by decide +kernel
theorem dX6_push_23 : decode cX6_push 23 = .ok (.ireturn, 1) := by decide +kernel
theorem dX6_push_24 : decode cX6_push 24 = .ok (.aload_n 0, 1) := by decide +kernel
theorem dX6_push_25 : decode cX6_push 25 = .ok (.dup, 1) := by decide +kernel
theorem dX6_push_26 : decode cX6_push 26 = .ok (.getfield 18, 3) := by decide +kernel
theorem dX6_push_29 : decode cX6_push 29 = .ok (.iconst 1, 1) := by decide +kernel
theorem dX6_push_30 : decode cX6_push 30 = .ok (.iadd, 1) := by decide +kernel
theorem dX6_push_31 : decode cX6_push 31 = .ok (.putfield 18, 3) := by decide +kernel
theorem dX6_push_34 : decode cX6_push 34 = .ok (.aload_n 0, 1) := by decide +kernel
theorem dX6_push_35 : decode cX6_push 35 = .ok (.aload_n 0, 1) := by decide +kernel
theorem dX6_push_36 : decode cX6_push 36 = .ok (.getfield 18, 3) := by decide +kernel
theorem dX6_push_39 : decode cX6_push 39 = .ok (.iconst 1, 1) := by decide +kernel
theorem dX6_push_40 : decode cX6_push 40 = .ok (.isub, 1) := by decide +kernel
theorem dX6_push_41 : decode cX6_push 41 = .ok (.iload_n 1, 1) := by decide +kernel
theorem dX6_push_42 : decode cX6_push 42 = .ok (.invokevirtual 32, 3) := by decide +kernel
theorem dX6_push_45 : decode cX6_push 45 = .ok (.iconst 0, 1) := by decide +kernel
theorem dX6_push_46 : decode cX6_push 46 = .ok (.ireturn, 1) := by decide +kernel
theorem dX6_top_0 : decode cX6_top 0 = .ok (.aload_n 0, 1) := by decide +kernel
theorem dX6_top_1 : decode cX6_top 1 = .ok (.aload_n 0, 1) := by decide +kernel
theorem dX6_top_2 : decode cX6_top 2 = .ok (.getfield 18, 3) := by decide +kernel
theorem dX6_top_5 : decode cX6_top 5 = .ok (.iconst 1, 1) := by decide +kernel
theorem dX6_top_6 : decode cX6_top 6 = .ok (.isub, 1) := by decide +kernel
theorem dX6_top_7 : decode cX6_top 7 = .ok (.invokevirtual 36, 3) := by decide +kernel
theorem dX6_top_10 : decode cX6_top 10 = .ok (.ireturn, 1) := by decide +kernel
theorem dX6_pop_0 : decode cX6_pop 0 = .ok (.aload_n 0, 1) := by decide +kernel
theorem dX6_pop_1 : decode cX6_pop 1 = .ok (.aload_n 0, 1) := by decide +kernel
theorem dX6_pop_2 : decode cX6_pop 2 = .ok (.getfield 18, 3) := by decide +kernel
theorem dX6_pop_5 : decode cX6_pop 5 = .ok (.iconst 1, 1) := by decide +kernel
theorem dX6_pop_6 : decode cX6_pop 6 = .ok (.isub, 1) := by decide +kernel
theorem dX6_pop_7 : decode cX6_pop 7 = .ok (.invokevirtual 36, 3) := by decide +kernel
theorem dX6_pop_10 : decode cX6_pop 10 = .ok (.istore_n 1, 1) := by decide +kernel
theorem dX6_pop_11 : decode cX6_pop 11 = .ok (.iload_n 1, 1) := by decide +kernel
theorem dX6_pop_12 : decode cX6_pop 12 = .ok (.iconst (-1), 1) := by decide +kernel
theorem dX6_pop_13 : decode cX6_pop 13 = .ok (.if_icmp .eq 13, 3) := by decide +kernel
theorem dX6_pop_16 : decode cX6_pop 16 = .ok (.aload_n 0, 1) := by decide +kernel
theorem dX6_pop_17 : decode cX6_pop 17 = .ok (.dup, 1) := by decide +kernel
theorem dX6_pop_18 : decode cX6_pop 18 = .ok (.getfield 18, 3) := by decide +kernel
theorem dX6_pop_21 : decode cX6_pop 21 = .ok (.iconst 1, 1) := by decide +kernel
theorem dX6_pop_22 : decode cX6_pop 22 = .ok (.isub, 1) := by decide +kernel
theorem dX6_pop_23 : decode cX6_pop 23 = .ok (.putfield 18, 3) := by decide +kernel
theorem dX6_pop_26 : decode cX6_pop 26 = .ok (.iload_n 1, 1) := by decide +kernel
theorem dX6_pop_27 : decode cX6_pop 27 = .ok (.ireturn, 1) := by decide +kernel
theorem dX6_store_0 : decode cX6_store 0 = .ok (.aload_n 0, 1) := by decide +kernel
theorem dX6_store_1 : decode cX6_store 1 = .ok (.iload_n 1, 1) := by decide +kernel
theorem dX6_store_2 : decode cX6_store 2 = .ok (.invokevirtual 40, 3) := by decide +kernel
theorem dX6_store_5 : decode cX6_store 5 = .ok (.iload_n 2, 1) := by decide +kernel
theorem dX6_store_6 : decode cX6_store 6 = .ok (.iconst 2, 1) := by decide +kernel
theorem dX6_store_7 : decode cX6_store 7 = .ok (.if_icmp .ne 18, 3) := by decide +kernel
theorem dX6_store_10 : decode cX6_store 10 = .ok (.aload_n 0, 1) := by decide +kernel
theorem dX6_store_11 : decode cX6_store 11 = .ok (.iload_n 1, 1) := by decide +kernel
theorem dX6_store_12 : decode cX6_store 12 = .ok (.iconst 1, 1) := by decide +kernel
theorem dX6_store_13 : decode cX6_store 13 = .ok (.iadd, 1) := by decide +kernel
theorem dX6_store_14 : decode cX6_store 14 = .ok (.invokevirtual 40, 3) := by decide +kernel
theorem dX6_store_17 : decode cX6_store 17 = .ok (.aload_n 0, 1) := by decide +kernel
theorem dX6_store_18 : decode cX6_store 18 = .ok (.iload_n 1, 1) := by decide +kernel
theorem dX6_store_19 : decode cX6_store 19 = .ok (.iconst 1, 1) := by decide +kernel
theorem dX6_store_20 : decode cX6_store 20 = .ok (.iadd, 1) := by decide +kernel
theorem dX6_store_21 : decode cX6_store 21 = .ok (.iconst 3, 1) := by decide +kernel
theorem dX6_store_22 : decode cX6_store 22 = .ok (.invokevirtual 44, 3) := by decide +kernel
theorem dX6_store_25 : decode cX6_store 25 = .ok (.aload_n 0, 1) := by decide +kernel
theorem dX6_store_26 : decode cX6_store 26 = .ok (.iload_n 1, 1) := by decide +kernel
theorem dX6_store_27 : decode cX6_store 27 = .ok (.iload_n 2, 1) := by decide +kernel
theorem dX6_store_28 : decode cX6_store 28 = .ok (.invokevirtual 44, 3) := by decide +kernel
theorem dX6_store_31 : decode cX6_store 31 = .ok (.return_, 1) := by decide +kernel
theorem dX6_breakWideAt_0 : decode cX6_breakWideAt 0 = .ok (.aload_n 0, 1) := by decide +kernel
theorem dX6_breakWideAt_1 : decode cX6_breakWideAt 1 = .ok (.iload_n 1, 1) := by decide +kernel
theorem dX6_breakWideAt_2 : decode cX6_breakWideAt 2 = .ok (.invokevirtual 47, 3) := by decide +kernel
theorem dX6_breakWideAt_5 : decode cX6_breakWideAt 5 = .ok (.iconst 3, 1) := by decide +kernel
theorem dX6_breakWideAt_6 : decode cX6_breakWideAt 6 = .ok (.if_icmp .ne 11, 3) := by decide +kernel
theorem dX6_breakWideAt_9 : decode cX6_breakWideAt 9 = .ok (.aload_n 0, 1) := by decide +kernel
theorem dX6_breakWideAt_10 : decode cX6_breakWideAt 10 = .ok (.iload_n 1, 1) := by decide +kernel
theorem dX6_breakWideAt_11 : decode cX6_breakWideAt 11 = .ok (.iconst 1, 1) := by decide +kernel
theorem dX6_breakWideAt_12 : decode cX6_breakWideAt 12 = .ok (.isub, 1) := by decide +kernel
theorem dX6_breakWideAt_13 : decode cX6_breakWideAt 13 = .ok (.iconst 0, 1) := by decide +kernel
theorem dX6_breakWideAt_14 : decode cX6_breakWideAt 14 = .ok (.invokevirtual 44, 3) := by decide +kernel
theorem dX6_breakWideAt_17 : decode cX6_breakWideAt 17 = .ok (.aload_n 0, 1) := by decide +kernel
theorem dX6_breakWideAt_18 : decode cX6_breakWideAt 18 = .ok (.iload_n 1, 1) := by decide +kernel
theorem dX6_breakWideAt_19 : decode cX6_breakWideAt 19 = .ok (.invokevirtual 47, 3) := by decide +kernel
theorem dX6_breakWideAt_22 : decode cX6_breakWideAt 22 = .ok (.iconst 2, 1) := by decide +kernel
theorem dX6_breakWideAt_23 : decode cX6_breakWideAt 23 = .ok (.if_icmp .ne 11, 3) := by decide +kernel
theorem dX6_breakWideAt_26 : decode cX6_breakWideAt 26 = .ok (.aload_n 0, 1) := by decide +kernel
theorem dX6_breakWideAt_27 : decode cX6_breakWideAt 27 = .ok (.iload_n 1, 1) := by decide +kernel
theorem dX6_breakWideAt_28 : decode cX6_breakWideAt 28 = .ok (.iconst 1, 1) := by decide +kernel
theorem dX6_breakWideAt_29 : decode cX6_breakWideAt 29 = .ok (.iadd, 1) := by decide +kernel
theorem dX6_breakWideAt_30 : decode cX6_breakWideAt 30 = .ok (.iconst 0, 1) := by decide +kernel
theorem dX6_breakWideAt_31 : decode cX6_breakWideAt 31 = .ok (.invokevirtual 44, 3) := by decide +kernel
theorem dX6_breakWideAt_34 : decode cX6_breakWideAt 34 = .ok (.return_, 1) := by decide +kernel
theorem dX6_replace_0 : decode cX6_replace 0 = .ok (.iconst 0, 1) := by decide +kernel
theorem dX6_replace_1 : decode cX6_replace 1 = .ok (.istore_n 3, 1) := by decide +kernel
theorem dX6_replace_2 : decode cX6_replace 2 = .ok (.iload_n 3, 1) := by decide +kernel
theorem dX6_replace_3 : decode cX6_replace 3 = .ok (.bipush 8, 2) := by decide +kernel
theorem dX6_replace_5 : decode cX6_replace 5 = .ok (.if_icmp .ge 24, 3) := by decide +kernel
theorem dX6_replace_8 : decode cX6_replace 8 = .ok (.aload_n 0, 1) := by decide +kernel
theorem dX6_replace_9 : decode cX6_replace 9 = .ok (.iload_n 3, 1) := by decide +kernel
theorem dX6_replace_10 : decode cX6_replace 10 = .ok (.invokevirtual 47, 3) := by decide +kernel
theorem dX6_replace_13 : decode cX6_replace 13 = .ok (.iload_n 1, 1) := by decide +kernel
theorem dX6_replace_14 : decode cX6_replace 14 = .ok (.if_icmp .ne 9, 3) := by decide +kernel
theorem dX6_replace_17 : decode cX6_replace 17 = .ok (.aload_n 0, 1) := by decide +kernel
theorem dX6_replace_18 : decode cX6_replace 18 = .ok (.iload_n 3, 1) := by decide +kernel
theorem dX6_replace_19 : decode cX6_replace 19 = .ok (.iload_n 2, 1) := by decide +kernel
theorem dX6_replace_20 : decode cX6_replace 20 = .ok (.invokevirtual 44, 3) := by decide +kernel
theorem dX6_replace_23 : decode cX6_replace 23 = .ok (.iinc 3 1, 3) := by decide +kernel
theorem dX6_replace_26 : decode cX6_replace 26 = .ok (.goto (-24), 3) := by decide +kernel
theorem dX6_replace_29 : decode cX6_replace 29 = .ok (.iconst 0, 1) := by decide +kernel
theorem dX6_replace_30 : decode cX6_replace 30 = .ok (.istore_n 3, 1) := by decide +kernel
theorem dX6_replace_31 : decode cX6_replace 31 = .ok (.iload_n 3, 1) := by decide +kernel
theorem dX6_replace_32 : decode cX6_replace 32 = .ok (.aload_n 0, 1) := by decide +kernel
theorem dX6_replace_33 : decode cX6_replace 33 = .ok (.getfield 18, 3) := by decide +kernel
theorem dX6_replace_36 : decode cX6_replace 36 = .ok (.if_icmp .ge 24, 3) := by decide +kernel
theorem dX6_replace_39 : decode cX6_replace 39 = .ok (.aload_n 0, 1) := by decide +kernel
theorem dX6_replace_40 : decode cX6_replace 40 = .ok (.iload_n 3, 1) := by decide +kernel
theorem dX6_replace_41 : decode cX6_replace 41 = .ok (.invokevirtual 36, 3) := by decide +kernel
theorem dX6_replace_44 : decode cX6_replace 44 = .ok (.iload_n 1, 1) := by decide +kernel
theorem dX6_replace_45 : decode cX6_replace 45 = .ok (.if_icmp .ne 9, 3) := by decide +kernel
theorem dX6_replace_48 : decode cX6_replace 48 = .ok (.aload_n 0, 1) := by decide +kernel
theorem dX6_replace_49 : decode cX6_replace 49 = .ok (.iload_n 3, 1) := by decide +kernel
theorem dX6_replace_50 : decode cX6_replace 50 = .ok (.iload_n 2, 1) := by decide +kernel
theorem dX6_replace_51 : decode cX6_replace 51 = .ok (.invokevirtual 32, 3) := by decide +kernel
theorem dX6_replace_54 : decode cX6_replace 54 = .ok (.iinc 3 1, 3) := by decide +kernel
theorem dX6_replace_57 : decode cX6_replace 57 = .ok (.goto (-26), 3) := by decide +kernel
theorem dX6_replace_60 : decode cX6_replace 60 = .ok (.return_, 1) := by decide +kernel
theorem dX6_hasUnmade_0 : decode cX6_hasUnmade 0 = .ok (.iconst 0, 1) := by decide +kernel
theorem dX6_hasUnmade_1 : decode cX6_hasUnmade 1 = .ok (.istore_n 1, 1) := by decide +kernel
theorem dX6_hasUnmade_2 : decode cX6_hasUnmade 2 = .ok (.iload_n 1, 1) := by decide +kernel
theorem dX6_hasUnmade_3 : decode cX6_hasUnmade 3 = .ok (.bipush 8, 2) := by decide +kernel
theorem dX6_hasUnmade_5 : decode cX6_hasUnmade 5 = .ok (.if_icmp .ge 21, 3) := by decide +kernel
theorem dX6_hasUnmade_8 : decode cX6_hasUnmade 8 = .ok (.aload_n 0, 1) := by decide +kernel
theorem dX6_hasUnmade_9 : decode cX6_hasUnmade 9 = .ok (.iload_n 1, 1) := by decide +kernel
theorem dX6_hasUnmade_10 : decode cX6_hasUnmade 10 = .ok (.invokevirtual 47, 3) := by decide +kernel
theorem dX6_hasUnmade_13 : decode cX6_hasUnmade 13 = .ok (.bipush 100, 2) := by decide +kernel
theorem dX6_hasUnmade_15 : decode cX6_hasUnmade 15 = .ok (.if_icmp .lt 5, 3) := by decide +kernel
theorem dX6_hasUnmade_18 : decode cX6_hasUnmade 18 = .ok (.iconst 1, 1) := by decide +kernel
theorem dX6_hasUnmade_19 : decode cX6_hasUnmade 19 = .ok (.ireturn, 1) := by decide +kernel
theorem dX6_hasUnmade_20 : decode cX6_hasUnmade 20 = .ok (.iinc 1 1, 3) := by decide +kernel
theorem dX6_hasUnmade_23 : decode cX6_hasUnmade 23 = .ok (.goto (-21), 3) := by decide +kernel
theorem dX6_hasUnmade_26 : decode cX6_hasUnmade 26 = .ok (.iconst 0, 1) := by decide +kernel
theorem dX6_hasUnmade_27 : decode cX6_hasUnmade 27 = .ok (.istore_n 1, 1) := by decide +kernel
theorem dX6_hasUnmade_28 : decode cX6_hasUnmade 28 = .ok (.iload_n 1, 1) := by decide +kernel
theorem dX6_hasUnmade_29 : decode cX6_hasUnmade 29 = .ok (.aload_n 0, 1) := by decide +kernel
theorem dX6_hasUnmade_30 : decode cX6_hasUnmade 30 = .ok (.getfield 18, 3) := by decide +kernel
theorem dX6_hasUnmade_33 : decode cX6_hasUnmade 33 = .ok (.if_icmp .ge 21, 3) := by decide +kernel
theorem dX6_hasUnmade_36 : decode cX6_hasUnmade 36 = .ok (.aload_n 0, 1) := by decide +kernel
theorem dX6_hasUnmade_37 : decode cX6_hasUnmade 37 = .ok (.iload_n 1, 1) := by decide +kernel
theorem dX6_hasUnmade_38 : decode cX6_hasUnmade 38 = .ok (.invokevirtual 36, 3) := by decide +kernel
theorem dX6_hasUnmade_41 : decode cX6_hasUnmade 41 = .ok (.bipush 100, 2) := by decide +kernel
theorem dX6_hasUnmade_43 : decode cX6_hasUnmade 43 = .ok (.if_icmp .lt 5, 3) := by decide +kernel
theorem dX6_hasUnmade_46 : decode cX6_hasUnmade 46 = .ok (.iconst 1, 1) := by decide +kernel
theorem dX6_hasUnmade_47 : decode cX6_hasUnmade 47 = .ok (.ireturn, 1) := by decide +kernel
theorem dX6_hasUnmade_48 : decode cX6_hasUnmade 48 = .ok (.iinc 1 1, 3) := by decide +kernel
theorem dX6_hasUnmade_51 : decode cX6_hasUnmade 51 = .ok (.goto (-23), 3) := by decide +kernel
theorem dX6_hasUnmade_54 : decode cX6_hasUnmade 54 = .ok (.iconst 0, 1) := by decide +kernel
theorem dX6_hasUnmade_55 : decode cX6_hasUnmade 55 = .ok (.ireturn, 1) := by decide +kernel
theorem dX6_becomeCaught_0 : decode cX6_becomeCaught 0 = .ok (.aload_n 0, 1) := by decide +kernel
theorem dX6_becomeCaught_1 : decode cX6_becomeCaught 1 = .ok (.aload_n 1, 1) := by decide +kernel
theorem dX6_becomeCaught_2 : decode cX6_becomeCaught 2 = .ok (.invokevirtual 50, 3) := by decide +kernel
theorem dX6_becomeCaught_5 : decode cX6_becomeCaught 5 = .ok (.iconst 0, 1) := by decide +kernel
theorem dX6_becomeCaught_6 : decode cX6_becomeCaught 6 = .ok (.istore_n 3, 1) := by decide +kernel
theorem dX6_becomeCaught_7 : decode cX6_becomeCaught 7 = .ok (.iload_n 3, 1) := by decide +kernel
theorem dX6_becomeCaught_8 : decode cX6_becomeCaught 8 = .ok (.bipush 8, 2) := by decide +kernel
theorem dX6_becomeCaught_10 : decode cX6_becomeCaught 10 = .ok (.if_icmp .ge 25, 3) := by decide +kernel
theorem dX6_becomeCaught_13 : decode cX6_becomeCaught 13 = .ok (.aload_n 0, 1) := by decide +kernel
theorem dX6_becomeCaught_14 : decode cX6_becomeCaught 14 = .ok (.iload_n 3, 1) := by decide +kernel
theorem dX6_becomeCaught_15 : decode cX6_becomeCaught 15 = .ok (.invokevirtual 47, 3) := by decide +kernel
theorem dX6_becomeCaught_18 : decode cX6_becomeCaught 18 = .ok (.bipush 100, 2) := by decide +kernel
theorem dX6_becomeCaught_20 : decode cX6_becomeCaught 20 = .ok (.if_icmp .lt 9, 3) := by decide +kernel
theorem dX6_becomeCaught_23 : decode cX6_becomeCaught 23 = .ok (.aload_n 0, 1) := by decide +kernel
theorem dX6_becomeCaught_24 : decode cX6_becomeCaught 24 = .ok (.iload_n 3, 1) := by decide +kernel
theorem dX6_becomeCaught_25 : decode cX6_becomeCaught 25 = .ok (.iconst 0, 1) := by decide +kernel
theorem dX6_becomeCaught_26 : decode cX6_becomeCaught 26 = .ok (.invokevirtual 44, 3) := by decide +kernel
theorem dX6_becomeCaught_29 : decode cX6_becomeCaught 29 = .ok (.iinc 3 1, 3) := by decide +kernel
theorem dX6_becomeCaught_32 : decode cX6_becomeCaught 32 = .ok (.goto (-25), 3) := by decide +kernel
theorem dX6_becomeCaught_35 : decode cX6_becomeCaught 35 = .ok (.aload_n 0, 1) := by decide +kernel
theorem dX6_becomeCaught_36 : decode cX6_becomeCaught 36 = .ok (.iconst 0, 1) := by decide +kernel
theorem dX6_becomeCaught_37 : decode cX6_becomeCaught 37 = .ok (.putfield 18, 3) := by decide +kernel
theorem dX6_becomeCaught_40 : decode cX6_becomeCaught 40 = .ok (.aload_n 0, 1) := by decide +kernel
theorem dX6_becomeCaught_41 : decode cX6_becomeCaught 41 = .ok (.bipush 10, 2) := by decide +kernel
theorem dX6_becomeCaught_43 : decode cX6_becomeCaught 43 = .ok (.iload_n 2, 1) := by decide +kernel
theorem dX6_becomeCaught_44 : decode cX6_becomeCaught 44 = .ok (.iadd, 1) := by decide +kernel
theorem dX6_becomeCaught_45 : decode cX6_becomeCaught 45 = .ok (.invokevirtual 54, 3) := by decide +kernel
theorem dX6_becomeCaught_48 : decode cX6_becomeCaught 48 = .ok (.pop, 1) := by decide +kernel
theorem dX6_becomeCaught_49 : decode cX6_becomeCaught 49 = .ok (.return_, 1) := by decide +kernel
theorem dX6_answer_0 : decode cX6_answer 0 = .ok (.iload_n 1, 1) := by decide +kernel
theorem dX6_answer_1 : decode cX6_answer 1 = .ok (.invokestatic 57, 3) := by decide +kernel
theorem dX6_answer_4 : decode cX6_answer 4 = .ok (.ifCond .eq 9, 3) := by decide +kernel
theorem dX6_answer_7 : decode cX6_answer 7 = .ok (.aload_n 0, 1) := by decide +kernel
theorem dX6_answer_8 : decode cX6_answer 8 = .ok (.iload_n 1, 1) := by decide +kernel
theorem dX6_answer_9 : decode cX6_answer 9 = .ok (.invokevirtual 47, 3) := by decide +kernel
theorem dX6_answer_12 : decode cX6_answer 12 = .ok (.ireturn, 1) := by decide +kernel
theorem dX6_answer_13 : decode cX6_answer 13 = .ok (.iload_n 1, 1) := by decide +kernel
theorem dX6_answer_14 : decode cX6_answer 14 = .ok (.bipush 99, 2) := by decide +kernel
theorem dX6_answer_16 : decode cX6_answer 16 = .ok (.if_icmp .ne 8, 3) := by decide +kernel
theorem dX6_answer_19 : decode cX6_answer 19 = .ok (.aload_n 0, 1) := by decide +kernel
theorem dX6_answer_20 : decode cX6_answer 20 = .ok (.getfield 18, 3) := by decide +kernel
theorem dX6_answer_23 : decode cX6_answer 23 = .ok (.ireturn, 1) := by decide +kernel
theorem dX6_answer_24 : decode cX6_answer 24 = .ok (.iload_n 1, 1) := by decide +kernel
theorem dX6_answer_25 : decode cX6_answer 25 = .ok (.invokestatic 61, 3) := by decide +kernel
theorem dX6_answer_28 : decode cX6_answer 28 = .ok (.ifCond .eq 14, 3) := by decide +kernel
theorem dX6_answer_31 : decode cX6_answer 31 = .ok (.aload_n 0, 1) := by decide +kernel
theorem dX6_answer_32 : decode cX6_answer 32 = .ok (.iload_n 1, 1) := by decide +kernel
theorem dX6_answer_33 : decode cX6_answer 33 = .ok (.bipush 100, 2) := by decide +kernel
theorem dX6_answer_35 : decode cX6_answer 35 = .ok (.isub, 1) := by decide +kernel
theorem dX6_answer_36 : decode cX6_answer 36 = .ok (.invokevirtual 36, 3) := by decide +kernel
theorem dX6_answer_39 : decode cX6_answer 39 = .ok (.goto 4, 3) := by decide +kernel
theorem dX6_answer_42 : decode cX6_answer 42 = .ok (.iconst (-1), 1) := by decide +kernel
theorem dX6_answer_43 : decode cX6_answer 43 = .ok (.istore_n 2, 1) := by decide +kernel
theorem dX6_answer_44 : decode cX6_answer 44 = .ok (.iload_n 2, 1) := by decide +kernel
theorem dX6_answer_45 : decode cX6_answer 45 = .ok (.iconst (-1), 1) := by decide +kernel
theorem dX6_answer_46 : decode cX6_answer 46 = .ok (.if_icmp .ne 7, 3) := by decide +kernel
theorem dX6_answer_49 : decode cX6_answer 49 = .ok (.iconst (-1), 1) := by decide +kernel
theorem dX6_answer_50 : decode cX6_answer 50 = .ok (.goto 4, 3) := by decide +kernel
theorem dX6_answer_53 : decode cX6_answer 53 = .ok (.iload_n 2, 1) := by decide +kernel
theorem dX6_answer_54 : decode cX6_answer 54 = .ok (.ireturn, 1) := by decide +kernel
theorem dX6_end_0 : decode cX6_end 0 = .ok (.iconst 0, 1) := by decide +kernel
theorem dX6_end_1 : decode cX6_end 1 = .ok (.istore_n 1, 1) := by decide +kernel
theorem dX6_end_2 : decode cX6_end 2 = .ok (.iconst 0, 1) := by decide +kernel
theorem dX6_end_3 : decode cX6_end 3 = .ok (.istore_n 2, 1) := by decide +kernel
theorem dX6_end_4 : decode cX6_end 4 = .ok (.iload_n 2, 1) := by decide +kernel
theorem dX6_end_5 : decode cX6_end 5 = .ok (.bipush 8, 2) := by decide +kernel
theorem dX6_end_7 : decode cX6_end 7 = .ok (.if_icmp .ge 21, 3) := by decide +kernel
theorem dX6_end_10 : decode cX6_end 10 = .ok (.aload_n 0, 1) := by decide +kernel
theorem dX6_end_11 : decode cX6_end 11 = .ok (.iload_n 2, 1) := by decide +kernel
theorem dX6_end_12 : decode cX6_end 12 = .ok (.invokevirtual 47, 3) := by decide +kernel
theorem dX6_end_15 : decode cX6_end 15 = .ok (.ifCond .eq 7, 3) := by decide +kernel
theorem dX6_end_18 : decode cX6_end 18 = .ok (.iload_n 2, 1) := by decide +kernel
theorem dX6_end_19 : decode cX6_end 19 = .ok (.iconst 1, 1) := by decide +kernel
theorem dX6_end_20 : decode cX6_end 20 = .ok (.iadd, 1) := by decide +kernel
theorem dX6_end_21 : decode cX6_end 21 = .ok (.istore_n 1, 1) := by decide +kernel
theorem dX6_end_22 : decode cX6_end 22 = .ok (.iinc 2 1, 3) := by decide +kernel
theorem dX6_end_25 : decode cX6_end 25 = .ok (.goto (-21), 3) := by decide +kernel
theorem dX6_end_28 : decode cX6_end 28 = .ok (.iload_n 1, 1) := by decide +kernel
theorem dX6_end_29 : decode cX6_end 29 = .ok (.ireturn, 1) := by decide +kernel
theorem dX6_isLikeUpTo_0 : decode cX6_isLikeUpTo 0 = .ok (.iconst 0, 1) := by decide +kernel
theorem dX6_isLikeUpTo_1 : decode cX6_isLikeUpTo 1 = .ok (.istore_n 3, 1) := by decide +kernel
theorem dX6_isLikeUpTo_2 : decode cX6_isLikeUpTo 2 = .ok (.iload_n 3, 1) := by decide +kernel
theorem dX6_isLikeUpTo_3 : decode cX6_isLikeUpTo 3 = .ok (.iload_n 2, 1) := by decide +kernel
theorem dX6_isLikeUpTo_4 : decode cX6_isLikeUpTo 4 = .ok (.if_icmp .ge 24, 3) := by decide +kernel
theorem dX6_isLikeUpTo_7 : decode cX6_isLikeUpTo 7 = .ok (.aload_n 0, 1) := by decide +kernel
theorem dX6_isLikeUpTo_8 : decode cX6_isLikeUpTo 8 = .ok (.iload_n 3, 1) := by decide +kernel
theorem dX6_isLikeUpTo_9 : decode cX6_isLikeUpTo 9 = .ok (.invokevirtual 47, 3) := by decide +kernel
theorem dX6_isLikeUpTo_12 : decode cX6_isLikeUpTo 12 = .ok (.aload_n 1, 1) := by decide +kernel
theorem dX6_isLikeUpTo_13 : decode cX6_isLikeUpTo 13 = .ok (.iload_n 3, 1) := by decide +kernel
theorem dX6_isLikeUpTo_14 : decode cX6_isLikeUpTo 14 = .ok (.invokevirtual 47, 3) := by decide +kernel
theorem dX6_isLikeUpTo_17 : decode cX6_isLikeUpTo 17 = .ok (.if_icmp .eq 5, 3) := by decide +kernel
theorem dX6_isLikeUpTo_20 : decode cX6_isLikeUpTo 20 = .ok (.iconst 0, 1) := by decide +kernel
theorem dX6_isLikeUpTo_21 : decode cX6_isLikeUpTo 21 = .ok (.ireturn, 1) := by decide +kernel
theorem dX6_isLikeUpTo_22 : decode cX6_isLikeUpTo 22 = .ok (.iinc 3 1, 3) := by decide +kernel
theorem dX6_isLikeUpTo_25 : decode cX6_isLikeUpTo 25 = .ok (.goto (-23), 3) := by decide +kernel
theorem dX6_isLikeUpTo_28 : decode cX6_isLikeUpTo 28 = .ok (.iconst 1, 1) := by decide +kernel
theorem dX6_isLikeUpTo_29 : decode cX6_isLikeUpTo 29 = .ok (.ireturn, 1) := by decide +kernel
theorem dX6_countTold_0 : decode cX6_countTold 0 = .ok (.iconst 0, 1) := by decide +kernel
theorem dX6_countTold_1 : decode cX6_countTold 1 = .ok (.istore_n 3, 1) := by decide +kernel
theorem dX6_countTold_2 : decode cX6_countTold 2 = .ok (.iload_n 1, 1) := by decide +kernel
theorem dX6_countTold_3 : decode cX6_countTold 3 = .ok (.istore 4, 2) := by decide +kernel
theorem dX6_countTold_5 : decode cX6_countTold 5 = .ok (.iload 4, 2) := by decide +kernel
theorem dX6_countTold_7 : decode cX6_countTold 7 = .ok (.iload_n 2, 1) := by decide +kernel
theorem dX6_countTold_8 : decode cX6_countTold 8 = .ok (.if_icmp .ge 22, 3) := by decide +kernel
theorem dX6_countTold_11 : decode cX6_countTold 11 = .ok (.aload_n 0, 1) := by decide +kernel
theorem dX6_countTold_12 : decode cX6_countTold 12 = .ok (.iload 4, 2) := by decide +kernel
theorem dX6_countTold_14 : decode cX6_countTold 14 = .ok (.invokevirtual 47, 3) := by decide +kernel
theorem dX6_countTold_17 : decode cX6_countTold 17 = .ok (.iconst 3, 1) := by decide +kernel
theorem dX6_countTold_18 : decode cX6_countTold 18 = .ok (.if_icmp .eq 6, 3) := by decide +kernel
theorem dX6_countTold_21 : decode cX6_countTold 21 = .ok (.iinc 3 1, 3) := by decide +kernel
theorem dX6_countTold_24 : decode cX6_countTold 24 = .ok (.iinc 4 1, 3) := by decide +kernel
theorem dX6_countTold_27 : decode cX6_countTold 27 = .ok (.goto (-22), 3) := by decide +kernel
theorem dX6_countTold_30 : decode cX6_countTold 30 = .ok (.iload_n 3, 1) := by decide +kernel
theorem dX6_countTold_31 : decode cX6_countTold 31 = .ok (.ireturn, 1) := by decide +kernel
theorem dX6_formAgainst_0 : decode cX6_formAgainst 0 = .ok (.aload_n 0, 1) := by decide +kernel
theorem dX6_formAgainst_1 : decode cX6_formAgainst 1 = .ok (.invokevirtual 64, 3) := by decide +kernel
theorem dX6_formAgainst_4 : decode cX6_formAgainst 4 = .ok (.istore_n 2, 1) := by decide +kernel
theorem dX6_formAgainst_5 : decode cX6_formAgainst 5 = .ok (.aload_n 1, 1) := by decide +kernel
theorem dX6_formAgainst_6 : decode cX6_formAgainst 6 = .ok (.invokevirtual 64, 3) := by decide +kernel
theorem dX6_formAgainst_9 : decode cX6_formAgainst 9 = .ok (.istore_n 3, 1) := by decide +kernel
theorem dX6_formAgainst_10 : decode cX6_formAgainst 10 = .ok (.aload_n 0, 1) := by decide +kernel
theorem dX6_formAgainst_11 : decode cX6_formAgainst 11 = .ok (.aload_n 1, 1) := by decide +kernel
theorem dX6_formAgainst_12 : decode cX6_formAgainst 12 = .ok (.iload_n 2, 1) := by decide +kernel
theorem dX6_formAgainst_13 : decode cX6_formAgainst 13 = .ok (.iload_n 3, 1) := by decide +kernel
theorem dX6_formAgainst_14 : decode cX6_formAgainst 14 = .ok (.invokestatic 67, 3) := by decide +kernel
theorem dX6_formAgainst_17 : decode cX6_formAgainst 17 = .ok (.invokevirtual 73, 3) := by decide +kernel
theorem dX6_formAgainst_20 : decode cX6_formAgainst 20 = .ok (.ifCond .ne 6, 3) := by decide +kernel
theorem dX6_formAgainst_23 : decode cX6_formAgainst 23 = .ok (.bipush 40, 2) := by decide +kernel
theorem dX6_formAgainst_25 : decode cX6_formAgainst 25 = .ok (.ireturn, 1) := by decide +kernel
theorem dX6_formAgainst_26 : decode cX6_formAgainst 26 = .ok (.iload_n 2, 1) := by decide +kernel
theorem dX6_formAgainst_27 : decode cX6_formAgainst 27 = .ok (.iload_n 3, 1) := by decide +kernel
theorem dX6_formAgainst_28 : decode cX6_formAgainst 28 = .ok (.if_icmp .ne 13, 3) := by decide +kernel
theorem dX6_formAgainst_31 : decode cX6_formAgainst 31 = .ok (.aload_n 0, 1) := by decide +kernel
theorem dX6_formAgainst_32 : decode cX6_formAgainst 32 = .ok (.getfield 18, 3) := by decide +kernel
theorem dX6_formAgainst_35 : decode cX6_formAgainst 35 = .ok (.iconst 1, 1) := by decide +kernel
theorem dX6_formAgainst_36 : decode cX6_formAgainst 36 = .ok (.if_icmp .ne 5, 3) := by decide +kernel
theorem dX6_formAgainst_39 : decode cX6_formAgainst 39 = .ok (.iconst 1, 1) := by decide +kernel
theorem dX6_formAgainst_40 : decode cX6_formAgainst 40 = .ok (.ireturn, 1) := by decide +kernel
theorem dX6_formAgainst_41 : decode cX6_formAgainst 41 = .ok (.aload_n 0, 1) := by decide +kernel
theorem dX6_formAgainst_42 : decode cX6_formAgainst 42 = .ok (.getfield 18, 3) := by decide +kernel
theorem dX6_formAgainst_45 : decode cX6_formAgainst 45 = .ok (.ifCond .eq 6, 3) := by decide +kernel
theorem dX6_formAgainst_48 : decode cX6_formAgainst 48 = .ok (.bipush 40, 2) := by decide +kernel
theorem dX6_formAgainst_50 : decode cX6_formAgainst 50 = .ok (.ireturn, 1) := by decide +kernel
theorem dX6_formAgainst_51 : decode cX6_formAgainst 51 = .ok (.iload_n 2, 1) := by decide +kernel
theorem dX6_formAgainst_52 : decode cX6_formAgainst 52 = .ok (.iload_n 3, 1) := by decide +kernel
theorem dX6_formAgainst_53 : decode cX6_formAgainst 53 = .ok (.if_icmp .ne 5, 3) := by decide +kernel
theorem dX6_formAgainst_56 : decode cX6_formAgainst 56 = .ok (.iconst 0, 1) := by decide +kernel
theorem dX6_formAgainst_57 : decode cX6_formAgainst 57 = .ok (.ireturn, 1) := by decide +kernel
theorem dX6_formAgainst_58 : decode cX6_formAgainst 58 = .ok (.iload_n 2, 1) := by decide +kernel
theorem dX6_formAgainst_59 : decode cX6_formAgainst 59 = .ok (.iload_n 3, 1) := by decide +kernel
theorem dX6_formAgainst_60 : decode cX6_formAgainst 60 = .ok (.if_icmp .ge 7, 3) := by decide +kernel
theorem dX6_formAgainst_63 : decode cX6_formAgainst 63 = .ok (.iconst 1, 1) := by decide +kernel
theorem dX6_formAgainst_64 : decode cX6_formAgainst 64 = .ok (.goto 4, 3) := by decide +kernel
theorem dX6_formAgainst_67 : decode cX6_formAgainst 67 = .ok (.iconst 0, 1) := by decide +kernel
theorem dX6_formAgainst_68 : decode cX6_formAgainst 68 = .ok (.istore 4, 2) := by decide +kernel
theorem dX6_formAgainst_70 : decode cX6_formAgainst 70 = .ok (.iload 4, 2) := by decide +kernel
theorem dX6_formAgainst_72 : decode cX6_formAgainst 72 = .ok (.ifCond .eq 12, 3) := by decide +kernel
theorem dX6_formAgainst_75 : decode cX6_formAgainst 75 = .ok (.aload_n 1, 1) := by decide +kernel
theorem dX6_formAgainst_76 : decode cX6_formAgainst 76 = .ok (.iload_n 2, 1) := by decide +kernel
theorem dX6_formAgainst_77 : decode cX6_formAgainst 77 = .ok (.iload_n 3, 1) := by decide +kernel
theorem dX6_formAgainst_78 : decode cX6_formAgainst 78 = .ok (.invokevirtual 77, 3) := by decide +kernel
theorem dX6_formAgainst_81 : decode cX6_formAgainst 81 = .ok (.goto 9, 3) := by decide +kernel
theorem dX6_formAgainst_84 : decode cX6_formAgainst 84 = .ok (.aload_n 0, 1) := by decide +kernel
theorem dX6_formAgainst_85 : decode cX6_formAgainst 85 = .ok (.iload_n 3, 1) := by decide +kernel
theorem dX6_formAgainst_86 : decode cX6_formAgainst 86 = .ok (.iload_n 2, 1) := by decide +kernel
theorem dX6_formAgainst_87 : decode cX6_formAgainst 87 = .ok (.invokevirtual 77, 3) := by decide +kernel
theorem dX6_formAgainst_90 : decode cX6_formAgainst 90 = .ok (.istore 5, 2) := by decide +kernel
theorem dX6_formAgainst_92 : decode cX6_formAgainst 92 = .ok (.iload 5, 2) := by decide +kernel
theorem dX6_formAgainst_94 : decode cX6_formAgainst 94 = .ok (.iconst 3, 1) := by decide +kernel
theorem dX6_formAgainst_95 : decode cX6_formAgainst 95 = .ok (.if_icmp .le 6, 3) := by decide +kernel
theorem dX6_formAgainst_98 : decode cX6_formAgainst 98 = .ok (.bipush 40, 2) := by decide +kernel
theorem dX6_formAgainst_100 : decode cX6_formAgainst 100 = .ok (.ireturn, 1) := by decide +kernel
theorem dX6_formAgainst_101 : decode cX6_formAgainst 101 = .ok (.iload 4, 2) := by decide +kernel
theorem dX6_formAgainst_103 : decode cX6_formAgainst 103 = .ok (.ifCond .eq 8, 3) := by decide +kernel
theorem dX6_formAgainst_106 : decode cX6_formAgainst 106 = .ok (.bipush 20, 2) := by decide +kernel
theorem dX6_formAgainst_108 : decode cX6_formAgainst 108 = .ok (.goto 5, 3) := by decide +kernel
theorem dX6_formAgainst_111 : decode cX6_formAgainst 111 = .ok (.bipush 30, 2) := by decide +kernel
theorem dX6_formAgainst_113 : decode cX6_formAgainst 113 = .ok (.iload 5, 2) := by decide +kernel
theorem dX6_formAgainst_115 : decode cX6_formAgainst 115 = .ok (.iadd, 1) := by decide +kernel
theorem dX6_formAgainst_116 : decode cX6_formAgainst 116 = .ok (.ireturn, 1) := by decide +kernel
theorem dX7_init_0 : decode cX7_init 0 = .ok (.aload_n 0, 1) := by decide +kernel
theorem dX7_init_1 : decode cX7_init 1 = .ok (.invokespecial 3, 3) := by decide +kernel
theorem dX7_init_4 : decode cX7_init 4 = .ok (.aload_n 0, 1) := by decide +kernel
theorem dX7_init_5 : decode cX7_init 5 = .ok (.aload_n 1, 1) := by decide +kernel
theorem dX7_init_6 : decode cX7_init 6 = .ok (.putfield 9, 3) := by decide +kernel
theorem dX7_init_9 : decode cX7_init 9 = .ok (.return_, 1) := by decide +kernel
theorem dX7_perform_0 : decode cX7_perform 0 = .ok (.aload_n 3, 1) := by decide +kernel
theorem dX7_perform_1 : decode cX7_perform 1 = .ok (.getfield 15, 3) := by decide +kernel
theorem dX7_perform_4 : decode cX7_perform 4 = .ok (.tableswitch 322 0 20 #[100, 107, 114, 121, 133, 145, 160, 184, 192, 200, 210, 222, 240, 251, 322, 272, 272, 272, 280, 280, 291], 100) := by decide +kernel
theorem dX7_perform_104 : decode cX7_perform 104 = .ok (.aload 4, 2) := by decide +kernel
theorem dX7_perform_106 : decode cX7_perform 106 = .ok (.iconst 1, 1) := by decide +kernel
theorem dX7_perform_107 : decode cX7_perform 107 = .ok (.invokevirtual 21, 3) := by decide +kernel
theorem dX7_perform_110 : decode cX7_perform 110 = .ok (.ireturn, 1) := by decide +kernel
theorem dX7_perform_111 : decode cX7_perform 111 = .ok (.aload 4, 2) := by decide +kernel
theorem dX7_perform_113 : decode cX7_perform 113 = .ok (.iconst 2, 1) := by decide +kernel
theorem dX7_perform_114 : decode cX7_perform 114 = .ok (.invokevirtual 21, 3) := by decide +kernel
theorem dX7_perform_117 : decode cX7_perform 117 = .ok (.ireturn, 1) := by decide +kernel
theorem dX7_perform_118 : decode cX7_perform 118 = .ok (.aload 4, 2) := by decide +kernel
theorem dX7_perform_120 : decode cX7_perform 120 = .ok (.iconst 4, 1) := by decide +kernel
theorem dX7_perform_121 : decode cX7_perform 121 = .ok (.invokevirtual 21, 3) := by decide +kernel
theorem dX7_perform_124 : decode cX7_perform 124 = .ok (.ireturn, 1) := by decide +kernel
theorem dX7_perform_125 : decode cX7_perform 125 = .ok (.aload_n 0, 1) := by decide +kernel
theorem dX7_perform_126 : decode cX7_perform 126 = .ok (.aload_n 1, 1) := by decide +kernel
theorem dX7_perform_127 : decode cX7_perform 127 = .ok (.aload_n 3, 1) := by decide +kernel
theorem dX7_perform_128 : decode cX7_perform 128 = .ok (.getfield 27, 3) := by decide +kernel
theorem dX7_perform_131 : decode cX7_perform 131 = .ok (.aload 4, 2) := by decide +kernel
theorem dX7_perform_133 : decode cX7_perform 133 = .ok (.invokevirtual 30, 3) := by decide +kernel
theorem dX7_perform_136 : decode cX7_perform 136 = .ok (.ireturn, 1) := by decide +kernel
theorem dX7_perform_137 : decode cX7_perform 137 = .ok (.aload_n 0, 1) := by decide +kernel
theorem dX7_perform_138 : decode cX7_perform 138 = .ok (.aload_n 1, 1) := by decide +kernel
theorem dX7_perform_139 : decode cX7_perform 139 = .ok (.aload_n 3, 1) := by decide +kernel
theorem dX7_perform_140 : decode cX7_perform 140 = .ok (.getfield 27, 3) := by decide +kernel
theorem dX7_perform_143 : decode cX7_perform 143 = .ok (.aload 4, 2) := by decide +kernel
theorem dX7_perform_145 : decode cX7_perform 145 = .ok (.invokevirtual 34, 3) := by decide +kernel
theorem dX7_perform_148 : decode cX7_perform 148 = .ok (.ireturn, 1) := by decide +kernel
theorem dX7_perform_149 : decode cX7_perform 149 = .ok (.aload 4, 2) := by decide +kernel
theorem dX7_perform_151 : decode cX7_perform 151 = .ok (.invokevirtual 37, 3) := by decide +kernel
theorem dX7_perform_154 : decode cX7_perform 154 = .ok (.iconst (-1), 1) := by decide +kernel
theorem dX7_perform_155 : decode cX7_perform 155 = .ok (.if_icmp .ne 7, 3) := by decide +kernel
theorem dX7_perform_158 : decode cX7_perform 158 = .ok (.iconst 1, 1) := by decide +kernel
theorem dX7_perform_159 : decode cX7_perform 159 = .ok (.goto 4, 3) := by decide +kernel
theorem dX7_perform_162 : decode cX7_perform 162 = .ok (.iconst 0, 1) := by decide +kernel
theorem dX7_perform_163 : decode cX7_perform 163 = .ok (.ireturn, 1) := by decide +kernel
theorem dX7_perform_164 : decode cX7_perform 164 = .ok (.aload 4, 2) := by decide +kernel
theorem dX7_perform_166 : decode cX7_perform 166 = .ok (.invokevirtual 41, 3) := by decide +kernel
theorem dX7_perform_169 : decode cX7_perform 169 = .ok (.iconst (-1), 1) := by decide +kernel
theorem dX7_perform_170 : decode cX7_perform 170 = .ok (.if_icmp .ne 7, 3) := by decide +kernel
theorem dX7_perform_173 : decode cX7_perform 173 = .ok (.iconst 1, 1) := by decide +kernel
theorem dX7_perform_174 : decode cX7_perform 174 = .ok (.goto 13, 3) := by decide +kernel
theorem dX7_perform_177 : decode cX7_perform 177 = .ok (.aload 4, 2) := by decide +kernel
theorem dX7_perform_179 : decode cX7_perform 179 = .ok (.aload 4, 2) := by decide +kernel
theorem dX7_perform_181 : decode cX7_perform 181 = .ok (.invokevirtual 41, 3) := by decide +kernel
theorem dX7_perform_184 : decode cX7_perform 184 = .ok (.invokevirtual 21, 3) := by decide +kernel
theorem dX7_perform_187 : decode cX7_perform 187 = .ok (.ireturn, 1) := by decide +kernel
theorem dX7_perform_188 : decode cX7_perform 188 = .ok (.aload_n 0, 1) := by decide +kernel
theorem dX7_perform_189 : decode cX7_perform 189 = .ok (.aload 4, 2) := by decide +kernel
theorem dX7_perform_191 : decode cX7_perform 191 = .ok (.iconst 1, 1) := by decide +kernel
theorem dX7_perform_192 : decode cX7_perform 192 = .ok (.invokevirtual 44, 3) := by decide +kernel
theorem dX7_perform_195 : decode cX7_perform 195 = .ok (.ireturn, 1) := by decide +kernel
theorem dX7_perform_196 : decode cX7_perform 196 = .ok (.aload_n 0, 1) := by decide +kernel
theorem dX7_perform_197 : decode cX7_perform 197 = .ok (.aload 4, 2) := by decide +kernel
theorem dX7_perform_199 : decode cX7_perform 199 = .ok (.iconst 2, 1) := by decide +kernel
theorem dX7_perform_200 : decode cX7_perform 200 = .ok (.invokevirtual 44, 3) := by decide +kernel
theorem dX7_perform_203 : decode cX7_perform 203 = .ok (.ireturn, 1) := by decide +kernel
theorem dX7_perform_204 : decode cX7_perform 204 = .ok (.aload 4, 2) := by decide +kernel
theorem dX7_perform_206 : decode cX7_perform 206 = .ok (.bipush 100, 2) := by decide +kernel
theorem dX7_perform_208 : decode cX7_perform 208 = .ok (.iload_n 2, 1) := by decide +kernel
theorem dX7_perform_209 : decode cX7_perform 209 = .ok (.iadd, 1) := by decide +kernel
theorem dX7_perform_210 : decode cX7_perform 210 = .ok (.invokevirtual 21, 3) := by decide +kernel
theorem dX7_perform_213 : decode cX7_perform 213 = .ok (.ireturn, 1) := by decide +kernel
theorem dX7_perform_214 : decode cX7_perform 214 = .ok (.aload_n 0, 1) := by decide +kernel
theorem dX7_perform_215 : decode cX7_perform 215 = .ok (.aload_n 1, 1) := by decide +kernel
theorem dX7_perform_216 : decode cX7_perform 216 = .ok (.aload_n 3, 1) := by decide +kernel
theorem dX7_perform_217 : decode cX7_perform 217 = .ok (.getfield 27, 3) := by decide +kernel
theorem dX7_perform_220 : decode cX7_perform 220 = .ok (.aload 4, 2) := by decide +kernel
theorem dX7_perform_222 : decode cX7_perform 222 = .ok (.invokevirtual 48, 3) := by decide +kernel
theorem dX7_perform_225 : decode cX7_perform 225 = .ok (.ireturn, 1) := by decide +kernel
theorem dX7_perform_226 : decode cX7_perform 226 = .ok (.aload_n 0, 1) := by decide +kernel
theorem dX7_perform_227 : decode cX7_perform 227 = .ok (.aload_n 0, 1) := by decide +kernel
theorem dX7_perform_228 : decode cX7_perform 228 = .ok (.aload 4, 2) := by decide +kernel
theorem dX7_perform_230 : decode cX7_perform 230 = .ok (.aload_n 3, 1) := by decide +kernel
theorem dX7_perform_231 : decode cX7_perform 231 = .ok (.getfield 27, 3) := by decide +kernel
theorem dX7_perform_234 : decode cX7_perform 234 = .ok (.invokevirtual 51, 3) := by decide +kernel
theorem dX7_perform_237 : decode cX7_perform 237 = .ok (.aload 4, 2) := by decide +kernel
theorem dX7_perform_239 : decode cX7_perform 239 = .ok (.iconst 1, 1) := by decide +kernel
theorem dX7_perform_240 : decode cX7_perform 240 = .ok (.invokevirtual 54, 3) := by decide +kernel
theorem dX7_perform_243 : decode cX7_perform 243 = .ok (.ireturn, 1) := by decide +kernel
theorem dX7_perform_244 : decode cX7_perform 244 = .ok (.aload_n 0, 1) := by decide +kernel
theorem dX7_perform_245 : decode cX7_perform 245 = .ok (.aload 4, 2) := by decide +kernel
theorem dX7_perform_247 : decode cX7_perform 247 = .ok (.aload_n 3, 1) := by decide +kernel
theorem dX7_perform_248 : decode cX7_perform 248 = .ok (.getfield 27, 3) := by decide +kernel
theorem dX7_perform_251 : decode cX7_perform 251 = .ok (.invokevirtual 58, 3) := by decide +kernel
theorem dX7_perform_254 : decode cX7_perform 254 = .ok (.ireturn, 1) := by decide +kernel
theorem dX7_perform_255 : decode cX7_perform 255 = .ok (.aload_n 0, 1) := by decide +kernel
theorem dX7_perform_256 : decode cX7_perform 256 = .ok (.aload_n 0, 1) := by decide +kernel
theorem dX7_perform_257 : decode cX7_perform 257 = .ok (.aload 4, 2) := by decide +kernel
theorem dX7_perform_259 : decode cX7_perform 259 = .ok (.iconst 0, 1) := by decide +kernel
theorem dX7_perform_260 : decode cX7_perform 260 = .ok (.invokevirtual 51, 3) := by decide +kernel
theorem dX7_perform_263 : decode cX7_perform 263 = .ok (.aload 4, 2) := by decide +kernel
theorem dX7_perform_265 : decode cX7_perform 265 = .ok (.bipush 10, 2) := by decide +kernel
theorem dX7_perform_267 : decode cX7_perform 267 = .ok (.aload_n 3, 1) := by decide +kernel
theorem dX7_perform_268 : decode cX7_perform 268 = .ok (.getfield 27, 3) := by decide +kernel
theorem dX7_perform_271 : decode cX7_perform 271 = .ok (.iadd, 1) := by decide +kernel
theorem dX7_perform_272 : decode cX7_perform 272 = .ok (.invokevirtual 54, 3) := by decide +kernel
theorem dX7_perform_275 : decode cX7_perform 275 = .ok (.ireturn, 1) := by decide +kernel
theorem dX7_perform_276 : decode cX7_perform 276 = .ok (.aload_n 0, 1) := by decide +kernel
theorem dX7_perform_277 : decode cX7_perform 277 = .ok (.aload 4, 2) := by decide +kernel
theorem dX7_perform_279 : decode cX7_perform 279 = .ok (.iconst 1, 1) := by decide +kernel
theorem dX7_perform_280 : decode cX7_perform 280 = .ok (.invokevirtual 61, 3) := by decide +kernel
theorem dX7_perform_283 : decode cX7_perform 283 = .ok (.ireturn, 1) := by decide +kernel
theorem dX7_perform_284 : decode cX7_perform 284 = .ok (.aload_n 0, 1) := by decide +kernel
theorem dX7_perform_285 : decode cX7_perform 285 = .ok (.aload 4, 2) := by decide +kernel
theorem dX7_perform_287 : decode cX7_perform 287 = .ok (.aload_n 3, 1) := by decide +kernel
theorem dX7_perform_288 : decode cX7_perform 288 = .ok (.getfield 27, 3) := by decide +kernel
theorem dX7_perform_291 : decode cX7_perform 291 = .ok (.invokevirtual 51, 3) := by decide +kernel
theorem dX7_perform_294 : decode cX7_perform 294 = .ok (.ireturn, 1) := by decide +kernel
theorem dX7_perform_295 : decode cX7_perform 295 = .ok (.aload_n 1, 1) := by decide +kernel
theorem dX7_perform_296 : decode cX7_perform 296 = .ok (.aload_n 3, 1) := by decide +kernel
theorem dX7_perform_297 : decode cX7_perform 297 = .ok (.getfield 27, 3) := by decide +kernel
theorem dX7_perform_300 : decode cX7_perform 300 = .ok (.invokevirtual 64, 3) := by decide +kernel
theorem dX7_perform_303 : decode cX7_perform 303 = .ok (.ifCond .eq 20, 3) := by decide +kernel
theorem dX7_perform_306 : decode cX7_perform 306 = .ok (.aload 4, 2) := by decide +kernel
theorem dX7_perform_308 : decode cX7_perform 308 = .ok (.aload_n 3, 1) := by decide +kernel
theorem dX7_perform_309 : decode cX7_perform 309 = .ok (.getfield 27, 3) := by decide +kernel
theorem dX7_perform_312 : decode cX7_perform 312 = .ok (.invokevirtual 70, 3) := by decide +kernel
theorem dX7_perform_315 : decode cX7_perform 315 = .ok (.iconst 1, 1) := by decide +kernel
theorem dX7_perform_316 : decode cX7_perform 316 = .ok (.if_icmp .ne 7, 3) := by decide +kernel
theorem dX7_perform_319 : decode cX7_perform 319 = .ok (.iconst 0, 1) := by decide +kernel
theorem dX7_perform_320 : decode cX7_perform 320 = .ok (.goto 5, 3) := by decide +kernel
theorem dX7_perform_323 : decode cX7_perform 323 = .ok (.bipush 7, 2) := by decide +kernel
theorem dX7_perform_325 : decode cX7_perform 325 = .ok (.ireturn, 1) := by decide +kernel
theorem dX7_perform_326 : decode cX7_perform 326 = .ok (.iconst 0, 1) := by decide +kernel
theorem dX7_perform_327 : decode cX7_perform 327 = .ok (.ireturn, 1) := by decide +kernel
theorem dX7_load_0 : decode cX7_load 0 = .ok (.aload_n 3, 1) := by decide +kernel
theorem dX7_load_1 : decode cX7_load 1 = .ok (.iload_n 2, 1) := by decide +kernel
theorem dX7_load_2 : decode cX7_load 2 = .ok (.invokevirtual 70, 3) := by decide +kernel
theorem dX7_load_5 : decode cX7_load 5 = .ok (.istore 4, 2) := by decide +kernel
theorem dX7_load_7 : decode cX7_load 7 = .ok (.aload_n 1, 1) := by decide +kernel
theorem dX7_load_8 : decode cX7_load 8 = .ok (.iload_n 2, 1) := by decide +kernel
theorem dX7_load_9 : decode cX7_load 9 = .ok (.invokevirtual 64, 3) := by decide +kernel
theorem dX7_load_12 : decode cX7_load 12 = .ok (.ifCond .eq 14, 3) := by decide +kernel
theorem dX7_load_15 : decode cX7_load 15 = .ok (.iload 4, 2) := by decide +kernel
theorem dX7_load_17 : decode cX7_load 17 = .ok (.ifCond .eq 9, 3) := by decide +kernel
theorem dX7_load_20 : decode cX7_load 20 = .ok (.iload 4, 2) := by decide +kernel
theorem dX7_load_22 : decode cX7_load 22 = .ok (.iconst 3, 1) := by decide +kernel
theorem dX7_load_23 : decode cX7_load 23 = .ok (.if_icmp .ne 6, 3) := by decide +kernel
theorem dX7_load_26 : decode cX7_load 26 = .ok (.bipush 7, 2) := by decide +kernel
theorem dX7_load_28 : decode cX7_load 28 = .ok (.ireturn, 1) := by decide +kernel
theorem dX7_load_29 : decode cX7_load 29 = .ok (.aload_n 3, 1) := by decide +kernel
theorem dX7_load_30 : decode cX7_load 30 = .ok (.iload 4, 2) := by decide +kernel
theorem dX7_load_32 : decode cX7_load 32 = .ok (.invokevirtual 21, 3) := by decide +kernel
theorem dX7_load_35 : decode cX7_load 35 = .ok (.ireturn, 1) := by decide +kernel
theorem dX7_store_0 : decode cX7_store 0 = .ok (.aload_n 1, 1) := by decide +kernel
theorem dX7_store_1 : decode cX7_store 1 = .ok (.iload_n 2, 1) := by decide +kernel
theorem dX7_store_2 : decode cX7_store 2 = .ok (.invokevirtual 64, 3) := by decide +kernel
theorem dX7_store_5 : decode cX7_store 5 = .ok (.ifCond .ne 6, 3) := by decide +kernel
theorem dX7_store_8 : decode cX7_store 8 = .ok (.bipush 7, 2) := by decide +kernel
theorem dX7_store_10 : decode cX7_store 10 = .ok (.ireturn, 1) := by decide +kernel
theorem dX7_store_11 : decode cX7_store 11 = .ok (.aload_n 3, 1) := by decide +kernel
theorem dX7_store_12 : decode cX7_store 12 = .ok (.invokevirtual 37, 3) := by decide +kernel
theorem dX7_store_15 : decode cX7_store 15 = .ok (.istore 4, 2) := by decide +kernel
theorem dX7_store_17 : decode cX7_store 17 = .ok (.iload 4, 2) := by decide +kernel
theorem dX7_store_19 : decode cX7_store 19 = .ok (.iconst (-1), 1) := by decide +kernel
theorem dX7_store_20 : decode cX7_store 20 = .ok (.if_icmp .ne 5, 3) := by decide +kernel
theorem dX7_store_23 : decode cX7_store 23 = .ok (.iconst 1, 1) := by decide +kernel
theorem dX7_store_24 : decode cX7_store 24 = .ok (.ireturn, 1) := by decide +kernel
theorem dX7_store_25 : decode cX7_store 25 = .ok (.iload 4, 2) := by decide +kernel
theorem dX7_store_27 : decode cX7_store 27 = .ok (.iconst 2, 1) := by decide +kernel
theorem dX7_store_28 : decode cX7_store 28 = .ok (.if_icmp .ne 16, 3) := by decide +kernel
theorem dX7_store_31 : decode cX7_store 31 = .ok (.aload_n 1, 1) := by decide +kernel
theorem dX7_store_32 : decode cX7_store 32 = .ok (.iload_n 2, 1) := by decide +kernel
theorem dX7_store_33 : decode cX7_store 33 = .ok (.iconst 1, 1) := by decide +kernel
theorem dX7_store_34 : decode cX7_store 34 = .ok (.iadd, 1) := by decide +kernel
theorem dX7_store_35 : decode cX7_store 35 = .ok (.invokevirtual 64, 3) := by decide +kernel
theorem dX7_store_38 : decode cX7_store 38 = .ok (.ifCond .ne 6, 3) := by decide +kernel
theorem dX7_store_41 : decode cX7_store 41 = .ok (.bipush 7, 2) := by decide +kernel
theorem dX7_store_43 : decode cX7_store 43 = .ok (.ireturn, 1) := by decide +kernel
theorem dX7_store_44 : decode cX7_store 44 = .ok (.aload_n 3, 1) := by decide +kernel
theorem dX7_store_45 : decode cX7_store 45 = .ok (.iload_n 2, 1) := by decide +kernel
theorem dX7_store_46 : decode cX7_store 46 = .ok (.iload 4, 2) := by decide +kernel
theorem dX7_store_48 : decode cX7_store 48 = .ok (.invokevirtual 73, 3) := by decide +kernel
theorem dX7_store_51 : decode cX7_store 51 = .ok (.iconst 0, 1) := by decide +kernel
theorem dX7_store_52 : decode cX7_store 52 = .ok (.ireturn, 1) := by decide +kernel
theorem dX7_take_0 : decode cX7_take 0 = .ok (.aload_n 1, 1) := by decide +kernel
theorem dX7_take_1 : decode cX7_take 1 = .ok (.invokevirtual 37, 3) := by decide +kernel
theorem dX7_take_4 : decode cX7_take 4 = .ok (.istore_n 3, 1) := by decide +kernel
theorem dX7_take_5 : decode cX7_take 5 = .ok (.iload_n 3, 1) := by decide +kernel
theorem dX7_take_6 : decode cX7_take 6 = .ok (.iconst (-1), 1) := by decide +kernel
theorem dX7_take_7 : decode cX7_take 7 = .ok (.if_icmp .ne 5, 3) := by decide +kernel
theorem dX7_take_10 : decode cX7_take 10 = .ok (.iconst 1, 1) := by decide +kernel
theorem dX7_take_11 : decode cX7_take 11 = .ok (.ireturn, 1) := by decide +kernel
theorem dX7_take_12 : decode cX7_take 12 = .ok (.iload_n 3, 1) := by decide +kernel
theorem dX7_take_13 : decode cX7_take 13 = .ok (.iload_n 2, 1) := by decide +kernel
theorem dX7_take_14 : decode cX7_take 14 = .ok (.if_icmp .ne 7, 3) := by decide +kernel
theorem dX7_take_17 : decode cX7_take 17 = .ok (.iconst 0, 1) := by decide +kernel
theorem dX7_take_18 : decode cX7_take 18 = .ok (.goto 4, 3) := by decide +kernel
theorem dX7_take_21 : decode cX7_take 21 = .ok (.iconst 2, 1) := by decide +kernel
theorem dX7_take_22 : decode cX7_take 22 = .ok (.ireturn, 1) := by decide +kernel
theorem dX7_takeObject_0 : decode cX7_takeObject 0 = .ok (.aload_n 1, 1) := by decide +kernel
theorem dX7_takeObject_1 : decode cX7_takeObject 1 = .ok (.invokevirtual 37, 3) := by decide +kernel
theorem dX7_takeObject_4 : decode cX7_takeObject 4 = .ok (.istore_n 3, 1) := by decide +kernel
theorem dX7_takeObject_5 : decode cX7_takeObject 5 = .ok (.iload_n 3, 1) := by decide +kernel
theorem dX7_takeObject_6 : decode cX7_takeObject 6 = .ok (.iconst (-1), 1) := by decide +kernel
theorem dX7_takeObject_7 : decode cX7_takeObject 7 = .ok (.if_icmp .ne 5, 3) := by decide +kernel
theorem dX7_takeObject_10 : decode cX7_takeObject 10 = .ok (.iconst 1, 1) := by decide +kernel
theorem dX7_takeObject_11 : decode cX7_takeObject 11 = .ok (.ireturn, 1) := by decide +kernel
theorem dX7_takeObject_12 : decode cX7_takeObject 12 = .ok (.aload_n 0, 1) := by decide +kernel
theorem dX7_takeObject_13 : decode cX7_takeObject 13 = .ok (.getfield 9, 3) := by decide +kernel
theorem dX7_takeObject_16 : decode cX7_takeObject 16 = .ok (.iload_n 3, 1) := by decide +kernel
theorem dX7_takeObject_17 : decode cX7_takeObject 17 = .ok (.iload_n 2, 1) := by decide +kernel
theorem dX7_takeObject_18 : decode cX7_takeObject 18 = .ok (.invokevirtual 76, 3) := by decide +kernel
theorem dX7_takeObject_21 : decode cX7_takeObject 21 = .ok (.ifCond .eq 7, 3) := by decide +kernel
theorem dX7_takeObject_24 : decode cX7_takeObject 24 = .ok (.iconst 0, 1) := by decide +kernel
theorem dX7_takeObject_25 : decode cX7_takeObject 25 = .ok (.goto 4, 3) := by decide +kernel
theorem dX7_takeObject_28 : decode cX7_takeObject 28 = .ok (.iconst 2, 1) := by decide +kernel
theorem dX7_takeObject_29 : decode cX7_takeObject 29 = .ok (.ireturn, 1) := by decide +kernel
theorem dX7_pushUnless_0 : decode cX7_pushUnless 0 = .ok (.iload_n 1, 1) := by decide +kernel
theorem dX7_pushUnless_1 : decode cX7_pushUnless 1 = .ok (.ifCond .ne 11, 3) := by decide +kernel
theorem dX7_pushUnless_4 : decode cX7_pushUnless 4 = .ok (.aload_n 2, 1) := by decide +kernel
theorem dX7_pushUnless_5 : decode cX7_pushUnless 5 = .ok (.iload_n 3, 1) := by decide +kernel
theorem dX7_pushUnless_6 : decode cX7_pushUnless 6 = .ok (.invokevirtual 21, 3) := by decide +kernel
theorem dX7_pushUnless_9 : decode cX7_pushUnless 9 = .ok (.goto 4, 3) := by decide +kernel
theorem dX7_pushUnless_12 : decode cX7_pushUnless 12 = .ok (.iload_n 1, 1) := by decide +kernel
theorem dX7_pushUnless_13 : decode cX7_pushUnless 13 = .ok (.ireturn, 1) := by decide +kernel
theorem dX7_add_0 : decode cX7_add 0 = .ok (.aload_n 0, 1) := by decide +kernel
theorem dX7_add_1 : decode cX7_add 1 = .ok (.aload_n 1, 1) := by decide +kernel
theorem dX7_add_2 : decode cX7_add 2 = .ok (.iload_n 2, 1) := by decide +kernel
theorem dX7_add_3 : decode cX7_add 3 = .ok (.invokevirtual 61, 3) := by decide +kernel
theorem dX7_add_6 : decode cX7_add 6 = .ok (.istore_n 3, 1) := by decide +kernel
theorem dX7_add_7 : decode cX7_add 7 = .ok (.iload_n 3, 1) := by decide +kernel
theorem dX7_add_8 : decode cX7_add 8 = .ok (.ifCond .ne 10, 3) := by decide +kernel
theorem dX7_add_11 : decode cX7_add 11 = .ok (.aload_n 0, 1) := by decide +kernel
theorem dX7_add_12 : decode cX7_add 12 = .ok (.aload_n 1, 1) := by decide +kernel
theorem dX7_add_13 : decode cX7_add 13 = .ok (.iload_n 2, 1) := by decide +kernel
theorem dX7_add_14 : decode cX7_add 14 = .ok (.invokevirtual 61, 3) := by decide +kernel
theorem dX7_add_17 : decode cX7_add 17 = .ok (.istore_n 3, 1) := by decide +kernel
theorem dX7_add_18 : decode cX7_add 18 = .ok (.aload_n 0, 1) := by decide +kernel
theorem dX7_add_19 : decode cX7_add 19 = .ok (.iload_n 3, 1) := by decide +kernel
theorem dX7_add_20 : decode cX7_add 20 = .ok (.aload_n 1, 1) := by decide +kernel
theorem dX7_add_21 : decode cX7_add 21 = .ok (.iload_n 2, 1) := by decide +kernel
theorem dX7_add_22 : decode cX7_add 22 = .ok (.invokevirtual 54, 3) := by decide +kernel
theorem dX7_add_25 : decode cX7_add 25 = .ok (.ireturn, 1) := by decide +kernel
theorem dX7_callOn_0 : decode cX7_callOn 0 = .ok (.aload_n 0, 1) := by decide +kernel
theorem dX7_callOn_1 : decode cX7_callOn 1 = .ok (.aload_n 1, 1) := by decide +kernel
theorem dX7_callOn_2 : decode cX7_callOn 2 = .ok (.iconst 1, 1) := by decide +kernel
theorem dX7_callOn_3 : decode cX7_callOn 3 = .ok (.invokevirtual 61, 3) := by decide +kernel
theorem dX7_callOn_6 : decode cX7_callOn 6 = .ok (.istore_n 3, 1) := by decide +kernel
theorem dX7_callOn_7 : decode cX7_callOn 7 = .ok (.iload_n 3, 1) := by decide +kernel
theorem dX7_callOn_8 : decode cX7_callOn 8 = .ok (.ifCond .ne 10, 3) := by decide +kernel
theorem dX7_callOn_11 : decode cX7_callOn 11 = .ok (.aload_n 0, 1) := by decide +kernel
theorem dX7_callOn_12 : decode cX7_callOn 12 = .ok (.aload_n 1, 1) := by decide +kernel
theorem dX7_callOn_13 : decode cX7_callOn 13 = .ok (.iload_n 2, 1) := by decide +kernel
theorem dX7_callOn_14 : decode cX7_callOn 14 = .ok (.invokevirtual 51, 3) := by decide +kernel
theorem dX7_callOn_17 : decode cX7_callOn 17 = .ok (.istore_n 3, 1) := by decide +kernel
theorem dX7_callOn_18 : decode cX7_callOn 18 = .ok (.aload_n 0, 1) := by decide +kernel
theorem dX7_callOn_19 : decode cX7_callOn 19 = .ok (.iload_n 3, 1) := by decide +kernel
theorem dX7_callOn_20 : decode cX7_callOn 20 = .ok (.aload_n 1, 1) := by decide +kernel
theorem dX7_callOn_21 : decode cX7_callOn 21 = .ok (.bipush 10, 2) := by decide +kernel
theorem dX7_callOn_23 : decode cX7_callOn 23 = .ok (.iload_n 2, 1) := by decide +kernel
theorem dX7_callOn_24 : decode cX7_callOn 24 = .ok (.iadd, 1) := by decide +kernel
theorem dX7_callOn_25 : decode cX7_callOn 25 = .ok (.invokevirtual 54, 3) := by decide +kernel
theorem dX7_callOn_28 : decode cX7_callOn 28 = .ok (.ireturn, 1) := by decide +kernel
theorem dX7_make_0 : decode cX7_make 0 = .ok (.aload_n 3, 1) := by decide +kernel
theorem dX7_make_1 : decode cX7_make 1 = .ok (.invokevirtual 37, 3) := by decide +kernel
theorem dX7_make_4 : decode cX7_make 4 = .ok (.istore 4, 2) := by decide +kernel
theorem dX7_make_6 : decode cX7_make 6 = .ok (.iload 4, 2) := by decide +kernel
theorem dX7_make_8 : decode cX7_make 8 = .ok (.iconst (-1), 1) := by decide +kernel
theorem dX7_make_9 : decode cX7_make 9 = .ok (.if_icmp .ne 5, 3) := by decide +kernel
theorem dX7_make_12 : decode cX7_make 12 = .ok (.iconst 1, 1) := by decide +kernel
theorem dX7_make_13 : decode cX7_make 13 = .ok (.ireturn, 1) := by decide +kernel
theorem dX7_make_14 : decode cX7_make 14 = .ok (.aload_n 1, 1) := by decide +kernel
theorem dX7_make_15 : decode cX7_make 15 = .ok (.iload 4, 2) := by decide +kernel
theorem dX7_make_17 : decode cX7_make 17 = .ok (.iload_n 2, 1) := by decide +kernel
theorem dX7_make_18 : decode cX7_make 18 = .ok (.invokevirtual 82, 3) := by decide +kernel
theorem dX7_make_21 : decode cX7_make 21 = .ok (.ifCond .ne 5, 3) := by decide +kernel
theorem dX7_make_24 : decode cX7_make 24 = .ok (.iconst 2, 1) := by decide +kernel
theorem dX7_make_25 : decode cX7_make 25 = .ok (.ireturn, 1) := by decide +kernel
theorem dX7_make_26 : decode cX7_make 26 = .ok (.aload_n 3, 1) := by decide +kernel
theorem dX7_make_27 : decode cX7_make 27 = .ok (.iload 4, 2) := by decide +kernel
theorem dX7_make_29 : decode cX7_make 29 = .ok (.bipush 10, 2) := by decide +kernel
theorem dX7_make_31 : decode cX7_make 31 = .ok (.iload_n 2, 1) := by decide +kernel
theorem dX7_make_32 : decode cX7_make 32 = .ok (.iadd, 1) := by decide +kernel
theorem dX7_make_33 : decode cX7_make 33 = .ok (.invokevirtual 85, 3) := by decide +kernel
theorem dX7_make_36 : decode cX7_make 36 = .ok (.iconst 0, 1) := by decide +kernel
theorem dX7_make_37 : decode cX7_make 37 = .ok (.ireturn, 1) := by decide +kernel
theorem dX8_init_0 : decode cX8_init 0 = .ok (.aload_n 0, 1) := by decide +kernel
theorem dX8_init_1 : decode cX8_init 1 = .ok (.invokespecial 1, 3) := by decide +kernel
theorem dX8_init_4 : decode cX8_init 4 = .ok (.aload_n 0, 1) := by decide +kernel
theorem dX8_init_5 : decode cX8_init 5 = .ok (.new 7, 3) := by decide +kernel
theorem dX8_init_8 : decode cX8_init 8 = .ok (.dup, 1) := by decide +kernel
theorem dX8_init_9 : decode cX8_init 9 = .ok (.invokespecial 9, 3) := by decide +kernel
theorem dX8_init_12 : decode cX8_init 12 = .ok (.putfield 10, 3) := by decide +kernel
theorem dX8_init_15 : decode cX8_init 15 = .ok (.aload_n 0, 1) := by decide +kernel
theorem dX8_init_16 : decode cX8_init 16 = .ok (.bipush 8, 2) := by decide +kernel
theorem dX8_init_18 : decode cX8_init 18 = .ok (.anewarray 16, 3) := by decide +kernel
theorem dX8_init_21 : decode cX8_init 21 = .ok (.putfield 18, 3) := by decide +kernel
theorem dX8_init_24 : decode cX8_init 24 = .ok (.iconst 0, 1) := by decide +kernel
theorem dX8_init_25 : decode cX8_init 25 = .ok (.istore_n 1, 1) := by decide +kernel
theorem dX8_init_26 : decode cX8_init 26 = .ok (.iload_n 1, 1) := by decide +kernel
theorem dX8_init_27 : decode cX8_init 27 = .ok (.bipush 8, 2) := by decide +kernel
theorem dX8_init_29 : decode cX8_init 29 = .ok (.if_icmp .ge 22, 3) := by decide +kernel
theorem dX8_init_32 : decode cX8_init 32 = .ok (.aload_n 0, 1) := by decide +kernel
theorem dX8_init_33 : decode cX8_init 33 = .ok (.getfield 18, 3) := by decide +kernel
theorem dX8_init_36 : decode cX8_init 36 = .ok (.iload_n 1, 1) := by decide +kernel
theorem dX8_init_37 : decode cX8_init 37 = .ok (.new 16, 3) := by decide +kernel
theorem dX8_init_40 : decode cX8_init 40 = .ok (.dup, 1) := by decide +kernel
theorem dX8_init_41 : decode cX8_init 41 = .ok (.invokespecial 22, 3) := by decide +kernel
theorem dX8_init_44 : decode cX8_init 44 = .ok (.aastore, 1) := by decide +kernel
theorem dX8_init_45 : decode cX8_init 45 = .ok (.iinc 1 1, 3) := by decide +kernel
theorem dX8_init_48 : decode cX8_init 48 = .ok (.goto (-22), 3) := by decide +kernel
theorem dX8_init_51 : decode cX8_init 51 = .ok (.new 23, 3) := by decide +kernel
theorem dX8_init_54 : decode cX8_init 54 = .ok (.dup, 1) := by decide +kernel
theorem dX8_init_55 : decode cX8_init 55 = .ok (.aload_n 0, 1) := by decide +kernel
theorem dX8_init_56 : decode cX8_init 56 = .ok (.getfield 10, 3) := by decide +kernel
theorem dX8_init_59 : decode cX8_init 59 = .ok (.invokespecial 25, 3) := by decide +kernel
theorem dX8_init_62 : decode cX8_init 62 = .ok (.astore_n 1, 1) := by decide +kernel
theorem dX8_init_63 : decode cX8_init 63 = .ok (.aload_n 0, 1) := by decide +kernel
theorem dX8_init_64 : decode cX8_init 64 = .ok (.new 28, 3) := by decide +kernel
theorem dX8_init_67 : decode cX8_init 67 = .ok (.dup, 1) := by decide +kernel
theorem dX8_init_68 : decode cX8_init 68 = .ok (.aload_n 0, 1) := by decide +kernel
theorem dX8_init_69 : decode cX8_init 69 = .ok (.getfield 10, 3) := by decide +kernel
theorem dX8_init_72 : decode cX8_init 72 = .ok (.aload_n 1, 1) := by decide +kernel
theorem dX8_init_73 : decode cX8_init 73 = .ok (.invokespecial 30, 3) := by decide +kernel
theorem dX8_init_76 : decode cX8_init 76 = .ok (.putfield 33, 3) := by decide +kernel
theorem dX8_init_79 : decode cX8_init 79 = .ok (.aload_n 0, 1) := by decide +kernel
theorem dX8_init_80 : decode cX8_init 80 = .ok (.new 37, 3) := by decide +kernel
theorem dX8_init_83 : decode cX8_init 83 = .ok (.dup, 1) := by decide +kernel
theorem dX8_init_84 : decode cX8_init 84 = .ok (.aload_n 0, 1) := by decide +kernel
theorem dX8_init_85 : decode cX8_init 85 = .ok (.getfield 10, 3) := by decide +kernel
theorem dX8_init_88 : decode cX8_init 88 = .ok (.aload_n 1, 1) := by decide +kernel
theorem dX8_init_89 : decode cX8_init 89 = .ok (.invokespecial 39, 3) := by decide +kernel
theorem dX8_init_92 : decode cX8_init 92 = .ok (.putfield 40, 3) := by decide +kernel
theorem dX8_init_95 : decode cX8_init 95 = .ok (.aload_n 0, 1) := by decide +kernel
theorem dX8_init_96 : decode cX8_init 96 = .ok (.iconst 0, 1) := by decide +kernel
theorem dX8_init_97 : decode cX8_init 97 = .ok (.putfield 44, 3) := by decide +kernel
theorem dX8_init_100 : decode cX8_init 100 = .ok (.return_, 1) := by decide +kernel
theorem dX8_cls_0 : decode cX8_cls 0 = .ok (.aload_n 0, 1) := by decide +kernel
theorem dX8_cls_1 : decode cX8_cls 1 = .ok (.getfield 10, 3) := by decide +kernel
theorem dX8_cls_4 : decode cX8_cls 4 = .ok (.iload_n 1, 1) := by decide +kernel
theorem dX8_cls_5 : decode cX8_cls 5 = .ok (.invokevirtual 48, 3) := by decide +kernel
theorem dX8_cls_8 : decode cX8_cls 8 = .ok (.ifCond .eq 22, 3) := by decide +kernel
theorem dX8_cls_11 : decode cX8_cls 11 = .ok (.aload_n 0, 1) := by decide +kernel
theorem dX8_cls_12 : decode cX8_cls 12 = .ok (.getfield 10, 3) := by decide +kernel
theorem dX8_cls_15 : decode cX8_cls 15 = .ok (.iload_n 1, 1) := by decide +kernel
theorem dX8_cls_16 : decode cX8_cls 16 = .ok (.invokevirtual 52, 3) := by decide +kernel
theorem dX8_cls_19 : decode cX8_cls 19 = .ok (.ifCond .ne 11, 3) := by decide +kernel
theorem dX8_cls_22 : decode cX8_cls 22 = .ok (.iload_n 2, 1) := by decide +kernel
theorem dX8_cls_23 : decode cX8_cls 23 = .ok (.ifCond .eq 9, 3) := by decide +kernel
theorem dX8_cls_26 : decode cX8_cls 26 = .ok (.iload_n 1, 1) := by decide +kernel
theorem dX8_cls_27 : decode cX8_cls 27 = .ok (.ifCond .eq 5, 3) := by decide +kernel
theorem dX8_cls_30 : decode cX8_cls 30 = .ok (.iconst (-1), 1) := by decide +kernel
theorem dX8_cls_31 : decode cX8_cls 31 = .ok (.ireturn, 1) := by decide +kernel
theorem dX8_cls_32 : decode cX8_cls 32 = .ok (.aload_n 0, 1) := by decide +kernel
theorem dX8_cls_33 : decode cX8_cls 33 = .ok (.getfield 10, 3) := by decide +kernel
theorem dX8_cls_36 : decode cX8_cls 36 = .ok (.iload_n 1, 1) := by decide +kernel
theorem dX8_cls_37 : decode cX8_cls 37 = .ok (.iload_n 2, 1) := by decide +kernel
theorem dX8_cls_38 : decode cX8_cls 38 = .ok (.invokevirtual 55, 3) := by decide +kernel
theorem dX8_cls_41 : decode cX8_cls 41 = .ok (.ireturn, 1) := by decide +kernel
theorem dX8_joined_0 : decode cX8_joined 0 = .ok (.aload_n 0, 1) := by decide +kernel
theorem dX8_joined_1 : decode cX8_joined 1 = .ok (.getfield 10, 3) := by decide +kernel
theorem dX8_joined_4 : decode cX8_joined 4 = .ok (.iload_n 1, 1) := by decide +kernel
theorem dX8_joined_5 : decode cX8_joined 5 = .ok (.invokevirtual 48, 3) := by decide +kernel
theorem dX8_joined_8 : decode cX8_joined 8 = .ok (.ifCond .eq 26, 3) := by decide +kernel
theorem dX8_joined_11 : decode cX8_joined 11 = .ok (.aload_n 0, 1) := by decide +kernel
theorem dX8_joined_12 : decode cX8_joined 12 = .ok (.getfield 10, 3) := by decide +kernel
theorem dX8_joined_15 : decode cX8_joined 15 = .ok (.iload_n 2, 1) := by decide +kernel
theorem dX8_joined_16 : decode cX8_joined 16 = .ok (.invokevirtual 48, 3) := by decide +kernel
theorem dX8_joined_19 : decode cX8_joined 19 = .ok (.ifCond .eq 15, 3) := by decide +kernel
theorem dX8_joined_22 : decode cX8_joined 22 = .ok (.aload_n 0, 1) := by decide +kernel
theorem dX8_joined_23 : decode cX8_joined 23 = .ok (.getfield 10, 3) := by decide +kernel
theorem dX8_joined_26 : decode cX8_joined 26 = .ok (.iload_n 1, 1) := by decide +kernel
theorem dX8_joined_27 : decode cX8_joined 27 = .ok (.iload_n 2, 1) := by decide +kernel
theorem dX8_joined_28 : decode cX8_joined 28 = .ok (.invokevirtual 59, 3) := by decide +kernel
theorem dX8_joined_31 : decode cX8_joined 31 = .ok (.goto 4, 3) := by decide +kernel
theorem dX8_joined_34 : decode cX8_joined 34 = .ok (.iconst (-1), 1) := by decide +kernel
theorem dX8_joined_35 : decode cX8_joined 35 = .ok (.ireturn, 1) := by decide +kernel
theorem dX8_is_0 : decode cX8_is 0 = .ok (.aload_n 0, 1) := by decide +kernel
theorem dX8_is_1 : decode cX8_is 1 = .ok (.getfield 10, 3) := by decide +kernel
theorem dX8_is_4 : decode cX8_is 4 = .ok (.iload_n 1, 1) := by decide +kernel
theorem dX8_is_5 : decode cX8_is 5 = .ok (.invokevirtual 48, 3) := by decide +kernel
theorem dX8_is_8 : decode cX8_is 8 = .ok (.ifCond .eq 14, 3) := by decide +kernel
theorem dX8_is_11 : decode cX8_is 11 = .ok (.aload_n 0, 1) := by decide +kernel
theorem dX8_is_12 : decode cX8_is 12 = .ok (.getfield 10, 3) := by decide +kernel
theorem dX8_is_15 : decode cX8_is 15 = .ok (.iload_n 2, 1) := by decide +kernel
theorem dX8_is_16 : decode cX8_is 16 = .ok (.invokevirtual 48, 3) := by decide +kernel
theorem dX8_is_19 : decode cX8_is 19 = .ok (.ifCond .ne 5, 3) := by decide +kernel
theorem dX8_is_22 : decode cX8_is 22 = .ok (.iconst (-1), 1) := by decide +kernel
theorem dX8_is_23 : decode cX8_is 23 = .ok (.ireturn, 1) := by decide +kernel
theorem dX8_is_24 : decode cX8_is 24 = .ok (.aload_n 0, 1) := by decide +kernel
theorem dX8_is_25 : decode cX8_is 25 = .ok (.getfield 10, 3) := by decide +kernel
theorem dX8_is_28 : decode cX8_is 28 = .ok (.iload_n 1, 1) := by decide +kernel
theorem dX8_is_29 : decode cX8_is 29 = .ok (.iload_n 2, 1) := by decide +kernel
theorem dX8_is_30 : decode cX8_is 30 = .ok (.invokevirtual 63, 3) := by decide +kernel
theorem dX8_is_33 : decode cX8_is 33 = .ok (.ifCond .eq 7, 3) := by decide +kernel
theorem dX8_is_36 : decode cX8_is 36 = .ok (.iconst 1, 1) := by decide +kernel
theorem dX8_is_37 : decode cX8_is 37 = .ok (.goto 4, 3) := by decide +kernel
theorem dX8_is_40 : decode cX8_is 40 = .ok (.iconst 0, 1) := by decide +kernel
theorem dX8_is_41 : decode cX8_is 41 = .ok (.ireturn, 1) := by decide +kernel
theorem dX8_clear_0 : decode cX8_clear 0 = .ok (.aload_n 0, 1) := by decide +kernel
theorem dX8_clear_1 : decode cX8_clear 1 = .ok (.iload_n 1, 1) := by decide +kernel
theorem dX8_clear_2 : decode cX8_clear 2 = .ok (.invokevirtual 67, 3) := by decide +kernel
theorem dX8_clear_5 : decode cX8_clear 5 = .ok (.astore_n 3, 1) := by decide +kernel
theorem dX8_clear_6 : decode cX8_clear 6 = .ok (.aload_n 3, 1) := by decide +kernel
theorem dX8_clear_7 : decode cX8_clear 7 = .ok (.ifnull 14, 3) := by decide +kernel
theorem dX8_clear_10 : decode cX8_clear 10 = .ok (.iload_n 2, 1) := by decide +kernel
theorem dX8_clear_11 : decode cX8_clear 11 = .ok (.iconst 1, 1) := by decide +kernel
theorem dX8_clear_12 : decode cX8_clear 12 = .ok (.if_icmp .lt 9, 3) := by decide +kernel
theorem dX8_clear_15 : decode cX8_clear 15 = .ok (.iload_n 2, 1) := by decide +kernel
theorem dX8_clear_16 : decode cX8_clear 16 = .ok (.bipush 8, 2) := by decide +kernel
theorem dX8_clear_18 : decode cX8_clear 18 = .ok (.if_icmp .le 5, 3) := by decide +kernel
theorem dX8_clear_21 : decode cX8_clear 21 = .ok (.iconst (-1), 1) := by decide +kernel
theorem dX8_clear_22 : decode cX8_clear 22 = .ok (.ireturn, 1) := by decide +kernel
theorem dX8_clear_23 : decode cX8_clear 23 = .ok (.aload_n 3, 1) := by decide +kernel
theorem dX8_clear_24 : decode cX8_clear 24 = .ok (.getfield 71, 3) := by decide +kernel
theorem dX8_clear_27 : decode cX8_clear 27 = .ok (.istore 4, 2) := by decide +kernel
theorem dX8_clear_29 : decode cX8_clear 29 = .ok (.aload_n 3, 1) := by decide +kernel
theorem dX8_clear_30 : decode cX8_clear 30 = .ok (.iload_n 2, 1) := by decide +kernel
theorem dX8_clear_31 : decode cX8_clear 31 = .ok (.invokevirtual 74, 3) := by decide +kernel
theorem dX8_clear_34 : decode cX8_clear 34 = .ok (.iload 4, 2) := by decide +kernel
theorem dX8_clear_36 : decode cX8_clear 36 = .ok (.ireturn, 1) := by decide +kernel
theorem dX8_argument_0 : decode cX8_argument 0 = .ok (.aload_n 0, 1) := by decide +kernel
theorem dX8_argument_1 : decode cX8_argument 1 = .ok (.iload_n 1, 1) := by decide +kernel
theorem dX8_argument_2 : decode cX8_argument 2 = .ok (.invokevirtual 67, 3) := by decide +kernel
theorem dX8_argument_5 : decode cX8_argument 5 = .ok (.astore_n 3, 1) := by decide +kernel
theorem dX8_argument_6 : decode cX8_argument 6 = .ok (.aload_n 3, 1) := by decide +kernel
theorem dX8_argument_7 : decode cX8_argument 7 = .ok (.ifnull 24, 3) := by decide +kernel
theorem dX8_argument_10 : decode cX8_argument 10 = .ok (.iload_n 2, 1) := by decide +kernel
theorem dX8_argument_11 : decode cX8_argument 11 = .ok (.iconst 1, 1) := by decide +kernel
theorem dX8_argument_12 : decode cX8_argument 12 = .ok (.if_icmp .eq 21, 3) := by decide +kernel
theorem dX8_argument_15 : decode cX8_argument 15 = .ok (.iload_n 2, 1) := by decide +kernel
theorem dX8_argument_16 : decode cX8_argument 16 = .ok (.iconst 2, 1) := by decide +kernel
theorem dX8_argument_17 : decode cX8_argument 17 = .ok (.if_icmp .eq 16, 3) := by decide +kernel
theorem dX8_argument_20 : decode cX8_argument 20 = .ok (.aload_n 0, 1) := by decide +kernel
theorem dX8_argument_21 : decode cX8_argument 21 = .ok (.getfield 10, 3) := by decide +kernel
theorem dX8_argument_24 : decode cX8_argument 24 = .ok (.iload_n 2, 1) := by decide +kernel
theorem dX8_argument_25 : decode cX8_argument 25 = .ok (.invokevirtual 78, 3) := by decide +kernel
theorem dX8_argument_28 : decode cX8_argument 28 = .ok (.ifCond .ne 5, 3) := by decide +kernel
theorem dX8_argument_31 : decode cX8_argument 31 = .ok (.iconst (-1), 1) := by decide +kernel
theorem dX8_argument_32 : decode cX8_argument 32 = .ok (.ireturn, 1) := by decide +kernel
theorem dX8_argument_33 : decode cX8_argument 33 = .ok (.aload_n 3, 1) := by decide +kernel
theorem dX8_argument_34 : decode cX8_argument 34 = .ok (.iload_n 2, 1) := by decide +kernel
theorem dX8_argument_35 : decode cX8_argument 35 = .ok (.invokevirtual 81, 3) := by decide +kernel
theorem dX8_argument_38 : decode cX8_argument 38 = .ok (.ireturn, 1) := by decide +kernel
theorem dX8_act_0 : decode cX8_act 0 = .ok (.aload_n 0, 1) := by decide +kernel
theorem dX8_act_1 : decode cX8_act 1 = .ok (.iload_n 1, 1) := by decide +kernel
theorem dX8_act_2 : decode cX8_act 2 = .ok (.invokevirtual 67, 3) := by decide +kernel
theorem dX8_act_5 : decode cX8_act 5 = .ok (.astore 5, 2) := by decide +kernel
theorem dX8_act_7 : decode cX8_act 7 = .ok (.aload 5, 2) := by decide +kernel
theorem dX8_act_9 : decode cX8_act 9 = .ok (.ifnull 14, 3) := by decide +kernel
theorem dX8_act_12 : decode cX8_act 12 = .ok (.aload_n 0, 1) := by decide +kernel
theorem dX8_act_13 : decode cX8_act 13 = .ok (.iload_n 2, 1) := by decide +kernel
theorem dX8_act_14 : decode cX8_act 14 = .ok (.iload_n 3, 1) := by decide +kernel
theorem dX8_act_15 : decode cX8_act 15 = .ok (.iload 4, 2) := by decide +kernel
theorem dX8_act_17 : decode cX8_act 17 = .ok (.invokevirtual 85, 3) := by decide +kernel
theorem dX8_act_20 : decode cX8_act 20 = .ok (.ifCond .ne 5, 3) := by decide +kernel
theorem dX8_act_23 : decode cX8_act 23 = .ok (.iconst (-1), 1) := by decide +kernel
theorem dX8_act_24 : decode cX8_act 24 = .ok (.ireturn, 1) := by decide +kernel
theorem dX8_act_25 : decode cX8_act 25 = .ok (.aload 5, 2) := by decide +kernel
theorem dX8_act_27 : decode cX8_act 27 = .ok (.iload_n 2, 1) := by decide +kernel
theorem dX8_act_28 : decode cX8_act 28 = .ok (.iload_n 3, 1) := by decide +kernel
theorem dX8_act_29 : decode cX8_act 29 = .ok (.iload 4, 2) := by decide +kernel
theorem dX8_act_31 : decode cX8_act 31 = .ok (.invokevirtual 89, 3) := by decide +kernel
theorem dX8_act_34 : decode cX8_act 34 = .ok (.ireturn, 1) := by decide +kernel
theorem dX8_guard_0 : decode cX8_guard 0 = .ok (.aload_n 0, 1) := by decide +kernel
theorem dX8_guard_1 : decode cX8_guard 1 = .ok (.iload_n 1, 1) := by decide +kernel
theorem dX8_guard_2 : decode cX8_guard 2 = .ok (.invokevirtual 67, 3) := by decide +kernel
theorem dX8_guard_5 : decode cX8_guard 5 = .ok (.astore 6, 2) := by decide +kernel
theorem dX8_guard_7 : decode cX8_guard 7 = .ok (.aload 6, 2) := by decide +kernel
theorem dX8_guard_9 : decode cX8_guard 9 = .ok (.ifnull 38, 3) := by decide +kernel
theorem dX8_guard_12 : decode cX8_guard 12 = .ok (.iload_n 2, 1) := by decide +kernel
theorem dX8_guard_13 : decode cX8_guard 13 = .ok (.ifCond .lt 34, 3) := by decide +kernel
theorem dX8_guard_16 : decode cX8_guard 16 = .ok (.iload_n 2, 1) := by decide +kernel
theorem dX8_guard_17 : decode cX8_guard 17 = .ok (.iload_n 3, 1) := by decide +kernel
theorem dX8_guard_18 : decode cX8_guard 18 = .ok (.if_icmp .ge 29, 3) := by decide +kernel
theorem dX8_guard_21 : decode cX8_guard 21 = .ok (.iload_n 3, 1) := by decide +kernel
theorem dX8_guard_22 : decode cX8_guard 22 = .ok (.bipush 40, 2) := by decide +kernel
theorem dX8_guard_24 : decode cX8_guard 24 = .ok (.if_icmp .gt 23, 3) := by decide +kernel
theorem dX8_guard_27 : decode cX8_guard 27 = .ok (.iload 4, 2) := by decide +kernel
theorem dX8_guard_29 : decode cX8_guard 29 = .ok (.invokestatic 93, 3) := by decide +kernel
theorem dX8_guard_32 : decode cX8_guard 32 = .ok (.ifCond .eq 15, 3) := by decide +kernel
theorem dX8_guard_35 : decode cX8_guard 35 = .ok (.aload_n 0, 1) := by decide +kernel
theorem dX8_guard_36 : decode cX8_guard 36 = .ok (.getfield 10, 3) := by decide +kernel
theorem dX8_guard_39 : decode cX8_guard 39 = .ok (.iload 5, 2) := by decide +kernel
theorem dX8_guard_41 : decode cX8_guard 41 = .ok (.invokevirtual 48, 3) := by decide +kernel
theorem dX8_guard_44 : decode cX8_guard 44 = .ok (.ifCond .ne 5, 3) := by decide +kernel
theorem dX8_guard_47 : decode cX8_guard 47 = .ok (.iconst (-1), 1) := by decide +kernel
theorem dX8_guard_48 : decode cX8_guard 48 = .ok (.ireturn, 1) := by decide +kernel
theorem dX8_guard_49 : decode cX8_guard 49 = .ok (.aload 6, 2) := by decide +kernel
theorem dX8_guard_51 : decode cX8_guard 51 = .ok (.iload_n 2, 1) := by decide +kernel
theorem dX8_guard_52 : decode cX8_guard 52 = .ok (.iload_n 3, 1) := by decide +kernel
theorem dX8_guard_53 : decode cX8_guard 53 = .ok (.iload 4, 2) := by decide +kernel
theorem dX8_guard_55 : decode cX8_guard 55 = .ok (.iload 5, 2) := by decide +kernel
theorem dX8_guard_57 : decode cX8_guard 57 = .ok (.invokevirtual 96, 3) := by decide +kernel
theorem dX8_guard_60 : decode cX8_guard 60 = .ok (.ireturn, 1) := by decide +kernel
theorem dX8_compute_0 : decode cX8_compute 0 = .ok (.aload_n 0, 1) := by decide +kernel
theorem dX8_compute_1 : decode cX8_compute 1 = .ok (.iload_n 1, 1) := by decide +kernel
theorem dX8_compute_2 : decode cX8_compute 2 = .ok (.invokevirtual 67, 3) := by decide +kernel
theorem dX8_compute_5 : decode cX8_compute 5 = .ok (.astore_n 2, 1) := by decide +kernel
theorem dX8_compute_6 : decode cX8_compute 6 = .ok (.aload_n 2, 1) := by decide +kernel
theorem dX8_compute_7 : decode cX8_compute 7 = .ok (.ifnull 10, 3) := by decide +kernel
theorem dX8_compute_10 : decode cX8_compute 10 = .ok (.aload_n 2, 1) := by decide +kernel
theorem dX8_compute_11 : decode cX8_compute 11 = .ok (.getfield 71, 3) := by decide +kernel
theorem dX8_compute_14 : decode cX8_compute 14 = .ok (.ifCond .ne 5, 3) := by decide +kernel
theorem dX8_compute_17 : decode cX8_compute 17 = .ok (.iconst (-1), 1) := by decide +kernel
theorem dX8_compute_18 : decode cX8_compute 18 = .ok (.ireturn, 1) := by decide +kernel
theorem dX8_compute_19 : decode cX8_compute 19 = .ok (.aload_n 0, 1) := by decide +kernel
theorem dX8_compute_20 : decode cX8_compute 20 = .ok (.getfield 33, 3) := by decide +kernel
theorem dX8_compute_23 : decode cX8_compute 23 = .ok (.aload_n 2, 1) := by decide +kernel
theorem dX8_compute_24 : decode cX8_compute 24 = .ok (.invokevirtual 100, 3) := by decide +kernel
theorem dX8_compute_27 : decode cX8_compute 27 = .ok (.istore_n 3, 1) := by decide +kernel
theorem dX8_compute_28 : decode cX8_compute 28 = .ok (.aload_n 0, 1) := by decide +kernel
theorem dX8_compute_29 : decode cX8_compute 29 = .ok (.aload_n 0, 1) := by decide +kernel
theorem dX8_compute_30 : decode cX8_compute 30 = .ok (.getfield 33, 3) := by decide +kernel
theorem dX8_compute_33 : decode cX8_compute 33 = .ok (.getfield 104, 3) := by decide +kernel
theorem dX8_compute_36 : decode cX8_compute 36 = .ok (.putfield 44, 3) := by decide +kernel
theorem dX8_compute_39 : decode cX8_compute 39 = .ok (.iload_n 3, 1) := by decide +kernel
theorem dX8_compute_40 : decode cX8_compute 40 = .ok (.iconst (-1), 1) := by decide +kernel
theorem dX8_compute_41 : decode cX8_compute 41 = .ok (.if_icmp .ne 10, 3) := by decide +kernel
theorem dX8_compute_44 : decode cX8_compute 44 = .ok (.aload_n 2, 1) := by decide +kernel
theorem dX8_compute_45 : decode cX8_compute 45 = .ok (.invokevirtual 107, 3) := by decide +kernel
theorem dX8_compute_48 : decode cX8_compute 48 = .ok (.goto 7, 3) := by decide +kernel
theorem dX8_compute_51 : decode cX8_compute 51 = .ok (.bipush (-10), 2) := by decide +kernel
theorem dX8_compute_53 : decode cX8_compute 53 = .ok (.iload_n 3, 1) := by decide +kernel
theorem dX8_compute_54 : decode cX8_compute 54 = .ok (.isub, 1) := by decide +kernel
theorem dX8_compute_55 : decode cX8_compute 55 = .ok (.ireturn, 1) := by decide +kernel
theorem dX8_fault_0 : decode cX8_fault 0 = .ok (.aload_n 0, 1) := by decide +kernel
theorem dX8_fault_1 : decode cX8_fault 1 = .ok (.getfield 44, 3) := by decide +kernel
theorem dX8_fault_4 : decode cX8_fault 4 = .ok (.ireturn, 1) := by decide +kernel
theorem dX8_state_0 : decode cX8_state 0 = .ok (.aload_n 0, 1) := by decide +kernel
theorem dX8_state_1 : decode cX8_state 1 = .ok (.iload_n 1, 1) := by decide +kernel
theorem dX8_state_2 : decode cX8_state 2 = .ok (.invokevirtual 67, 3) := by decide +kernel
theorem dX8_state_5 : decode cX8_state 5 = .ok (.astore 4, 2) := by decide +kernel
theorem dX8_state_7 : decode cX8_state 7 = .ok (.aload 4, 2) := by decide +kernel
theorem dX8_state_9 : decode cX8_state 9 = .ok (.ifnonnull 5, 3) := by decide +kernel
theorem dX8_state_12 : decode cX8_state 12 = .ok (.iconst (-1), 1) := by decide +kernel
theorem dX8_state_13 : decode cX8_state 13 = .ok (.ireturn, 1) := by decide +kernel
theorem dX8_state_14 : decode cX8_state 14 = .ok (.aload 4, 2) := by decide +kernel
theorem dX8_state_16 : decode cX8_state 16 = .ok (.iload_n 2, 1) := by decide +kernel
theorem dX8_state_17 : decode cX8_state 17 = .ok (.invokevirtual 111, 3) := by decide +kernel
theorem dX8_state_20 : decode cX8_state 20 = .ok (.astore 5, 2) := by decide +kernel
theorem dX8_state_22 : decode cX8_state 22 = .ok (.aload 5, 2) := by decide +kernel
theorem dX8_state_24 : decode cX8_state 24 = .ok (.ifnull 23, 3) := by decide +kernel
theorem dX8_state_27 : decode cX8_state 27 = .ok (.iload_n 3, 1) := by decide +kernel
theorem dX8_state_28 : decode cX8_state 28 = .ok (.invokestatic 115, 3) := by decide +kernel
theorem dX8_state_31 : decode cX8_state 31 = .ok (.ifCond .ne 18, 3) := by decide +kernel
theorem dX8_state_34 : decode cX8_state 34 = .ok (.iload_n 3, 1) := by decide +kernel
theorem dX8_state_35 : decode cX8_state 35 = .ok (.invokestatic 118, 3) := by decide +kernel
theorem dX8_state_38 : decode cX8_state 38 = .ok (.ifCond .ne 11, 3) := by decide +kernel
theorem dX8_state_41 : decode cX8_state 41 = .ok (.iload_n 3, 1) := by decide +kernel
theorem dX8_state_42 : decode cX8_state 42 = .ok (.bipush 99, 2) := by decide +kernel
theorem dX8_state_44 : decode cX8_state 44 = .ok (.if_icmp .eq 5, 3) := by decide +kernel
theorem dX8_state_47 : decode cX8_state 47 = .ok (.iconst (-1), 1) := by decide +kernel
theorem dX8_state_48 : decode cX8_state 48 = .ok (.ireturn, 1) := by decide +kernel
theorem dX8_state_49 : decode cX8_state 49 = .ok (.aload 4, 2) := by decide +kernel
theorem dX8_state_51 : decode cX8_state 51 = .ok (.getfield 121, 3) := by decide +kernel
theorem dX8_state_54 : decode cX8_state 54 = .ok (.ifCond .ne 6, 3) := by decide +kernel
theorem dX8_state_57 : decode cX8_state 57 = .ok (.bipush (-3), 2) := by decide +kernel
theorem dX8_state_59 : decode cX8_state 59 = .ok (.ireturn, 1) := by decide +kernel
theorem dX8_state_60 : decode cX8_state 60 = .ok (.aload 5, 2) := by decide +kernel
theorem dX8_state_62 : decode cX8_state 62 = .ok (.getfield 125, 3) := by decide +kernel
theorem dX8_state_65 : decode cX8_state 65 = .ok (.ifCond .eq 15, 3) := by decide +kernel
theorem dX8_state_68 : decode cX8_state 68 = .ok (.aload 5, 2) := by decide +kernel
theorem dX8_state_70 : decode cX8_state 70 = .ok (.getfield 130, 3) := by decide +kernel
theorem dX8_state_73 : decode cX8_state 73 = .ok (.iload_n 3, 1) := by decide +kernel
theorem dX8_state_74 : decode cX8_state 74 = .ok (.invokevirtual 134, 3) := by decide +kernel
theorem dX8_state_77 : decode cX8_state 77 = .ok (.goto 5, 3) := by decide +kernel
theorem dX8_state_80 : decode cX8_state 80 = .ok (.bipush (-4), 2) := by decide +kernel
theorem dX8_state_82 : decode cX8_state 82 = .ok (.ireturn, 1) := by decide +kernel
theorem dX8_frame_0 : decode cX8_frame 0 = .ok (.aload_n 0, 1) := by decide +kernel
theorem dX8_frame_1 : decode cX8_frame 1 = .ok (.iload_n 1, 1) := by decide +kernel
theorem dX8_frame_2 : decode cX8_frame 2 = .ok (.invokevirtual 67, 3) := by decide +kernel
theorem dX8_frame_5 : decode cX8_frame 5 = .ok (.astore 4, 2) := by decide +kernel
theorem dX8_frame_7 : decode cX8_frame 7 = .ok (.aload 4, 2) := by decide +kernel
theorem dX8_frame_9 : decode cX8_frame 9 = .ok (.ifnonnull 5, 3) := by decide +kernel
theorem dX8_frame_12 : decode cX8_frame 12 = .ok (.iconst (-1), 1) := by decide +kernel
theorem dX8_frame_13 : decode cX8_frame 13 = .ok (.ireturn, 1) := by decide +kernel
theorem dX8_frame_14 : decode cX8_frame 14 = .ok (.aload 4, 2) := by decide +kernel
theorem dX8_frame_16 : decode cX8_frame 16 = .ok (.getfield 121, 3) := by decide +kernel
theorem dX8_frame_19 : decode cX8_frame 19 = .ok (.ifCond .ne 6, 3) := by decide +kernel
theorem dX8_frame_22 : decode cX8_frame 22 = .ok (.bipush (-3), 2) := by decide +kernel
theorem dX8_frame_24 : decode cX8_frame 24 = .ok (.ireturn, 1) := by decide +kernel
theorem dX8_frame_25 : decode cX8_frame 25 = .ok (.aload 4, 2) := by decide +kernel
theorem dX8_frame_27 : decode cX8_frame 27 = .ok (.iload_n 2, 1) := by decide +kernel
theorem dX8_frame_28 : decode cX8_frame 28 = .ok (.invokevirtual 139, 3) := by decide +kernel
theorem dX8_frame_31 : decode cX8_frame 31 = .ok (.istore 5, 2) := by decide +kernel
theorem dX8_frame_33 : decode cX8_frame 33 = .ok (.aload 4, 2) := by decide +kernel
theorem dX8_frame_35 : decode cX8_frame 35 = .ok (.iload 5, 2) := by decide +kernel
theorem dX8_frame_37 : decode cX8_frame 37 = .ok (.invokevirtual 111, 3) := by decide +kernel
theorem dX8_frame_40 : decode cX8_frame 40 = .ok (.astore 6, 2) := by decide +kernel
theorem dX8_frame_42 : decode cX8_frame 42 = .ok (.aload 6, 2) := by decide +kernel
theorem dX8_frame_44 : decode cX8_frame 44 = .ok (.ifnonnull 5, 3) := by decide +kernel
theorem dX8_frame_47 : decode cX8_frame 47 = .ok (.iconst (-1), 1) := by decide +kernel
theorem dX8_frame_48 : decode cX8_frame 48 = .ok (.ireturn, 1) := by decide +kernel
theorem dX8_frame_49 : decode cX8_frame 49 = .ok (.iload_n 3, 1) := by decide +kernel
theorem dX8_frame_50 : decode cX8_frame 50 = .ok (.bipush 98, 2) := by decide +kernel
theorem dX8_frame_52 : decode cX8_frame 52 = .ok (.if_icmp .ne 8, 3) := by decide +kernel
theorem dX8_frame_55 : decode cX8_frame 55 = .ok (.iload 5, 2) := by decide +kernel
theorem dX8_frame_57 : decode cX8_frame 57 = .ok (.goto 12, 3) := by decide +kernel
theorem dX8_frame_60 : decode cX8_frame 60 = .ok (.aload 6, 2) := by decide +kernel
theorem dX8_frame_62 : decode cX8_frame 62 = .ok (.getfield 142, 3) := by decide +kernel
theorem dX8_frame_65 : decode cX8_frame 65 = .ok (.iload_n 3, 1) := by decide +kernel
theorem dX8_frame_66 : decode cX8_frame 66 = .ok (.invokevirtual 134, 3) := by decide +kernel
theorem dX8_frame_69 : decode cX8_frame 69 = .ok (.ireturn, 1) := by decide +kernel
theorem dX8_form_0 : decode cX8_form 0 = .ok (.aload_n 0, 1) := by decide +kernel
theorem dX8_form_1 : decode cX8_form 1 = .ok (.iload_n 1, 1) := by decide +kernel
theorem dX8_form_2 : decode cX8_form 2 = .ok (.invokevirtual 67, 3) := by decide +kernel
theorem dX8_form_5 : decode cX8_form 5 = .ok (.astore_n 3, 1) := by decide +kernel
theorem dX8_form_6 : decode cX8_form 6 = .ok (.aload_n 3, 1) := by decide +kernel
theorem dX8_form_7 : decode cX8_form 7 = .ok (.ifnonnull 5, 3) := by decide +kernel
theorem dX8_form_10 : decode cX8_form 10 = .ok (.iconst (-1), 1) := by decide +kernel
theorem dX8_form_11 : decode cX8_form 11 = .ok (.ireturn, 1) := by decide +kernel
theorem dX8_form_12 : decode cX8_form 12 = .ok (.aload_n 3, 1) := by decide +kernel
theorem dX8_form_13 : decode cX8_form 13 = .ok (.getfield 121, 3) := by decide +kernel
theorem dX8_form_16 : decode cX8_form 16 = .ok (.ifCond .ne 6, 3) := by decide +kernel
theorem dX8_form_19 : decode cX8_form 19 = .ok (.bipush (-3), 2) := by decide +kernel
theorem dX8_form_21 : decode cX8_form 21 = .ok (.ireturn, 1) := by decide +kernel
theorem dX8_form_22 : decode cX8_form 22 = .ok (.aload_n 3, 1) := by decide +kernel
theorem dX8_form_23 : decode cX8_form 23 = .ok (.aload_n 3, 1) := by decide +kernel
theorem dX8_form_24 : decode cX8_form 24 = .ok (.iload_n 2, 1) := by decide +kernel
theorem dX8_form_25 : decode cX8_form 25 = .ok (.invokevirtual 139, 3) := by decide +kernel
theorem dX8_form_28 : decode cX8_form 28 = .ok (.invokevirtual 111, 3) := by decide +kernel
theorem dX8_form_31 : decode cX8_form 31 = .ok (.astore 4, 2) := by decide +kernel
theorem dX8_form_33 : decode cX8_form 33 = .ok (.aload 4, 2) := by decide +kernel
theorem dX8_form_35 : decode cX8_form 35 = .ok (.ifnonnull 5, 3) := by decide +kernel
theorem dX8_form_38 : decode cX8_form 38 = .ok (.iconst (-1), 1) := by decide +kernel
theorem dX8_form_39 : decode cX8_form 39 = .ok (.ireturn, 1) := by decide +kernel
theorem dX8_form_40 : decode cX8_form 40 = .ok (.aload_n 3, 1) := by decide +kernel
theorem dX8_form_41 : decode cX8_form 41 = .ok (.aload_n 3, 1) := by decide +kernel
theorem dX8_form_42 : decode cX8_form 42 = .ok (.iload_n 2, 1) := by decide +kernel
theorem dX8_form_43 : decode cX8_form 43 = .ok (.iconst 1, 1) := by decide +kernel
theorem dX8_form_44 : decode cX8_form 44 = .ok (.isub, 1) := by decide +kernel
theorem dX8_form_45 : decode cX8_form 45 = .ok (.invokevirtual 139, 3) := by decide +kernel
theorem dX8_form_48 : decode cX8_form 48 = .ok (.invokevirtual 111, 3) := by decide +kernel
theorem dX8_form_51 : decode cX8_form 51 = .ok (.astore 5, 2) := by decide +kernel
theorem dX8_form_53 : decode cX8_form 53 = .ok (.aload 4, 2) := by decide +kernel
theorem dX8_form_55 : decode cX8_form 55 = .ok (.getfield 142, 3) := by decide +kernel
theorem dX8_form_58 : decode cX8_form 58 = .ok (.aload 5, 2) := by decide +kernel
theorem dX8_form_60 : decode cX8_form 60 = .ok (.ifnonnull 10, 3) := by decide +kernel
theorem dX8_form_63 : decode cX8_form 63 = .ok (.aload_n 3, 1) := by decide +kernel
theorem dX8_form_64 : decode cX8_form 64 = .ok (.getfield 145, 3) := by decide +kernel
theorem dX8_form_67 : decode cX8_form 67 = .ok (.goto 8, 3) := by decide +kernel
theorem dX8_form_70 : decode cX8_form 70 = .ok (.aload 5, 2) := by decide +kernel
theorem dX8_form_72 : decode cX8_form 72 = .ok (.getfield 142, 3) := by decide +kernel
theorem dX8_form_75 : decode cX8_form 75 = .ok (.invokevirtual 148, 3) := by decide +kernel
theorem dX8_form_78 : decode cX8_form 78 = .ok (.ireturn, 1) := by decide +kernel
theorem dX8_shared_0 : decode cX8_shared 0 = .ok (.aload_n 0, 1) := by decide +kernel
theorem dX8_shared_1 : decode cX8_shared 1 = .ok (.iload_n 1, 1) := by decide +kernel
theorem dX8_shared_2 : decode cX8_shared 2 = .ok (.invokevirtual 67, 3) := by decide +kernel
theorem dX8_shared_5 : decode cX8_shared 5 = .ok (.astore_n 3, 1) := by decide +kernel
theorem dX8_shared_6 : decode cX8_shared 6 = .ok (.aload_n 3, 1) := by decide +kernel
theorem dX8_shared_7 : decode cX8_shared 7 = .ok (.ifnull 11, 3) := by decide +kernel
theorem dX8_shared_10 : decode cX8_shared 10 = .ok (.aload_n 3, 1) := by decide +kernel
theorem dX8_shared_11 : decode cX8_shared 11 = .ok (.iload_n 2, 1) := by decide +kernel
theorem dX8_shared_12 : decode cX8_shared 12 = .ok (.invokevirtual 111, 3) := by decide +kernel
theorem dX8_shared_15 : decode cX8_shared 15 = .ok (.ifnonnull 5, 3) := by decide +kernel
theorem dX8_shared_18 : decode cX8_shared 18 = .ok (.iconst (-1), 1) := by decide +kernel
theorem dX8_shared_19 : decode cX8_shared 19 = .ok (.ireturn, 1) := by decide +kernel
theorem dX8_shared_20 : decode cX8_shared 20 = .ok (.aload_n 3, 1) := by decide +kernel
theorem dX8_shared_21 : decode cX8_shared 21 = .ok (.getfield 121, 3) := by decide +kernel
theorem dX8_shared_24 : decode cX8_shared 24 = .ok (.ifCond .eq 11, 3) := by decide +kernel
theorem dX8_shared_27 : decode cX8_shared 27 = .ok (.aload_n 3, 1) := by decide +kernel
theorem dX8_shared_28 : decode cX8_shared 28 = .ok (.iload_n 2, 1) := by decide +kernel
theorem dX8_shared_29 : decode cX8_shared 29 = .ok (.invokevirtual 152, 3) := by decide +kernel
theorem dX8_shared_32 : decode cX8_shared 32 = .ok (.goto 5, 3) := by decide +kernel
theorem dX8_shared_35 : decode cX8_shared 35 = .ok (.bipush (-3), 2) := by decide +kernel
theorem dX8_shared_37 : decode cX8_shared 37 = .ok (.ireturn, 1) := by decide +kernel
theorem dX8_maximum_0 : decode cX8_maximum 0 = .ok (.aload_n 0, 1) := by decide +kernel
theorem dX8_maximum_1 : decode cX8_maximum 1 = .ok (.iload_n 1, 1) := by decide +kernel
theorem dX8_maximum_2 : decode cX8_maximum 2 = .ok (.invokevirtual 67, 3) := by decide +kernel
theorem dX8_maximum_5 : decode cX8_maximum 5 = .ok (.astore_n 3, 1) := by decide +kernel
theorem dX8_maximum_6 : decode cX8_maximum 6 = .ok (.aload_n 3, 1) := by decide +kernel
theorem dX8_maximum_7 : decode cX8_maximum 7 = .ok (.ifnull 12, 3) := by decide +kernel
theorem dX8_maximum_10 : decode cX8_maximum 10 = .ok (.iload_n 2, 1) := by decide +kernel
theorem dX8_maximum_11 : decode cX8_maximum 11 = .ok (.ifCond .lt 8, 3) := by decide +kernel
theorem dX8_maximum_14 : decode cX8_maximum 14 = .ok (.iload_n 2, 1) := by decide +kernel
theorem dX8_maximum_15 : decode cX8_maximum 15 = .ok (.iconst 1, 1) := by decide +kernel
theorem dX8_maximum_16 : decode cX8_maximum 16 = .ok (.if_icmp .le 5, 3) := by decide +kernel
theorem dX8_maximum_19 : decode cX8_maximum 19 = .ok (.iconst (-1), 1) := by decide +kernel
theorem dX8_maximum_20 : decode cX8_maximum 20 = .ok (.ireturn, 1) := by decide +kernel
theorem dX8_maximum_21 : decode cX8_maximum 21 = .ok (.aload_n 3, 1) := by decide +kernel
theorem dX8_maximum_22 : decode cX8_maximum 22 = .ok (.getfield 121, 3) := by decide +kernel
theorem dX8_maximum_25 : decode cX8_maximum 25 = .ok (.ifCond .ne 6, 3) := by decide +kernel
theorem dX8_maximum_28 : decode cX8_maximum 28 = .ok (.bipush (-3), 2) := by decide +kernel
theorem dX8_maximum_30 : decode cX8_maximum 30 = .ok (.ireturn, 1) := by decide +kernel
theorem dX8_maximum_31 : decode cX8_maximum 31 = .ok (.iload_n 2, 1) := by decide +kernel
theorem dX8_maximum_32 : decode cX8_maximum 32 = .ok (.ifCond .ne 10, 3) := by decide +kernel
theorem dX8_maximum_35 : decode cX8_maximum 35 = .ok (.aload_n 3, 1) := by decide +kernel
theorem dX8_maximum_36 : decode cX8_maximum 36 = .ok (.getfield 155, 3) := by decide +kernel
theorem dX8_maximum_39 : decode cX8_maximum 39 = .ok (.goto 7, 3) := by decide +kernel
theorem dX8_maximum_42 : decode cX8_maximum 42 = .ok (.aload_n 3, 1) := by decide +kernel
theorem dX8_maximum_43 : decode cX8_maximum 43 = .ok (.getfield 158, 3) := by decide +kernel
theorem dX8_maximum_46 : decode cX8_maximum 46 = .ok (.ireturn, 1) := by decide +kernel
theorem dX8_plant_0 : decode cX8_plant 0 = .ok (.aload_n 0, 1) := by decide +kernel
theorem dX8_plant_1 : decode cX8_plant 1 = .ok (.iload_n 1, 1) := by decide +kernel
theorem dX8_plant_2 : decode cX8_plant 2 = .ok (.invokevirtual 67, 3) := by decide +kernel
theorem dX8_plant_5 : decode cX8_plant 5 = .ok (.astore 5, 2) := by decide +kernel
theorem dX8_plant_7 : decode cX8_plant 7 = .ok (.iload 4, 2) := by decide +kernel
theorem dX8_plant_9 : decode cX8_plant 9 = .ok (.ifCond .eq 27, 3) := by decide +kernel
theorem dX8_plant_12 : decode cX8_plant 12 = .ok (.iload 4, 2) := by decide +kernel
theorem dX8_plant_14 : decode cX8_plant 14 = .ok (.iconst 1, 1) := by decide +kernel
theorem dX8_plant_15 : decode cX8_plant 15 = .ok (.if_icmp .eq 21, 3) := by decide +kernel
theorem dX8_plant_18 : decode cX8_plant 18 = .ok (.iload 4, 2) := by decide +kernel
theorem dX8_plant_20 : decode cX8_plant 20 = .ok (.iconst 4, 1) := by decide +kernel
theorem dX8_plant_21 : decode cX8_plant 21 = .ok (.if_icmp .eq 15, 3) := by decide +kernel
theorem dX8_plant_24 : decode cX8_plant 24 = .ok (.aload_n 0, 1) := by decide +kernel
theorem dX8_plant_25 : decode cX8_plant 25 = .ok (.getfield 10, 3) := by decide +kernel
theorem dX8_plant_28 : decode cX8_plant 28 = .ok (.iload 4, 2) := by decide +kernel
theorem dX8_plant_30 : decode cX8_plant 30 = .ok (.invokevirtual 78, 3) := by decide +kernel
theorem dX8_plant_33 : decode cX8_plant 33 = .ok (.ifCond .eq 7, 3) := by decide +kernel
theorem dX8_plant_36 : decode cX8_plant 36 = .ok (.iconst 1, 1) := by decide +kernel
theorem dX8_plant_37 : decode cX8_plant 37 = .ok (.goto 4, 3) := by decide +kernel
theorem dX8_plant_40 : decode cX8_plant 40 = .ok (.iconst 0, 1) := by decide +kernel
theorem dX8_plant_41 : decode cX8_plant 41 = .ok (.istore 6, 2) := by decide +kernel
theorem dX8_plant_43 : decode cX8_plant 43 = .ok (.aload 5, 2) := by decide +kernel
theorem dX8_plant_45 : decode cX8_plant 45 = .ok (.ifnull 22, 3) := by decide +kernel
theorem dX8_plant_48 : decode cX8_plant 48 = .ok (.iload 6, 2) := by decide +kernel
theorem dX8_plant_50 : decode cX8_plant 50 = .ok (.ifCond .eq 17, 3) := by decide +kernel
theorem dX8_plant_53 : decode cX8_plant 53 = .ok (.iload_n 3, 1) := by decide +kernel
theorem dX8_plant_54 : decode cX8_plant 54 = .ok (.invokestatic 115, 3) := by decide +kernel
theorem dX8_plant_57 : decode cX8_plant 57 = .ok (.ifCond .ne 12, 3) := by decide +kernel
theorem dX8_plant_60 : decode cX8_plant 60 = .ok (.iload_n 3, 1) := by decide +kernel
theorem dX8_plant_61 : decode cX8_plant 61 = .ok (.invokestatic 118, 3) := by decide +kernel
theorem dX8_plant_64 : decode cX8_plant 64 = .ok (.ifCond .ne 5, 3) := by decide +kernel
theorem dX8_plant_67 : decode cX8_plant 67 = .ok (.iconst (-1), 1) := by decide +kernel
theorem dX8_plant_68 : decode cX8_plant 68 = .ok (.ireturn, 1) := by decide +kernel
theorem dX8_plant_69 : decode cX8_plant 69 = .ok (.aload 5, 2) := by decide +kernel
theorem dX8_plant_71 : decode cX8_plant 71 = .ok (.getfield 121, 3) := by decide +kernel
theorem dX8_plant_74 : decode cX8_plant 74 = .ok (.ifCond .ne 6, 3) := by decide +kernel
theorem dX8_plant_77 : decode cX8_plant 77 = .ok (.bipush (-3), 2) := by decide +kernel
theorem dX8_plant_79 : decode cX8_plant 79 = .ok (.ireturn, 1) := by decide +kernel
theorem dX8_plant_80 : decode cX8_plant 80 = .ok (.aload 5, 2) := by decide +kernel
theorem dX8_plant_82 : decode cX8_plant 82 = .ok (.aload 5, 2) := by decide +kernel
theorem dX8_plant_84 : decode cX8_plant 84 = .ok (.iload_n 2, 1) := by decide +kernel
theorem dX8_plant_85 : decode cX8_plant 85 = .ok (.invokevirtual 139, 3) := by decide +kernel
theorem dX8_plant_88 : decode cX8_plant 88 = .ok (.invokevirtual 111, 3) := by decide +kernel
theorem dX8_plant_91 : decode cX8_plant 91 = .ok (.astore 7, 2) := by decide +kernel
theorem dX8_plant_93 : decode cX8_plant 93 = .ok (.aload 7, 2) := by decide +kernel
theorem dX8_plant_95 : decode cX8_plant 95 = .ok (.ifnonnull 5, 3) := by decide +kernel
theorem dX8_plant_98 : decode cX8_plant 98 = .ok (.iconst (-1), 1) := by decide +kernel
theorem dX8_plant_99 : decode cX8_plant 99 = .ok (.ireturn, 1) := by decide +kernel
theorem dX8_plant_100 : decode cX8_plant 100 = .ok (.iload_n 3, 1) := by decide +kernel
theorem dX8_plant_101 : decode cX8_plant 101 = .ok (.invokestatic 115, 3) := by decide +kernel
theorem dX8_plant_104 : decode cX8_plant 104 = .ok (.ifCond .eq 19, 3) := by decide +kernel
theorem dX8_plant_107 : decode cX8_plant 107 = .ok (.aload 5, 2) := by decide +kernel
theorem dX8_plant_109 : decode cX8_plant 109 = .ok (.aload 7, 2) := by decide +kernel
theorem dX8_plant_111 : decode cX8_plant 111 = .ok (.getfield 142, 3) := by decide +kernel
theorem dX8_plant_114 : decode cX8_plant 114 = .ok (.iload_n 3, 1) := by decide +kernel
theorem dX8_plant_115 : decode cX8_plant 115 = .ok (.iload 4, 2) := by decide +kernel
theorem dX8_plant_117 : decode cX8_plant 117 = .ok (.invokestatic 161, 3) := by decide +kernel
theorem dX8_plant_120 : decode cX8_plant 120 = .ok (.goto 17, 3) := by decide +kernel
theorem dX8_plant_123 : decode cX8_plant 123 = .ok (.aload 7, 2) := by decide +kernel
theorem dX8_plant_125 : decode cX8_plant 125 = .ok (.getfield 142, 3) := by decide +kernel
theorem dX8_plant_128 : decode cX8_plant 128 = .ok (.iload_n 3, 1) := by decide +kernel
theorem dX8_plant_129 : decode cX8_plant 129 = .ok (.bipush 100, 2) := by decide +kernel
theorem dX8_plant_131 : decode cX8_plant 131 = .ok (.isub, 1) := by decide +kernel
theorem dX8_plant_132 : decode cX8_plant 132 = .ok (.iload 4, 2) := by decide +kernel
theorem dX8_plant_134 : decode cX8_plant 134 = .ok (.invokestatic 165, 3) := by decide +kernel
theorem dX8_plant_137 : decode cX8_plant 137 = .ok (.ireturn, 1) := by decide +kernel
theorem dX8_verify_0 : decode cX8_verify 0 = .ok (.aload_n 0, 1) := by decide +kernel
theorem dX8_verify_1 : decode cX8_verify 1 = .ok (.iload_n 1, 1) := by decide +kernel
theorem dX8_verify_2 : decode cX8_verify 2 = .ok (.invokevirtual 67, 3) := by decide +kernel
theorem dX8_verify_5 : decode cX8_verify 5 = .ok (.astore_n 2, 1) := by decide +kernel
theorem dX8_verify_6 : decode cX8_verify 6 = .ok (.aload_n 2, 1) := by decide +kernel
theorem dX8_verify_7 : decode cX8_verify 7 = .ok (.ifnonnull 5, 3) := by decide +kernel
theorem dX8_verify_10 : decode cX8_verify 10 = .ok (.iconst (-1), 1) := by decide +kernel
theorem dX8_verify_11 : decode cX8_verify 11 = .ok (.ireturn, 1) := by decide +kernel
theorem dX8_verify_12 : decode cX8_verify 12 = .ok (.aload_n 2, 1) := by decide +kernel
theorem dX8_verify_13 : decode cX8_verify 13 = .ok (.getfield 121, 3) := by decide +kernel
theorem dX8_verify_16 : decode cX8_verify 16 = .ok (.ifCond .ne 6, 3) := by decide +kernel
theorem dX8_verify_19 : decode cX8_verify 19 = .ok (.bipush (-3), 2) := by decide +kernel
theorem dX8_verify_21 : decode cX8_verify 21 = .ok (.ireturn, 1) := by decide +kernel
theorem dX8_verify_22 : decode cX8_verify 22 = .ok (.aload_n 0, 1) := by decide +kernel
theorem dX8_verify_23 : decode cX8_verify 23 = .ok (.getfield 40, 3) := by decide +kernel
theorem dX8_verify_26 : decode cX8_verify 26 = .ok (.aload_n 2, 1) := by decide +kernel
theorem dX8_verify_27 : decode cX8_verify 27 = .ok (.invokevirtual 169, 3) := by decide +kernel
theorem dX8_verify_30 : decode cX8_verify 30 = .ok (.istore_n 3, 1) := by decide +kernel
theorem dX8_verify_31 : decode cX8_verify 31 = .ok (.aload_n 0, 1) := by decide +kernel
theorem dX8_verify_32 : decode cX8_verify 32 = .ok (.aload_n 0, 1) := by decide +kernel
theorem dX8_verify_33 : decode cX8_verify 33 = .ok (.getfield 40, 3) := by decide +kernel
theorem dX8_verify_36 : decode cX8_verify 36 = .ok (.getfield 170, 3) := by decide +kernel
theorem dX8_verify_39 : decode cX8_verify 39 = .ok (.putfield 44, 3) := by decide +kernel
theorem dX8_verify_42 : decode cX8_verify 42 = .ok (.iload_n 3, 1) := by decide +kernel
theorem dX8_verify_43 : decode cX8_verify 43 = .ok (.iconst (-1), 1) := by decide +kernel
theorem dX8_verify_44 : decode cX8_verify 44 = .ok (.if_icmp .ne 7, 3) := by decide +kernel
theorem dX8_verify_47 : decode cX8_verify 47 = .ok (.iconst 0, 1) := by decide +kernel
theorem dX8_verify_48 : decode cX8_verify 48 = .ok (.goto 7, 3) := by decide +kernel
theorem dX8_verify_51 : decode cX8_verify 51 = .ok (.bipush (-10), 2) := by decide +kernel
theorem dX8_verify_53 : decode cX8_verify 53 = .ok (.iload_n 3, 1) := by decide +kernel
theorem dX8_verify_54 : decode cX8_verify 54 = .ok (.isub, 1) := by decide +kernel
theorem dX8_verify_55 : decode cX8_verify 55 = .ok (.ireturn, 1) := by decide +kernel
theorem dX8_told_0 : decode cX8_told 0 = .ok (.iload_n 1, 1) := by decide +kernel
theorem dX8_told_1 : decode cX8_told 1 = .ok (.ifCond .ne 11, 3) := by decide +kernel
theorem dX8_told_4 : decode cX8_told 4 = .ok (.aload_n 0, 1) := by decide +kernel
theorem dX8_told_5 : decode cX8_told 5 = .ok (.getfield 10, 3) := by decide +kernel
theorem dX8_told_8 : decode cX8_told 8 = .ok (.getfield 171, 3) := by decide +kernel
theorem dX8_told_11 : decode cX8_told 11 = .ok (.ireturn, 1) := by decide +kernel
theorem dX8_told_12 : decode cX8_told 12 = .ok (.iconst 1, 1) := by decide +kernel
theorem dX8_told_13 : decode cX8_told 13 = .ok (.iload_n 1, 1) := by decide +kernel
theorem dX8_told_14 : decode cX8_told 14 = .ok (.invokestatic 174, 3) := by decide +kernel
theorem dX8_told_17 : decode cX8_told 17 = .ok (.ifCond .eq 11, 3) := by decide +kernel
theorem dX8_told_20 : decode cX8_told 20 = .ok (.aload_n 0, 1) := by decide +kernel
theorem dX8_told_21 : decode cX8_told 21 = .ok (.iload_n 1, 1) := by decide +kernel
theorem dX8_told_22 : decode cX8_told 22 = .ok (.iconst 1, 1) := by decide +kernel
theorem dX8_told_23 : decode cX8_told 23 = .ok (.isub, 1) := by decide +kernel
theorem dX8_told_24 : decode cX8_told 24 = .ok (.invokevirtual 177, 3) := by decide +kernel
theorem dX8_told_27 : decode cX8_told 27 = .ok (.ireturn, 1) := by decide +kernel
theorem dX8_told_28 : decode cX8_told 28 = .ok (.bipush 11, 2) := by decide +kernel
theorem dX8_told_30 : decode cX8_told 30 = .ok (.iload_n 1, 1) := by decide +kernel
theorem dX8_told_31 : decode cX8_told 31 = .ok (.invokestatic 174, 3) := by decide +kernel
theorem dX8_told_34 : decode cX8_told 34 = .ok (.ifCond .eq 12, 3) := by decide +kernel
theorem dX8_told_37 : decode cX8_told 37 = .ok (.aload_n 0, 1) := by decide +kernel
theorem dX8_told_38 : decode cX8_told 38 = .ok (.iload_n 1, 1) := by decide +kernel
theorem dX8_told_39 : decode cX8_told 39 = .ok (.bipush 11, 2) := by decide +kernel
theorem dX8_told_41 : decode cX8_told 41 = .ok (.isub, 1) := by decide +kernel
theorem dX8_told_42 : decode cX8_told 42 = .ok (.invokevirtual 180, 3) := by decide +kernel
theorem dX8_told_45 : decode cX8_told 45 = .ok (.ireturn, 1) := by decide +kernel
theorem dX8_told_46 : decode cX8_told 46 = .ok (.bipush 21, 2) := by decide +kernel
theorem dX8_told_48 : decode cX8_told 48 = .ok (.iload_n 1, 1) := by decide +kernel
theorem dX8_told_49 : decode cX8_told 49 = .ok (.invokestatic 174, 3) := by decide +kernel
theorem dX8_told_52 : decode cX8_told 52 = .ok (.ifCond .eq 12, 3) := by decide +kernel
theorem dX8_told_55 : decode cX8_told 55 = .ok (.aload_n 0, 1) := by decide +kernel
theorem dX8_told_56 : decode cX8_told 56 = .ok (.iload_n 1, 1) := by decide +kernel
theorem dX8_told_57 : decode cX8_told 57 = .ok (.bipush 21, 2) := by decide +kernel
theorem dX8_told_59 : decode cX8_told 59 = .ok (.isub, 1) := by decide +kernel
theorem dX8_told_60 : decode cX8_told 60 = .ok (.invokevirtual 183, 3) := by decide +kernel
theorem dX8_told_63 : decode cX8_told 63 = .ok (.ireturn, 1) := by decide +kernel
theorem dX8_told_64 : decode cX8_told 64 = .ok (.bipush 31, 2) := by decide +kernel
theorem dX8_told_66 : decode cX8_told 66 = .ok (.iload_n 1, 1) := by decide +kernel
theorem dX8_told_67 : decode cX8_told 67 = .ok (.invokestatic 174, 3) := by decide +kernel
theorem dX8_told_70 : decode cX8_told 70 = .ok (.ifCond .eq 14, 3) := by decide +kernel
theorem dX8_told_73 : decode cX8_told 73 = .ok (.aload_n 0, 1) := by decide +kernel
theorem dX8_told_74 : decode cX8_told 74 = .ok (.iload_n 1, 1) := by decide +kernel
theorem dX8_told_75 : decode cX8_told 75 = .ok (.bipush 31, 2) := by decide +kernel
theorem dX8_told_77 : decode cX8_told 77 = .ok (.isub, 1) := by decide +kernel
theorem dX8_told_78 : decode cX8_told 78 = .ok (.invokevirtual 186, 3) := by decide +kernel
theorem dX8_told_81 : decode cX8_told 81 = .ok (.goto 4, 3) := by decide +kernel
theorem dX8_told_84 : decode cX8_told 84 = .ok (.iconst (-1), 1) := by decide +kernel
theorem dX8_told_85 : decode cX8_told 85 = .ok (.ireturn, 1) := by decide +kernel
theorem dX8_isAskedFrom_0 : decode cX8_isAskedFrom 0 = .ok (.iload_n 1, 1) := by decide +kernel
theorem dX8_isAskedFrom_1 : decode cX8_isAskedFrom 1 = .ok (.iload_n 0, 1) := by decide +kernel
theorem dX8_isAskedFrom_2 : decode cX8_isAskedFrom 2 = .ok (.if_icmp .lt 15, 3) := by decide +kernel
theorem dX8_isAskedFrom_5 : decode cX8_isAskedFrom 5 = .ok (.iload_n 1, 1) := by decide +kernel
theorem dX8_isAskedFrom_6 : decode cX8_isAskedFrom 6 = .ok (.iload_n 0, 1) := by decide +kernel
theorem dX8_isAskedFrom_7 : decode cX8_isAskedFrom 7 = .ok (.bipush 8, 2) := by decide +kernel
theorem dX8_isAskedFrom_9 : decode cX8_isAskedFrom 9 = .ok (.iadd, 1) := by decide +kernel
theorem dX8_isAskedFrom_10 : decode cX8_isAskedFrom 10 = .ok (.if_icmp .ge 7, 3) := by decide +kernel
theorem dX8_isAskedFrom_13 : decode cX8_isAskedFrom 13 = .ok (.iconst 1, 1) := by decide +kernel
theorem dX8_isAskedFrom_14 : decode cX8_isAskedFrom 14 = .ok (.goto 4, 3) := by decide +kernel
theorem dX8_isAskedFrom_17 : decode cX8_isAskedFrom 17 = .ok (.iconst 0, 1) := by decide +kernel
theorem dX8_isAskedFrom_18 : decode cX8_isAskedFrom 18 = .ok (.ireturn, 1) := by decide +kernel
theorem dX8_toldActs_0 : decode cX8_toldActs 0 = .ok (.aload_n 0, 1) := by decide +kernel
theorem dX8_toldActs_1 : decode cX8_toldActs 1 = .ok (.iload_n 1, 1) := by decide +kernel
theorem dX8_toldActs_2 : decode cX8_toldActs 2 = .ok (.invokevirtual 67, 3) := by decide +kernel
theorem dX8_toldActs_5 : decode cX8_toldActs 5 = .ok (.astore_n 2, 1) := by decide +kernel
theorem dX8_toldActs_6 : decode cX8_toldActs 6 = .ok (.aload_n 2, 1) := by decide +kernel
theorem dX8_toldActs_7 : decode cX8_toldActs 7 = .ok (.ifnonnull 7, 3) := by decide +kernel
theorem dX8_toldActs_10 : decode cX8_toldActs 10 = .ok (.iconst (-1), 1) := by decide +kernel
theorem dX8_toldActs_11 : decode cX8_toldActs 11 = .ok (.goto 7, 3) := by decide +kernel
theorem dX8_toldActs_14 : decode cX8_toldActs 14 = .ok (.aload_n 2, 1) := by decide +kernel
theorem dX8_toldActs_15 : decode cX8_toldActs 15 = .ok (.getfield 71, 3) := by decide +kernel
theorem dX8_toldActs_18 : decode cX8_toldActs 18 = .ok (.ireturn, 1) := by decide +kernel
theorem dX8_toldGuards_0 : decode cX8_toldGuards 0 = .ok (.aload_n 0, 1) := by decide +kernel
theorem dX8_toldGuards_1 : decode cX8_toldGuards 1 = .ok (.iload_n 1, 1) := by decide +kernel
theorem dX8_toldGuards_2 : decode cX8_toldGuards 2 = .ok (.invokevirtual 67, 3) := by decide +kernel
theorem dX8_toldGuards_5 : decode cX8_toldGuards 5 = .ok (.astore_n 2, 1) := by decide +kernel
theorem dX8_toldGuards_6 : decode cX8_toldGuards 6 = .ok (.aload_n 2, 1) := by decide +kernel
theorem dX8_toldGuards_7 : decode cX8_toldGuards 7 = .ok (.ifnonnull 7, 3) := by decide +kernel
theorem dX8_toldGuards_10 : decode cX8_toldGuards 10 = .ok (.iconst (-1), 1) := by decide +kernel
theorem dX8_toldGuards_11 : decode cX8_toldGuards 11 = .ok (.goto 7, 3) := by decide +kernel
theorem dX8_toldGuards_14 : decode cX8_toldGuards 14 = .ok (.aload_n 2, 1) := by decide +kernel
theorem dX8_toldGuards_15 : decode cX8_toldGuards 15 = .ok (.getfield 189, 3) := by decide +kernel
theorem dX8_toldGuards_18 : decode cX8_toldGuards 18 = .ok (.ireturn, 1) := by decide +kernel
theorem dX8_toldPlaces_0 : decode cX8_toldPlaces 0 = .ok (.aload_n 0, 1) := by decide +kernel
theorem dX8_toldPlaces_1 : decode cX8_toldPlaces 1 = .ok (.iload_n 1, 1) := by decide +kernel
theorem dX8_toldPlaces_2 : decode cX8_toldPlaces 2 = .ok (.invokevirtual 67, 3) := by decide +kernel
theorem dX8_toldPlaces_5 : decode cX8_toldPlaces 5 = .ok (.astore_n 2, 1) := by decide +kernel
theorem dX8_toldPlaces_6 : decode cX8_toldPlaces 6 = .ok (.aload_n 2, 1) := by decide +kernel
theorem dX8_toldPlaces_7 : decode cX8_toldPlaces 7 = .ok (.ifnonnull 7, 3) := by decide +kernel
theorem dX8_toldPlaces_10 : decode cX8_toldPlaces 10 = .ok (.iconst (-1), 1) := by decide +kernel
theorem dX8_toldPlaces_11 : decode cX8_toldPlaces 11 = .ok (.goto 7, 3) := by decide +kernel
theorem dX8_toldPlaces_14 : decode cX8_toldPlaces 14 = .ok (.aload_n 2, 1) := by decide +kernel
theorem dX8_toldPlaces_15 : decode cX8_toldPlaces 15 = .ok (.getfield 192, 3) := by decide +kernel
theorem dX8_toldPlaces_18 : decode cX8_toldPlaces 18 = .ok (.ireturn, 1) := by decide +kernel
theorem dX8_toldFrames_0 : decode cX8_toldFrames 0 = .ok (.aload_n 0, 1) := by decide +kernel
theorem dX8_toldFrames_1 : decode cX8_toldFrames 1 = .ok (.iload_n 1, 1) := by decide +kernel
theorem dX8_toldFrames_2 : decode cX8_toldFrames 2 = .ok (.invokevirtual 67, 3) := by decide +kernel
theorem dX8_toldFrames_5 : decode cX8_toldFrames 5 = .ok (.astore_n 2, 1) := by decide +kernel
theorem dX8_toldFrames_6 : decode cX8_toldFrames 6 = .ok (.aload_n 2, 1) := by decide +kernel
theorem dX8_toldFrames_7 : decode cX8_toldFrames 7 = .ok (.ifnonnull 5, 3) := by decide +kernel
theorem dX8_toldFrames_10 : decode cX8_toldFrames 10 = .ok (.iconst (-1), 1) := by decide +kernel
theorem dX8_toldFrames_11 : decode cX8_toldFrames 11 = .ok (.ireturn, 1) := by decide +kernel
theorem dX8_toldFrames_12 : decode cX8_toldFrames 12 = .ok (.aload_n 2, 1) := by decide +kernel
theorem dX8_toldFrames_13 : decode cX8_toldFrames 13 = .ok (.getfield 121, 3) := by decide +kernel
theorem dX8_toldFrames_16 : decode cX8_toldFrames 16 = .ok (.ifCond .eq 10, 3) := by decide +kernel
theorem dX8_toldFrames_19 : decode cX8_toldFrames 19 = .ok (.aload_n 2, 1) := by decide +kernel
theorem dX8_toldFrames_20 : decode cX8_toldFrames 20 = .ok (.invokevirtual 107, 3) := by decide +kernel
theorem dX8_toldFrames_23 : decode cX8_toldFrames 23 = .ok (.goto 5, 3) := by decide +kernel
theorem dX8_toldFrames_26 : decode cX8_toldFrames 26 = .ok (.bipush (-4), 2) := by decide +kernel
theorem dX8_toldFrames_28 : decode cX8_toldFrames 28 = .ok (.ireturn, 1) := by decide +kernel
theorem dX8_methodAt_0 : decode cX8_methodAt 0 = .ok (.iload_n 1, 1) := by decide +kernel
theorem dX8_methodAt_1 : decode cX8_methodAt 1 = .ok (.ifCond .lt 18, 3) := by decide +kernel
theorem dX8_methodAt_4 : decode cX8_methodAt 4 = .ok (.iload_n 1, 1) := by decide +kernel
theorem dX8_methodAt_5 : decode cX8_methodAt 5 = .ok (.bipush 8, 2) := by decide +kernel
theorem dX8_methodAt_7 : decode cX8_methodAt 7 = .ok (.if_icmp .ge 12, 3) := by decide +kernel
theorem dX8_methodAt_10 : decode cX8_methodAt 10 = .ok (.aload_n 0, 1) := by decide +kernel
theorem dX8_methodAt_11 : decode cX8_methodAt 11 = .ok (.getfield 18, 3) := by decide +kernel
theorem dX8_methodAt_14 : decode cX8_methodAt 14 = .ok (.iload_n 1, 1) := by decide +kernel
theorem dX8_methodAt_15 : decode cX8_methodAt 15 = .ok (.aaload, 1) := by decide +kernel
theorem dX8_methodAt_16 : decode cX8_methodAt 16 = .ok (.goto 4, 3) := by decide +kernel
theorem dX8_methodAt_19 : decode cX8_methodAt 19 = .ok (.aconst_null, 1) := by decide +kernel
theorem dX8_methodAt_20 : decode cX8_methodAt 20 = .ok (.areturn, 1) := by decide +kernel
theorem dX8_isPlace_0 : decode cX8_isPlace 0 = .ok (.iload_n 0, 1) := by decide +kernel
theorem dX8_isPlace_1 : decode cX8_isPlace 1 = .ok (.ifCond .lt 13, 3) := by decide +kernel
theorem dX8_isPlace_4 : decode cX8_isPlace 4 = .ok (.iload_n 0, 1) := by decide +kernel
theorem dX8_isPlace_5 : decode cX8_isPlace 5 = .ok (.bipush 8, 2) := by decide +kernel
theorem dX8_isPlace_7 : decode cX8_isPlace 7 = .ok (.if_icmp .ge 7, 3) := by decide +kernel
theorem dX8_isPlace_10 : decode cX8_isPlace 10 = .ok (.iconst 1, 1) := by decide +kernel
theorem dX8_isPlace_11 : decode cX8_isPlace 11 = .ok (.goto 4, 3) := by decide +kernel
theorem dX8_isPlace_14 : decode cX8_isPlace 14 = .ok (.iconst 0, 1) := by decide +kernel
theorem dX8_isPlace_15 : decode cX8_isPlace 15 = .ok (.ireturn, 1) := by decide +kernel
theorem dX8_isOnStack_0 : decode cX8_isOnStack 0 = .ok (.iload_n 0, 1) := by decide +kernel
theorem dX8_isOnStack_1 : decode cX8_isOnStack 1 = .ok (.bipush 100, 2) := by decide +kernel
theorem dX8_isOnStack_3 : decode cX8_isOnStack 3 = .ok (.if_icmp .lt 13, 3) := by decide +kernel
theorem dX8_isOnStack_6 : decode cX8_isOnStack 6 = .ok (.iload_n 0, 1) := by decide +kernel
theorem dX8_isOnStack_7 : decode cX8_isOnStack 7 = .ok (.bipush 110, 2) := by decide +kernel
theorem dX8_isOnStack_9 : decode cX8_isOnStack 9 = .ok (.if_icmp .ge 7, 3) := by decide +kernel
theorem dX8_isOnStack_12 : decode cX8_isOnStack 12 = .ok (.iconst 1, 1) := by decide +kernel
theorem dX8_isOnStack_13 : decode cX8_isOnStack 13 = .ok (.goto 4, 3) := by decide +kernel
theorem dX8_isOnStack_16 : decode cX8_isOnStack 16 = .ok (.iconst 0, 1) := by decide +kernel
theorem dX8_isOnStack_17 : decode cX8_isOnStack 17 = .ok (.ireturn, 1) := by decide +kernel
theorem dX8_isActNumber_0 : decode cX8_isActNumber 0 = .ok (.iload_n 0, 1) := by decide +kernel
theorem dX8_isActNumber_1 : decode cX8_isActNumber 1 = .ok (.ifCond .lt 13, 3) := by decide +kernel
theorem dX8_isActNumber_4 : decode cX8_isActNumber 4 = .ok (.iload_n 0, 1) := by decide +kernel
theorem dX8_isActNumber_5 : decode cX8_isActNumber 5 = .ok (.bipush 40, 2) := by decide +kernel
theorem dX8_isActNumber_7 : decode cX8_isActNumber 7 = .ok (.if_icmp .ge 7, 3) := by decide +kernel
theorem dX8_isActNumber_10 : decode cX8_isActNumber 10 = .ok (.iconst 1, 1) := by decide +kernel
theorem dX8_isActNumber_11 : decode cX8_isActNumber 11 = .ok (.goto 4, 3) := by decide +kernel
theorem dX8_isActNumber_14 : decode cX8_isActNumber 14 = .ok (.iconst 0, 1) := by decide +kernel
theorem dX8_isActNumber_15 : decode cX8_isActNumber 15 = .ok (.ireturn, 1) := by decide +kernel
theorem dX8_isAct_0 : decode cX8_isAct 0 = .ok (.iload_n 1, 1) := by decide +kernel
theorem dX8_isAct_1 : decode cX8_isAct 1 = .ok (.tableswitch 145 0 20 #[99, 99, 99, 101, 101, 99, 99, 99, 99, 106, 106, 106, 106, 106, 115, 115, 120, 99, 106, 106, 101], 99) := by decide +kernel
theorem dX8_isAct_100 : decode cX8_isAct 100 = .ok (.iconst 1, 1) := by decide +kernel
theorem dX8_isAct_101 : decode cX8_isAct 101 = .ok (.ireturn, 1) := by decide +kernel
theorem dX8_isAct_102 : decode cX8_isAct 102 = .ok (.iload_n 2, 1) := by decide +kernel
theorem dX8_isAct_103 : decode cX8_isAct 103 = .ok (.invokestatic 115, 3) := by decide +kernel
theorem dX8_isAct_106 : decode cX8_isAct 106 = .ok (.ireturn, 1) := by decide +kernel
theorem dX8_isAct_107 : decode cX8_isAct 107 = .ok (.aload_n 0, 1) := by decide +kernel
theorem dX8_isAct_108 : decode cX8_isAct 108 = .ok (.getfield 10, 3) := by decide +kernel
theorem dX8_isAct_111 : decode cX8_isAct 111 = .ok (.iload_n 2, 1) := by decide +kernel
theorem dX8_isAct_112 : decode cX8_isAct 112 = .ok (.invokevirtual 48, 3) := by decide +kernel
theorem dX8_isAct_115 : decode cX8_isAct 115 = .ok (.ireturn, 1) := by decide +kernel
theorem dX8_isAct_116 : decode cX8_isAct 116 = .ok (.iload_n 2, 1) := by decide +kernel
theorem dX8_isAct_117 : decode cX8_isAct 117 = .ok (.invokestatic 93, 3) := by decide +kernel
theorem dX8_isAct_120 : decode cX8_isAct 120 = .ok (.ireturn, 1) := by decide +kernel
theorem dX8_isAct_121 : decode cX8_isAct 121 = .ok (.iload_n 2, 1) := by decide +kernel
theorem dX8_isAct_122 : decode cX8_isAct 122 = .ok (.invokestatic 93, 3) := by decide +kernel
theorem dX8_isAct_125 : decode cX8_isAct 125 = .ok (.ifCond .eq 19, 3) := by decide +kernel
theorem dX8_isAct_128 : decode cX8_isAct 128 = .ok (.iload_n 3, 1) := by decide +kernel
theorem dX8_isAct_129 : decode cX8_isAct 129 = .ok (.invokestatic 93, 3) := by decide +kernel
theorem dX8_isAct_132 : decode cX8_isAct 132 = .ok (.ifCond .eq 12, 3) := by decide +kernel
theorem dX8_isAct_135 : decode cX8_isAct 135 = .ok (.iload_n 2, 1) := by decide +kernel
theorem dX8_isAct_136 : decode cX8_isAct 136 = .ok (.iload_n 3, 1) := by decide +kernel
theorem dX8_isAct_137 : decode cX8_isAct 137 = .ok (.if_icmp .gt 7, 3) := by decide +kernel
theorem dX8_isAct_140 : decode cX8_isAct 140 = .ok (.iconst 1, 1) := by decide +kernel
theorem dX8_isAct_141 : decode cX8_isAct 141 = .ok (.goto 4, 3) := by decide +kernel
theorem dX8_isAct_144 : decode cX8_isAct 144 = .ok (.iconst 0, 1) := by decide +kernel
theorem dX8_isAct_145 : decode cX8_isAct 145 = .ok (.ireturn, 1) := by decide +kernel
theorem dX8_isAct_146 : decode cX8_isAct 146 = .ok (.iconst 0, 1) := by decide +kernel
theorem dX8_isAct_147 : decode cX8_isAct 147 = .ok (.ireturn, 1) := by decide +kernel
theorem dX8_plantPlace_0 : decode cX8_plantPlace 0 = .ok (.aload_n 1, 1) := by decide +kernel
theorem dX8_plantPlace_1 : decode cX8_plantPlace 1 = .ok (.iload_n 2, 1) := by decide +kernel
theorem dX8_plantPlace_2 : decode cX8_plantPlace 2 = .ok (.invokevirtual 195, 3) := by decide +kernel
theorem dX8_plantPlace_5 : decode cX8_plantPlace 5 = .ok (.istore 4, 2) := by decide +kernel
theorem dX8_plantPlace_7 : decode cX8_plantPlace 7 = .ok (.iload_n 2, 1) := by decide +kernel
theorem dX8_plantPlace_8 : decode cX8_plantPlace 8 = .ok (.aload_n 0, 1) := by decide +kernel
theorem dX8_plantPlace_9 : decode cX8_plantPlace 9 = .ok (.getfield 192, 3) := by decide +kernel
theorem dX8_plantPlace_12 : decode cX8_plantPlace 12 = .ok (.if_icmp .ge 15, 3) := by decide +kernel
theorem dX8_plantPlace_15 : decode cX8_plantPlace 15 = .ok (.iload 4, 2) := by decide +kernel
theorem dX8_plantPlace_17 : decode cX8_plantPlace 17 = .ok (.iconst 2, 1) := by decide +kernel
theorem dX8_plantPlace_18 : decode cX8_plantPlace 18 = .ok (.if_icmp .eq 9, 3) := by decide +kernel
theorem dX8_plantPlace_21 : decode cX8_plantPlace 21 = .ok (.iload 4, 2) := by decide +kernel
theorem dX8_plantPlace_23 : decode cX8_plantPlace 23 = .ok (.iconst 3, 1) := by decide +kernel
theorem dX8_plantPlace_24 : decode cX8_plantPlace 24 = .ok (.if_icmp .ne 5, 3) := by decide +kernel
theorem dX8_plantPlace_27 : decode cX8_plantPlace 27 = .ok (.iconst (-1), 1) := by decide +kernel
theorem dX8_plantPlace_28 : decode cX8_plantPlace 28 = .ok (.ireturn, 1) := by decide +kernel
theorem dX8_plantPlace_29 : decode cX8_plantPlace 29 = .ok (.aload_n 1, 1) := by decide +kernel
theorem dX8_plantPlace_30 : decode cX8_plantPlace 30 = .ok (.iload_n 2, 1) := by decide +kernel
theorem dX8_plantPlace_31 : decode cX8_plantPlace 31 = .ok (.iload_n 3, 1) := by decide +kernel
theorem dX8_plantPlace_32 : decode cX8_plantPlace 32 = .ok (.invokevirtual 198, 3) := by decide +kernel
theorem dX8_plantPlace_35 : decode cX8_plantPlace 35 = .ok (.iload 4, 2) := by decide +kernel
theorem dX8_plantPlace_37 : decode cX8_plantPlace 37 = .ok (.ireturn, 1) := by decide +kernel
theorem dX8_plantStack_0 : decode cX8_plantStack 0 = .ok (.aload_n 0, 1) := by decide +kernel
theorem dX8_plantStack_1 : decode cX8_plantStack 1 = .ok (.iload_n 1, 1) := by decide +kernel
theorem dX8_plantStack_2 : decode cX8_plantStack 2 = .ok (.invokevirtual 202, 3) := by decide +kernel
theorem dX8_plantStack_5 : decode cX8_plantStack 5 = .ok (.istore_n 3, 1) := by decide +kernel
theorem dX8_plantStack_6 : decode cX8_plantStack 6 = .ok (.iload_n 3, 1) := by decide +kernel
theorem dX8_plantStack_7 : decode cX8_plantStack 7 = .ok (.iconst (-1), 1) := by decide +kernel
theorem dX8_plantStack_8 : decode cX8_plantStack 8 = .ok (.if_icmp .eq 12, 3) := by decide +kernel
theorem dX8_plantStack_11 : decode cX8_plantStack 11 = .ok (.iload_n 3, 1) := by decide +kernel
theorem dX8_plantStack_12 : decode cX8_plantStack 12 = .ok (.iconst 2, 1) := by decide +kernel
theorem dX8_plantStack_13 : decode cX8_plantStack 13 = .ok (.if_icmp .eq 7, 3) := by decide +kernel
theorem dX8_plantStack_16 : decode cX8_plantStack 16 = .ok (.iload_n 2, 1) := by decide +kernel
theorem dX8_plantStack_17 : decode cX8_plantStack 17 = .ok (.ifCond .ne 5, 3) := by decide +kernel
theorem dX8_plantStack_20 : decode cX8_plantStack 20 = .ok (.iconst (-1), 1) := by decide +kernel
theorem dX8_plantStack_21 : decode cX8_plantStack 21 = .ok (.ireturn, 1) := by decide +kernel
theorem dX8_plantStack_22 : decode cX8_plantStack 22 = .ok (.aload_n 0, 1) := by decide +kernel
theorem dX8_plantStack_23 : decode cX8_plantStack 23 = .ok (.iload_n 1, 1) := by decide +kernel
theorem dX8_plantStack_24 : decode cX8_plantStack 24 = .ok (.iload_n 2, 1) := by decide +kernel
theorem dX8_plantStack_25 : decode cX8_plantStack 25 = .ok (.invokevirtual 205, 3) := by decide +kernel
theorem dX8_plantStack_28 : decode cX8_plantStack 28 = .ok (.iload_n 3, 1) := by decide +kernel
theorem dX8_plantStack_29 : decode cX8_plantStack 29 = .ok (.ireturn, 1) := by decide +kernel
