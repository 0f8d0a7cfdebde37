theorem dJ9_abs_0f7a4_0 : decode cJ9_abs_0f7a4 0 = .ok (.iload_n 0, 1) := by decide +kernel
theorem dJ9_abs_0f7a4_1 : decode cJ9_abs_0f7a4 1 = .ok (.ifCond .ge 8, 3) := by decide +kernel
theorem dJ9_abs_0f7a4_4 : decode cJ9_abs_0f7a4 4 = .ok (.iload_n 0, 1) := by decide +kernel
theorem dJ9_abs_0f7a4_5 : decode cJ9_abs_0f7a4 5 = .ok (.ineg, 1) := by decide +kernel
theorem dJ9_abs_0f7a4_6 : decode cJ9_abs_0f7a4 6 = .ok (.goto 4, 3) := by decide +kernel
theorem dJ9_abs_0f7a4_9 : decode cJ9_abs_0f7a4 9 = .ok (.iload_n 0, 1) := by decide +kernel
theorem dJ9_abs_0f7a4_10 : decode cJ9_abs_0f7a4 10 = .ok (.ireturn, 1) := by decide +kernel
theorem dJ9_max_7cf53_0 : decode cJ9_max_7cf53 0 = .ok (.iload_n 0, 1) := by decide +kernel
theorem dJ9_max_7cf53_1 : decode cJ9_max_7cf53 1 = .ok (.iload_n 1, 1) := by decide +kernel
theorem dJ9_max_7cf53_2 : decode cJ9_max_7cf53 2 = .ok (.if_icmp .lt 7, 3) := by decide +kernel
theorem dJ9_max_7cf53_5 : decode cJ9_max_7cf53 5 = .ok (.iload_n 0, 1) := by decide +kernel
theorem dJ9_max_7cf53_6 : decode cJ9_max_7cf53 6 = .ok (.goto 4, 3) := by decide +kernel
theorem dJ9_max_7cf53_9 : decode cJ9_max_7cf53 9 = .ok (.iload_n 1, 1) := by decide +kernel
theorem dJ9_max_7cf53_10 : decode cJ9_max_7cf53 10 = .ok (.ireturn, 1) := by decide +kernel
theorem dJ9_min_7cf53_0 : decode cJ9_min_7cf53 0 = .ok (.iload_n 0, 1) := by decide +kernel
theorem dJ9_min_7cf53_1 : decode cJ9_min_7cf53 1 = .ok (.iload_n 1, 1) := by decide +kernel
theorem dJ9_min_7cf53_2 : decode cJ9_min_7cf53 2 = .ok (.if_icmp .gt 7, 3) := by decide +kernel
theorem dJ9_min_7cf53_5 : decode cJ9_min_7cf53 5 = .ok (.iload_n 0, 1) := by decide +kernel
theorem dJ9_min_7cf53_6 : decode cJ9_min_7cf53 6 = .ok (.goto 4, 3) := by decide +kernel
theorem dJ9_min_7cf53_9 : decode cJ9_min_7cf53 9 = .ok (.iload_n 1, 1) := by decide +kernel
theorem dJ9_min_7cf53_10 : decode cJ9_min_7cf53 10 = .ok (.ireturn, 1) := by decide +kernel
theorem dJ7_fill_d0a16_0 : decode cJ7_fill_d0a16 0 = .ok (.iconst 0, 1) := by decide +kernel
theorem dJ7_fill_d0a16_1 : decode cJ7_fill_d0a16 1 = .ok (.istore_n 3, 1) := by decide +kernel
theorem dJ7_fill_d0a16_2 : decode cJ7_fill_d0a16 2 = .ok (.aload_n 0, 1) := by decide +kernel
theorem dJ7_fill_d0a16_3 : decode cJ7_fill_d0a16 3 = .ok (.arraylength, 1) := by decide +kernel
theorem dJ7_fill_d0a16_4 : decode cJ7_fill_d0a16 4 = .ok (.istore 4, 2) := by decide +kernel
theorem dJ7_fill_d0a16_6 : decode cJ7_fill_d0a16 6 = .ok (.iload_n 3, 1) := by decide +kernel
theorem dJ7_fill_d0a16_7 : decode cJ7_fill_d0a16 7 = .ok (.iload 4, 2) := by decide +kernel
theorem dJ7_fill_d0a16_9 : decode cJ7_fill_d0a16 9 = .ok (.if_icmp .ge 13, 3) := by decide +kernel
theorem dJ7_fill_d0a16_12 : decode cJ7_fill_d0a16 12 = .ok (.aload_n 0, 1) := by decide +kernel
theorem dJ7_fill_d0a16_13 : decode cJ7_fill_d0a16 13 = .ok (.iload_n 3, 1) := by decide +kernel
theorem dJ7_fill_d0a16_14 : decode cJ7_fill_d0a16 14 = .ok (.lload_n 1, 1) := by decide +kernel
theorem dJ7_fill_d0a16_15 : decode cJ7_fill_d0a16 15 = .ok (.lastore, 1) := by decide +kernel
theorem dJ7_fill_d0a16_16 : decode cJ7_fill_d0a16 16 = .ok (.iinc 3 1, 3) := by decide +kernel
theorem dJ7_fill_d0a16_19 : decode cJ7_fill_d0a16 19 = .ok (.goto (-13), 3) := by decide +kernel
theorem dJ7_fill_d0a16_22 : decode cJ7_fill_d0a16 22 = .ok (.return_, 1) := by decide +kernel
theorem dJ7_fill_53178_0 : decode cJ7_fill_53178 0 = .ok (.iconst 0, 1) := by decide +kernel
theorem dJ7_fill_53178_1 : decode cJ7_fill_53178 1 = .ok (.istore_n 2, 1) := by decide +kernel
theorem dJ7_fill_53178_2 : decode cJ7_fill_53178 2 = .ok (.aload_n 0, 1) := by decide +kernel
theorem dJ7_fill_53178_3 : decode cJ7_fill_53178 3 = .ok (.arraylength, 1) := by decide +kernel
theorem dJ7_fill_53178_4 : decode cJ7_fill_53178 4 = .ok (.istore_n 3, 1) := by decide +kernel
theorem dJ7_fill_53178_5 : decode cJ7_fill_53178 5 = .ok (.iload_n 2, 1) := by decide +kernel
theorem dJ7_fill_53178_6 : decode cJ7_fill_53178 6 = .ok (.iload_n 3, 1) := by decide +kernel
theorem dJ7_fill_53178_7 : decode cJ7_fill_53178 7 = .ok (.if_icmp .ge 13, 3) := by decide +kernel
theorem dJ7_fill_53178_10 : decode cJ7_fill_53178 10 = .ok (.aload_n 0, 1) := by decide +kernel
theorem dJ7_fill_53178_11 : decode cJ7_fill_53178 11 = .ok (.iload_n 2, 1) := by decide +kernel
theorem dJ7_fill_53178_12 : decode cJ7_fill_53178 12 = .ok (.iload_n 1, 1) := by decide +kernel
theorem dJ7_fill_53178_13 : decode cJ7_fill_53178 13 = .ok (.iastore, 1) := by decide +kernel
theorem dJ7_fill_53178_14 : decode cJ7_fill_53178 14 = .ok (.iinc 2 1, 3) := by decide +kernel
theorem dJ7_fill_53178_17 : decode cJ7_fill_53178 17 = .ok (.goto (-12), 3) := by decide +kernel
theorem dJ7_fill_53178_20 : decode cJ7_fill_53178 20 = .ok (.return_, 1) := by decide +kernel
theorem dX0_init_0 : decode cX0_init 0 = .ok (.aload_n 0, 1) := by decide +kernel
theorem dX0_init_1 : decode cX0_init 1 = .ok (.invokespecial 3, 3) := by decide +kernel
theorem dX0_init_4 : decode cX0_init 4 = .ok (.aload_n 0, 1) := by decide +kernel
theorem dX0_init_5 : decode cX0_init 5 = .ok (.bipush 50, 2) := by decide +kernel
theorem dX0_init_7 : decode cX0_init 7 = .ok (.newarray .int, 2) := by decide +kernel
theorem dX0_init_9 : decode cX0_init 9 = .ok (.putfield 11, 3) := by decide +kernel
theorem dX0_init_12 : decode cX0_init 12 = .ok (.aload_n 0, 1) := by decide +kernel
theorem dX0_init_13 : decode cX0_init 13 = .ok (.bipush 24, 2) := by decide +kernel
theorem dX0_init_15 : decode cX0_init 15 = .ok (.newarray .int, 2) := by decide +kernel
theorem dX0_init_17 : decode cX0_init 17 = .ok (.putfield 15, 3) := by decide +kernel
theorem dX0_init_20 : decode cX0_init 20 = .ok (.return_, 1) := by decide +kernel
theorem dX0_isKind_0 : decode cX0_isKind 0 = .ok (.iload_n 0, 1) := by decide +kernel
theorem dX0_isKind_1 : decode cX0_isKind 1 = .ok (.ifCond .lt 13, 3) := by decide +kernel
theorem dX0_isKind_4 : decode cX0_isKind 4 = .ok (.iload_n 0, 1) := by decide +kernel
theorem dX0_isKind_5 : decode cX0_isKind 5 = .ok (.bipush 8, 2) := by decide +kernel
theorem dX0_isKind_7 : decode cX0_isKind 7 = .ok (.if_icmp .ge 7, 3) := by decide +kernel
theorem dX0_isKind_10 : decode cX0_isKind 10 = .ok (.iconst 1, 1) := by decide +kernel
theorem dX0_isKind_11 : decode cX0_isKind 11 = .ok (.goto 4, 3) := by decide +kernel
theorem dX0_isKind_14 : decode cX0_isKind 14 = .ok (.iconst 0, 1) := by decide +kernel
theorem dX0_isKind_15 : decode cX0_isKind 15 = .ok (.ireturn, 1) := by decide +kernel
theorem dX0_isUnder_0 : decode cX0_isUnder 0 = .ok (.iload_n 0, 1) := by decide +kernel
theorem dX0_isUnder_1 : decode cX0_isUnder 1 = .ok (.istore_n 2, 1) := by decide +kernel
theorem dX0_isUnder_2 : decode cX0_isUnder 2 = .ok (.iconst 0, 1) := by decide +kernel
theorem dX0_isUnder_3 : decode cX0_isUnder 3 = .ok (.istore_n 3, 1) := by decide +kernel
theorem dX0_isUnder_4 : decode cX0_isUnder 4 = .ok (.iload_n 3, 1) := by decide +kernel
theorem dX0_isUnder_5 : decode cX0_isUnder 5 = .ok (.bipush 8, 2) := by decide +kernel
theorem dX0_isUnder_7 : decode cX0_isUnder 7 = .ok (.if_icmp .ge 29, 3) := by decide +kernel
theorem dX0_isUnder_10 : decode cX0_isUnder 10 = .ok (.iload_n 2, 1) := by decide +kernel
theorem dX0_isUnder_11 : decode cX0_isUnder 11 = .ok (.invokestatic 18, 3) := by decide +kernel
theorem dX0_isUnder_14 : decode cX0_isUnder 14 = .ok (.ifCond .eq 22, 3) := by decide +kernel
theorem dX0_isUnder_17 : decode cX0_isUnder 17 = .ok (.iload_n 2, 1) := by decide +kernel
theorem dX0_isUnder_18 : decode cX0_isUnder 18 = .ok (.iload_n 1, 1) := by decide +kernel
theorem dX0_isUnder_19 : decode cX0_isUnder 19 = .ok (.if_icmp .ne 5, 3) := by decide +kernel
theorem dX0_isUnder_22 : decode cX0_isUnder 22 = .ok (.iconst 1, 1) := by decide +kernel
theorem dX0_isUnder_23 : decode cX0_isUnder 23 = .ok (.ireturn, 1) := by decide +kernel
theorem dX0_isUnder_24 : decode cX0_isUnder 24 = .ok (.getstatic 22, 3) := by decide +kernel
theorem dX0_isUnder_27 : decode cX0_isUnder 27 = .ok (.iload_n 2, 1) := by decide +kernel
theorem dX0_isUnder_28 : decode cX0_isUnder 28 = .ok (.iaload, 1) := by decide +kernel
theorem dX0_isUnder_29 : decode cX0_isUnder 29 = .ok (.istore_n 2, 1) := by decide +kernel
theorem dX0_isUnder_30 : decode cX0_isUnder 30 = .ok (.iinc 3 1, 3) := by decide +kernel
theorem dX0_isUnder_33 : decode cX0_isUnder 33 = .ok (.goto (-29), 3) := by decide +kernel
theorem dX0_isUnder_36 : decode cX0_isUnder 36 = .ok (.iconst 0, 1) := by decide +kernel
theorem dX0_isUnder_37 : decode cX0_isUnder 37 = .ok (.ireturn, 1) := by decide +kernel
theorem dX0_isFull_0 : decode cX0_isFull 0 = .ok (.aload_n 0, 1) := by decide +kernel
theorem dX0_isFull_1 : decode cX0_isFull 1 = .ok (.getfield 25, 3) := by decide +kernel
theorem dX0_isFull_4 : decode cX0_isFull 4 = .ok (.bipush 50, 2) := by decide +kernel
theorem dX0_isFull_6 : decode cX0_isFull 6 = .ok (.if_icmp .lt 7, 3) := by decide +kernel
theorem dX0_isFull_9 : decode cX0_isFull 9 = .ok (.iconst 1, 1) := by decide +kernel
theorem dX0_isFull_10 : decode cX0_isFull 10 = .ok (.goto 4, 3) := by decide +kernel
theorem dX0_isFull_13 : decode cX0_isFull 13 = .ok (.iconst 0, 1) := by decide +kernel
theorem dX0_isFull_14 : decode cX0_isFull 14 = .ok (.ireturn, 1) := by decide +kernel
theorem dX0_has_0 : decode cX0_has 0 = .ok (.iload_n 1, 1) := by decide +kernel
theorem dX0_has_1 : decode cX0_has 1 = .ok (.ifCond .lt 15, 3) := by decide +kernel
theorem dX0_has_4 : decode cX0_has 4 = .ok (.iload_n 1, 1) := by decide +kernel
theorem dX0_has_5 : decode cX0_has 5 = .ok (.aload_n 0, 1) := by decide +kernel
theorem dX0_has_6 : decode cX0_has 6 = .ok (.getfield 25, 3) := by decide +kernel
theorem dX0_has_9 : decode cX0_has 9 = .ok (.if_icmp .ge 7, 3) := by decide +kernel
theorem dX0_has_12 : decode cX0_has 12 = .ok (.iconst 1, 1) := by decide +kernel
theorem dX0_has_13 : decode cX0_has 13 = .ok (.goto 4, 3) := by decide +kernel
theorem dX0_has_16 : decode cX0_has 16 = .ok (.iconst 0, 1) := by decide +kernel
theorem dX0_has_17 : decode cX0_has 17 = .ok (.ireturn, 1) := by decide +kernel
theorem dX0_add_0 : decode cX0_add 0 = .ok (.aload_n 0, 1) := by decide +kernel
theorem dX0_add_1 : decode cX0_add 1 = .ok (.invokevirtual 29, 3) := by decide +kernel
theorem dX0_add_4 : decode cX0_add 4 = .ok (.ifCond .eq 6, 3) := by decide +kernel
theorem dX0_add_7 : decode cX0_add 7 = .ok (.bipush (-3), 2) := by decide +kernel
theorem dX0_add_9 : decode cX0_add 9 = .ok (.ireturn, 1) := by decide +kernel
theorem dX0_add_10 : decode cX0_add 10 = .ok (.aload_n 0, 1) := by decide +kernel
theorem dX0_add_11 : decode cX0_add 11 = .ok (.getfield 11, 3) := by decide +kernel
theorem dX0_add_14 : decode cX0_add 14 = .ok (.aload_n 0, 1) := by decide +kernel
theorem dX0_add_15 : decode cX0_add 15 = .ok (.getfield 25, 3) := by decide +kernel
theorem dX0_add_18 : decode cX0_add 18 = .ok (.iload_n 1, 1) := by decide +kernel
theorem dX0_add_19 : decode cX0_add 19 = .ok (.iastore, 1) := by decide +kernel
theorem dX0_add_20 : decode cX0_add 20 = .ok (.aload_n 0, 1) := by decide +kernel
theorem dX0_add_21 : decode cX0_add 21 = .ok (.dup, 1) := by decide +kernel
theorem dX0_add_22 : decode cX0_add 22 = .ok (.getfield 25, 3) := by decide +kernel
theorem dX0_add_25 : decode cX0_add 25 = .ok (.iconst 1, 1) := by decide +kernel
theorem dX0_add_26 : decode cX0_add 26 = .ok (.iadd, 1) := by decide +kernel
theorem dX0_add_27 : decode cX0_add 27 = .ok (.putfield 25, 3) := by decide +kernel
theorem dX0_add_30 : decode cX0_add 30 = .ok (.aload_n 0, 1) := by decide +kernel
theorem dX0_add_31 : decode cX0_add 31 = .ok (.getfield 25, 3) := by decide +kernel
theorem dX0_add_34 : decode cX0_add 34 = .ok (.iconst 1, 1) := by decide +kernel
theorem dX0_add_35 : decode cX0_add 35 = .ok (.isub, 1) := by decide +kernel
theorem dX0_add_36 : decode cX0_add 36 = .ok (.ireturn, 1) := by decide +kernel
theorem dX0_kindOf_0 : decode cX0_kindOf 0 = .ok (.aload_n 0, 1) := by decide +kernel
theorem dX0_kindOf_1 : decode cX0_kindOf 1 = .ok (.iload_n 1, 1) := by decide +kernel
theorem dX0_kindOf_2 : decode cX0_kindOf 2 = .ok (.invokevirtual 33, 3) := by decide +kernel
theorem dX0_kindOf_5 : decode cX0_kindOf 5 = .ok (.ifCond .eq 12, 3) := by decide +kernel
theorem dX0_kindOf_8 : decode cX0_kindOf 8 = .ok (.aload_n 0, 1) := by decide +kernel
theorem dX0_kindOf_9 : decode cX0_kindOf 9 = .ok (.getfield 11, 3) := by decide +kernel
theorem dX0_kindOf_12 : decode cX0_kindOf 12 = .ok (.iload_n 1, 1) := by decide +kernel
theorem dX0_kindOf_13 : decode cX0_kindOf 13 = .ok (.iaload, 1) := by decide +kernel
theorem dX0_kindOf_14 : decode cX0_kindOf 14 = .ok (.goto 4, 3) := by decide +kernel
theorem dX0_kindOf_17 : decode cX0_kindOf 17 = .ok (.iconst (-1), 1) := by decide +kernel
theorem dX0_kindOf_18 : decode cX0_kindOf 18 = .ok (.ireturn, 1) := by decide +kernel
theorem dX0_hasTrace_0 : decode cX0_hasTrace 0 = .ok (.iload_n 1, 1) := by decide +kernel
theorem dX0_hasTrace_1 : decode cX0_hasTrace 1 = .ok (.ifCond .lt 20, 3) := by decide +kernel
theorem dX0_hasTrace_4 : decode cX0_hasTrace 4 = .ok (.iload_n 1, 1) := by decide +kernel
theorem dX0_hasTrace_5 : decode cX0_hasTrace 5 = .ok (.aload_n 0, 1) := by decide +kernel
theorem dX0_hasTrace_6 : decode cX0_hasTrace 6 = .ok (.getfield 36, 3) := by decide +kernel
theorem dX0_hasTrace_9 : decode cX0_hasTrace 9 = .ok (.bipush 24, 2) := by decide +kernel
theorem dX0_hasTrace_11 : decode cX0_hasTrace 11 = .ok (.invokestatic 39, 3) := by decide +kernel
theorem dX0_hasTrace_14 : decode cX0_hasTrace 14 = .ok (.if_icmp .ge 7, 3) := by decide +kernel
theorem dX0_hasTrace_17 : decode cX0_hasTrace 17 = .ok (.iconst 1, 1) := by decide +kernel
theorem dX0_hasTrace_18 : decode cX0_hasTrace 18 = .ok (.goto 4, 3) := by decide +kernel
theorem dX0_hasTrace_21 : decode cX0_hasTrace 21 = .ok (.iconst 0, 1) := by decide +kernel
theorem dX0_hasTrace_22 : decode cX0_hasTrace 22 = .ok (.ireturn, 1) := by decide +kernel
theorem dX0_traceAt_0 : decode cX0_traceAt 0 = .ok (.aload_n 0, 1) := by decide +kernel
theorem dX0_traceAt_1 : decode cX0_traceAt 1 = .ok (.iload_n 1, 1) := by decide +kernel
theorem dX0_traceAt_2 : decode cX0_traceAt 2 = .ok (.invokevirtual 45, 3) := by decide +kernel
theorem dX0_traceAt_5 : decode cX0_traceAt 5 = .ok (.ifCond .eq 12, 3) := by decide +kernel
theorem dX0_traceAt_8 : decode cX0_traceAt 8 = .ok (.aload_n 0, 1) := by decide +kernel
theorem dX0_traceAt_9 : decode cX0_traceAt 9 = .ok (.getfield 15, 3) := by decide +kernel
theorem dX0_traceAt_12 : decode cX0_traceAt 12 = .ok (.iload_n 1, 1) := by decide +kernel
theorem dX0_traceAt_13 : decode cX0_traceAt 13 = .ok (.iaload, 1) := by decide +kernel
theorem dX0_traceAt_14 : decode cX0_traceAt 14 = .ok (.goto 4, 3) := by decide +kernel
theorem dX0_traceAt_17 : decode cX0_traceAt 17 = .ok (.iconst 0, 1) := by decide +kernel
theorem dX0_traceAt_18 : decode cX0_traceAt 18 = .ok (.ireturn, 1) := by decide +kernel
theorem dX0_start_0 : decode cX0_start 0 = .ok (.aload_n 0, 1) := by decide +kernel
theorem dX0_start_1 : decode cX0_start 1 = .ok (.iconst 0, 1) := by decide +kernel
theorem dX0_start_2 : decode cX0_start 2 = .ok (.putfield 36, 3) := by decide +kernel
theorem dX0_start_5 : decode cX0_start 5 = .ok (.aload_n 0, 1) := by decide +kernel
theorem dX0_start_6 : decode cX0_start 6 = .ok (.iload_n 1, 1) := by decide +kernel
theorem dX0_start_7 : decode cX0_start 7 = .ok (.invokevirtual 33, 3) := by decide +kernel
theorem dX0_start_10 : decode cX0_start 10 = .ok (.ifCond .eq 12, 3) := by decide +kernel
theorem dX0_start_13 : decode cX0_start 13 = .ok (.iload_n 2, 1) := by decide +kernel
theorem dX0_start_14 : decode cX0_start 14 = .ok (.ifCond .lt 8, 3) := by decide +kernel
theorem dX0_start_17 : decode cX0_start 17 = .ok (.iload_n 2, 1) := by decide +kernel
theorem dX0_start_18 : decode cX0_start 18 = .ok (.iconst 4, 1) := by decide +kernel
theorem dX0_start_19 : decode cX0_start 19 = .ok (.if_icmp .lt 5, 3) := by decide +kernel
theorem dX0_start_22 : decode cX0_start 22 = .ok (.iconst 0, 1) := by decide +kernel
theorem dX0_start_23 : decode cX0_start 23 = .ok (.ireturn, 1) := by decide +kernel
theorem dX0_start_24 : decode cX0_start 24 = .ok (.aload_n 0, 1) := by decide +kernel
theorem dX0_start_25 : decode cX0_start 25 = .ok (.iload_n 1, 1) := by decide +kernel
theorem dX0_start_26 : decode cX0_start 26 = .ok (.putfield 48, 3) := by decide +kernel
theorem dX0_start_29 : decode cX0_start 29 = .ok (.aload_n 0, 1) := by decide +kernel
theorem dX0_start_30 : decode cX0_start 30 = .ok (.aload_n 0, 1) := by decide +kernel
theorem dX0_start_31 : decode cX0_start 31 = .ok (.iload_n 1, 1) := by decide +kernel
theorem dX0_start_32 : decode cX0_start 32 = .ok (.invokevirtual 51, 3) := by decide +kernel
theorem dX0_start_35 : decode cX0_start 35 = .ok (.iload_n 2, 1) := by decide +kernel
theorem dX0_start_36 : decode cX0_start 36 = .ok (.iload_n 3, 1) := by decide +kernel
theorem dX0_start_37 : decode cX0_start 37 = .ok (.iconst 0, 1) := by decide +kernel
theorem dX0_start_38 : decode cX0_start 38 = .ok (.invokevirtual 55, 3) := by decide +kernel
theorem dX0_start_41 : decode cX0_start 41 = .ok (.ireturn, 1) := by decide +kernel
theorem dX0_call_0 : decode cX0_call 0 = .ok (.iload_n 1, 1) := by decide +kernel
theorem dX0_call_1 : decode cX0_call 1 = .ok (.iload_n 2, 1) := by decide +kernel
theorem dX0_call_2 : decode cX0_call 2 = .ok (.invokestatic 59, 3) := by decide +kernel
theorem dX0_call_5 : decode cX0_call 5 = .ok (.istore 5, 2) := by decide +kernel
theorem dX0_call_7 : decode cX0_call 7 = .ok (.iload 5, 2) := by decide +kernel
theorem dX0_call_9 : decode cX0_call 9 = .ok (.invokestatic 18, 3) := by decide +kernel
theorem dX0_call_12 : decode cX0_call 12 = .ok (.ifCond .eq 10, 3) := by decide +kernel
theorem dX0_call_15 : decode cX0_call 15 = .ok (.iload 4, 2) := by decide +kernel
theorem dX0_call_17 : decode cX0_call 17 = .ok (.bipush 24, 2) := by decide +kernel
theorem dX0_call_19 : decode cX0_call 19 = .ok (.if_icmp .lt 5, 3) := by decide +kernel
theorem dX0_call_22 : decode cX0_call 22 = .ok (.iconst 0, 1) := by decide +kernel
theorem dX0_call_23 : decode cX0_call 23 = .ok (.ireturn, 1) := by decide +kernel
theorem dX0_call_24 : decode cX0_call 24 = .ok (.getstatic 62, 3) := by decide +kernel
theorem dX0_call_27 : decode cX0_call 27 = .ok (.iload 5, 2) := by decide +kernel
theorem dX0_call_29 : decode cX0_call 29 = .ok (.iconst 4, 1) := by decide +kernel
theorem dX0_call_30 : decode cX0_call 30 = .ok (.imul, 1) := by decide +kernel
theorem dX0_call_31 : decode cX0_call 31 = .ok (.iload_n 2, 1) := by decide +kernel
theorem dX0_call_32 : decode cX0_call 32 = .ok (.iadd, 1) := by decide +kernel
theorem dX0_call_33 : decode cX0_call 33 = .ok (.iaload, 1) := by decide +kernel
theorem dX0_call_34 : decode cX0_call 34 = .ok (.istore 6, 2) := by decide +kernel
theorem dX0_call_36 : decode cX0_call 36 = .ok (.aload_n 0, 1) := by decide +kernel
theorem dX0_call_37 : decode cX0_call 37 = .ok (.iload 6, 2) := by decide +kernel
theorem dX0_call_39 : decode cX0_call 39 = .ok (.invokevirtual 65, 3) := by decide +kernel
theorem dX0_call_42 : decode cX0_call 42 = .ok (.aload_n 0, 1) := by decide +kernel
theorem dX0_call_43 : decode cX0_call 43 = .ok (.iload 6, 2) := by decide +kernel
theorem dX0_call_45 : decode cX0_call 45 = .ok (.getstatic 22, 3) := by decide +kernel
theorem dX0_call_48 : decode cX0_call 48 = .ok (.iload 5, 2) := by decide +kernel
theorem dX0_call_50 : decode cX0_call 50 = .ok (.iaload, 1) := by decide +kernel
theorem dX0_call_51 : decode cX0_call 51 = .ok (.iload_n 3, 1) := by decide +kernel
theorem dX0_call_52 : decode cX0_call 52 = .ok (.iload 4, 2) := by decide +kernel
theorem dX0_call_54 : decode cX0_call 54 = .ok (.iconst 1, 1) := by decide +kernel
theorem dX0_call_55 : decode cX0_call 55 = .ok (.iadd, 1) := by decide +kernel
theorem dX0_call_56 : decode cX0_call 56 = .ok (.invokevirtual 69, 3) := by decide +kernel
theorem dX0_call_59 : decode cX0_call 59 = .ok (.ireturn, 1) := by decide +kernel
theorem dX0_run_0 : decode cX0_run 0 = .ok (.aload_n 0, 1) := by decide +kernel
theorem dX0_run_1 : decode cX0_run 1 = .ok (.aload_n 0, 1) := by decide +kernel
theorem dX0_run_2 : decode cX0_run 2 = .ok (.getfield 48, 3) := by decide +kernel
theorem dX0_run_5 : decode cX0_run 5 = .ok (.invokevirtual 51, 3) := by decide +kernel
theorem dX0_run_8 : decode cX0_run 8 = .ok (.istore 5, 2) := by decide +kernel
theorem dX0_run_10 : decode cX0_run 10 = .ok (.iload_n 1, 1) := by decide +kernel
theorem dX0_run_11 : decode cX0_run 11 = .ok (.lookupswitch 307 #[(1, 121), (2, 128), (10, 150), (11, 163), (20, 170), (30, 182), (40, 193), (41, 205), (50, 217), (60, 229), (61, 250), (70, 262), (80, 274), (81, 295)], 121) := by decide +kernel
theorem dX0_run_132 : decode cX0_run 132 = .ok (.iload_n 3, 1) := by decide +kernel
theorem dX0_run_133 : decode cX0_run 133 = .ok (.aload_n 0, 1) := by decide +kernel
theorem dX0_run_134 : decode cX0_run 134 = .ok (.getfield 48, 3) := by decide +kernel
theorem dX0_run_137 : decode cX0_run 137 = .ok (.iadd, 1) := by decide +kernel
theorem dX0_run_138 : decode cX0_run 138 = .ok (.ireturn, 1) := by decide +kernel
theorem dX0_run_139 : decode cX0_run 139 = .ok (.aload_n 0, 1) := by decide +kernel
theorem dX0_run_140 : decode cX0_run 140 = .ok (.iload 5, 2) := by decide +kernel
theorem dX0_run_142 : decode cX0_run 142 = .ok (.iconst 1, 1) := by decide +kernel
theorem dX0_run_143 : decode cX0_run 143 = .ok (.iload_n 3, 1) := by decide +kernel
theorem dX0_run_144 : decode cX0_run 144 = .ok (.iload 4, 2) := by decide +kernel
theorem dX0_run_146 : decode cX0_run 146 = .ok (.invokevirtual 55, 3) := by decide +kernel
theorem dX0_run_149 : decode cX0_run 149 = .ok (.aload_n 0, 1) := by decide +kernel
theorem dX0_run_150 : decode cX0_run 150 = .ok (.iload 5, 2) := by decide +kernel
theorem dX0_run_152 : decode cX0_run 152 = .ok (.iconst 2, 1) := by decide +kernel
theorem dX0_run_153 : decode cX0_run 153 = .ok (.iconst 1, 1) := by decide +kernel
theorem dX0_run_154 : decode cX0_run 154 = .ok (.iload 4, 2) := by decide +kernel
theorem dX0_run_156 : decode cX0_run 156 = .ok (.invokevirtual 55, 3) := by decide +kernel
theorem dX0_run_159 : decode cX0_run 159 = .ok (.isub, 1) := by decide +kernel
theorem dX0_run_160 : decode cX0_run 160 = .ok (.ireturn, 1) := by decide +kernel
theorem dX0_run_161 : decode cX0_run 161 = .ok (.aload_n 0, 1) := by decide +kernel
theorem dX0_run_162 : decode cX0_run 162 = .ok (.iload 5, 2) := by decide +kernel
theorem dX0_run_164 : decode cX0_run 164 = .ok (.iconst 0, 1) := by decide +kernel
theorem dX0_run_165 : decode cX0_run 165 = .ok (.iload_n 3, 1) := by decide +kernel
theorem dX0_run_166 : decode cX0_run 166 = .ok (.iload 4, 2) := by decide +kernel
theorem dX0_run_168 : decode cX0_run 168 = .ok (.invokevirtual 55, 3) := by decide +kernel
theorem dX0_run_171 : decode cX0_run 171 = .ok (.iconst 2, 1) := by decide +kernel
theorem dX0_run_172 : decode cX0_run 172 = .ok (.imul, 1) := by decide +kernel
theorem dX0_run_173 : decode cX0_run 173 = .ok (.ireturn, 1) := by decide +kernel
theorem dX0_run_174 : decode cX0_run 174 = .ok (.iload_n 3, 1) := by decide +kernel
theorem dX0_run_175 : decode cX0_run 175 = .ok (.aload_n 0, 1) := by decide +kernel
theorem dX0_run_176 : decode cX0_run 176 = .ok (.getfield 48, 3) := by decide +kernel
theorem dX0_run_179 : decode cX0_run 179 = .ok (.ixor, 1) := by decide +kernel
theorem dX0_run_180 : decode cX0_run 180 = .ok (.ireturn, 1) := by decide +kernel
theorem dX0_run_181 : decode cX0_run 181 = .ok (.aload_n 0, 1) := by decide +kernel
theorem dX0_run_182 : decode cX0_run 182 = .ok (.iload_n 2, 1) := by decide +kernel
theorem dX0_run_183 : decode cX0_run 183 = .ok (.iconst 0, 1) := by decide +kernel
theorem dX0_run_184 : decode cX0_run 184 = .ok (.iload_n 3, 1) := by decide +kernel
theorem dX0_run_185 : decode cX0_run 185 = .ok (.iload 4, 2) := by decide +kernel
theorem dX0_run_187 : decode cX0_run 187 = .ok (.invokevirtual 55, 3) := by decide +kernel
theorem dX0_run_190 : decode cX0_run 190 = .ok (.iconst 3, 1) := by decide +kernel
theorem dX0_run_191 : decode cX0_run 191 = .ok (.iadd, 1) := by decide +kernel
theorem dX0_run_192 : decode cX0_run 192 = .ok (.ireturn, 1) := by decide +kernel
theorem dX0_run_193 : decode cX0_run 193 = .ok (.aload_n 0, 1) := by decide +kernel
theorem dX0_run_194 : decode cX0_run 194 = .ok (.iload_n 2, 1) := by decide +kernel
theorem dX0_run_195 : decode cX0_run 195 = .ok (.iconst 1, 1) := by decide +kernel
theorem dX0_run_196 : decode cX0_run 196 = .ok (.iload_n 3, 1) := by decide +kernel
theorem dX0_run_197 : decode cX0_run 197 = .ok (.iload 4, 2) := by decide +kernel
theorem dX0_run_199 : decode cX0_run 199 = .ok (.invokevirtual 55, 3) := by decide +kernel
theorem dX0_run_202 : decode cX0_run 202 = .ok (.ineg, 1) := by decide +kernel
theorem dX0_run_203 : decode cX0_run 203 = .ok (.ireturn, 1) := by decide +kernel
theorem dX0_run_204 : decode cX0_run 204 = .ok (.aload_n 0, 1) := by decide +kernel
theorem dX0_run_205 : decode cX0_run 205 = .ok (.iload_n 2, 1) := by decide +kernel
theorem dX0_run_206 : decode cX0_run 206 = .ok (.iconst 2, 1) := by decide +kernel
theorem dX0_run_207 : decode cX0_run 207 = .ok (.iload_n 3, 1) := by decide +kernel
theorem dX0_run_208 : decode cX0_run 208 = .ok (.iload 4, 2) := by decide +kernel
theorem dX0_run_210 : decode cX0_run 210 = .ok (.invokevirtual 55, 3) := by decide +kernel
theorem dX0_run_213 : decode cX0_run 213 = .ok (.iconst 3, 1) := by decide +kernel
theorem dX0_run_214 : decode cX0_run 214 = .ok (.imul, 1) := by decide +kernel
theorem dX0_run_215 : decode cX0_run 215 = .ok (.ireturn, 1) := by decide +kernel
theorem dX0_run_216 : decode cX0_run 216 = .ok (.aload_n 0, 1) := by decide +kernel
theorem dX0_run_217 : decode cX0_run 217 = .ok (.iload_n 2, 1) := by decide +kernel
theorem dX0_run_218 : decode cX0_run 218 = .ok (.iconst 1, 1) := by decide +kernel
theorem dX0_run_219 : decode cX0_run 219 = .ok (.iload_n 3, 1) := by decide +kernel
theorem dX0_run_220 : decode cX0_run 220 = .ok (.iconst 1, 1) := by decide +kernel
theorem dX0_run_221 : decode cX0_run 221 = .ok (.iadd, 1) := by decide +kernel
theorem dX0_run_222 : decode cX0_run 222 = .ok (.iload 4, 2) := by decide +kernel
theorem dX0_run_224 : decode cX0_run 224 = .ok (.invokevirtual 55, 3) := by decide +kernel
theorem dX0_run_227 : decode cX0_run 227 = .ok (.ireturn, 1) := by decide +kernel
theorem dX0_run_228 : decode cX0_run 228 = .ok (.aload_n 0, 1) := by decide +kernel
theorem dX0_run_229 : decode cX0_run 229 = .ok (.iload_n 2, 1) := by decide +kernel
theorem dX0_run_230 : decode cX0_run 230 = .ok (.iconst 3, 1) := by decide +kernel
theorem dX0_run_231 : decode cX0_run 231 = .ok (.iload_n 3, 1) := by decide +kernel
theorem dX0_run_232 : decode cX0_run 232 = .ok (.iload 4, 2) := by decide +kernel
theorem dX0_run_234 : decode cX0_run 234 = .ok (.invokevirtual 55, 3) := by decide +kernel
theorem dX0_run_237 : decode cX0_run 237 = .ok (.iconst 5, 1) := by decide +kernel
theorem dX0_run_238 : decode cX0_run 238 = .ok (.ixor, 1) := by decide +kernel
theorem dX0_run_239 : decode cX0_run 239 = .ok (.ireturn, 1) := by decide +kernel
theorem dX0_run_240 : decode cX0_run 240 = .ok (.aload_n 0, 1) := by decide +kernel
theorem dX0_run_241 : decode cX0_run 241 = .ok (.iload_n 2, 1) := by decide +kernel
theorem dX0_run_242 : decode cX0_run 242 = .ok (.iconst 2, 1) := by decide +kernel
theorem dX0_run_243 : decode cX0_run 243 = .ok (.iload_n 3, 1) := by decide +kernel
theorem dX0_run_244 : decode cX0_run 244 = .ok (.iload 4, 2) := by decide +kernel
theorem dX0_run_246 : decode cX0_run 246 = .ok (.invokevirtual 55, 3) := by decide +kernel
theorem dX0_run_249 : decode cX0_run 249 = .ok (.aload_n 0, 1) := by decide +kernel
theorem dX0_run_250 : decode cX0_run 250 = .ok (.iload 5, 2) := by decide +kernel
theorem dX0_run_252 : decode cX0_run 252 = .ok (.iconst 0, 1) := by decide +kernel
theorem dX0_run_253 : decode cX0_run 253 = .ok (.iconst 2, 1) := by decide +kernel
theorem dX0_run_254 : decode cX0_run 254 = .ok (.iload 4, 2) := by decide +kernel
theorem dX0_run_256 : decode cX0_run 256 = .ok (.invokevirtual 55, 3) := by decide +kernel
theorem dX0_run_259 : decode cX0_run 259 = .ok (.isub, 1) := by decide +kernel
theorem dX0_run_260 : decode cX0_run 260 = .ok (.ireturn, 1) := by decide +kernel
theorem dX0_run_261 : decode cX0_run 261 = .ok (.aload_n 0, 1) := by decide +kernel
theorem dX0_run_262 : decode cX0_run 262 = .ok (.iload_n 2, 1) := by decide +kernel
theorem dX0_run_263 : decode cX0_run 263 = .ok (.iconst 3, 1) := by decide +kernel
theorem dX0_run_264 : decode cX0_run 264 = .ok (.iload_n 3, 1) := by decide +kernel
theorem dX0_run_265 : decode cX0_run 265 = .ok (.iload 4, 2) := by decide +kernel
theorem dX0_run_267 : decode cX0_run 267 = .ok (.invokevirtual 55, 3) := by decide +kernel
theorem dX0_run_270 : decode cX0_run 270 = .ok (.iconst 1, 1) := by decide +kernel
theorem dX0_run_271 : decode cX0_run 271 = .ok (.iadd, 1) := by decide +kernel
theorem dX0_run_272 : decode cX0_run 272 = .ok (.ireturn, 1) := by decide +kernel
theorem dX0_run_273 : decode cX0_run 273 = .ok (.aload_n 0, 1) := by decide +kernel
theorem dX0_run_274 : decode cX0_run 274 = .ok (.iload_n 2, 1) := by decide +kernel
theorem dX0_run_275 : decode cX0_run 275 = .ok (.iconst 0, 1) := by decide +kernel
theorem dX0_run_276 : decode cX0_run 276 = .ok (.iload_n 3, 1) := by decide +kernel
theorem dX0_run_277 : decode cX0_run 277 = .ok (.iload 4, 2) := by decide +kernel
theorem dX0_run_279 : decode cX0_run 279 = .ok (.invokevirtual 55, 3) := by decide +kernel
theorem dX0_run_282 : decode cX0_run 282 = .ok (.iconst 2, 1) := by decide +kernel
theorem dX0_run_283 : decode cX0_run 283 = .ok (.imul, 1) := by decide +kernel
theorem dX0_run_284 : decode cX0_run 284 = .ok (.ireturn, 1) := by decide +kernel
theorem dX0_run_285 : decode cX0_run 285 = .ok (.aload_n 0, 1) := by decide +kernel
theorem dX0_run_286 : decode cX0_run 286 = .ok (.iload_n 2, 1) := by decide +kernel
theorem dX0_run_287 : decode cX0_run 287 = .ok (.iconst 1, 1) := by decide +kernel
theorem dX0_run_288 : decode cX0_run 288 = .ok (.iload_n 3, 1) := by decide +kernel
theorem dX0_run_289 : decode cX0_run 289 = .ok (.iload 4, 2) := by decide +kernel
theorem dX0_run_291 : decode cX0_run 291 = .ok (.invokevirtual 55, 3) := by decide +kernel
theorem dX0_run_294 : decode cX0_run 294 = .ok (.aload_n 0, 1) := by decide +kernel
theorem dX0_run_295 : decode cX0_run 295 = .ok (.iload 5, 2) := by decide +kernel
theorem dX0_run_297 : decode cX0_run 297 = .ok (.iconst 2, 1) := by decide +kernel
theorem dX0_run_298 : decode cX0_run 298 = .ok (.iconst 2, 1) := by decide +kernel
theorem dX0_run_299 : decode cX0_run 299 = .ok (.iload 4, 2) := by decide +kernel
theorem dX0_run_301 : decode cX0_run 301 = .ok (.invokevirtual 55, 3) := by decide +kernel
theorem dX0_run_304 : decode cX0_run 304 = .ok (.iadd, 1) := by decide +kernel
theorem dX0_run_305 : decode cX0_run 305 = .ok (.ireturn, 1) := by decide +kernel
theorem dX0_run_306 : decode cX0_run 306 = .ok (.aload_n 0, 1) := by decide +kernel
theorem dX0_run_307 : decode cX0_run 307 = .ok (.iload_n 2, 1) := by decide +kernel
theorem dX0_run_308 : decode cX0_run 308 = .ok (.iconst 0, 1) := by decide +kernel
theorem dX0_run_309 : decode cX0_run 309 = .ok (.iload_n 3, 1) := by decide +kernel
theorem dX0_run_310 : decode cX0_run 310 = .ok (.iload 4, 2) := by decide +kernel
theorem dX0_run_312 : decode cX0_run 312 = .ok (.invokevirtual 55, 3) := by decide +kernel
theorem dX0_run_315 : decode cX0_run 315 = .ok (.iconst 1, 1) := by decide +kernel
theorem dX0_run_316 : decode cX0_run 316 = .ok (.isub, 1) := by decide +kernel
theorem dX0_run_317 : decode cX0_run 317 = .ok (.ireturn, 1) := by decide +kernel
theorem dX0_run_318 : decode cX0_run 318 = .ok (.iconst 0, 1) := by decide +kernel
theorem dX0_run_319 : decode cX0_run 319 = .ok (.ireturn, 1) := by decide +kernel
theorem dX0_ownerOf_0 : decode cX0_ownerOf 0 = .ok (.iload_n 0, 1) := by decide +kernel
theorem dX0_ownerOf_1 : decode cX0_ownerOf 1 = .ok (.istore_n 2, 1) := by decide +kernel
theorem dX0_ownerOf_2 : decode cX0_ownerOf 2 = .ok (.iconst 0, 1) := by decide +kernel
theorem dX0_ownerOf_3 : decode cX0_ownerOf 3 = .ok (.istore_n 3, 1) := by decide +kernel
theorem dX0_ownerOf_4 : decode cX0_ownerOf 4 = .ok (.iload_n 3, 1) := by decide +kernel
theorem dX0_ownerOf_5 : decode cX0_ownerOf 5 = .ok (.bipush 8, 2) := by decide +kernel
theorem dX0_ownerOf_7 : decode cX0_ownerOf 7 = .ok (.if_icmp .ge 36, 3) := by decide +kernel
theorem dX0_ownerOf_10 : decode cX0_ownerOf 10 = .ok (.iload_n 2, 1) := by decide +kernel
theorem dX0_ownerOf_11 : decode cX0_ownerOf 11 = .ok (.invokestatic 18, 3) := by decide +kernel
theorem dX0_ownerOf_14 : decode cX0_ownerOf 14 = .ok (.ifCond .eq 29, 3) := by decide +kernel
theorem dX0_ownerOf_17 : decode cX0_ownerOf 17 = .ok (.getstatic 62, 3) := by decide +kernel
theorem dX0_ownerOf_20 : decode cX0_ownerOf 20 = .ok (.iload_n 2, 1) := by decide +kernel
theorem dX0_ownerOf_21 : decode cX0_ownerOf 21 = .ok (.iconst 4, 1) := by decide +kernel
theorem dX0_ownerOf_22 : decode cX0_ownerOf 22 = .ok (.imul, 1) := by decide +kernel
theorem dX0_ownerOf_23 : decode cX0_ownerOf 23 = .ok (.iload_n 1, 1) := by decide +kernel
theorem dX0_ownerOf_24 : decode cX0_ownerOf 24 = .ok (.iadd, 1) := by decide +kernel
theorem dX0_ownerOf_25 : decode cX0_ownerOf 25 = .ok (.iaload, 1) := by decide +kernel
theorem dX0_ownerOf_26 : decode cX0_ownerOf 26 = .ok (.ifCond .eq 5, 3) := by decide +kernel
theorem dX0_ownerOf_29 : decode cX0_ownerOf 29 = .ok (.iload_n 2, 1) := by decide +kernel
theorem dX0_ownerOf_30 : decode cX0_ownerOf 30 = .ok (.ireturn, 1) := by decide +kernel
theorem dX0_ownerOf_31 : decode cX0_ownerOf 31 = .ok (.getstatic 22, 3) := by decide +kernel
theorem dX0_ownerOf_34 : decode cX0_ownerOf 34 = .ok (.iload_n 2, 1) := by decide +kernel
theorem dX0_ownerOf_35 : decode cX0_ownerOf 35 = .ok (.iaload, 1) := by decide +kernel
theorem dX0_ownerOf_36 : decode cX0_ownerOf 36 = .ok (.istore_n 2, 1) := by decide +kernel
theorem dX0_ownerOf_37 : decode cX0_ownerOf 37 = .ok (.iinc 3 1, 3) := by decide +kernel
theorem dX0_ownerOf_40 : decode cX0_ownerOf 40 = .ok (.goto (-36), 3) := by decide +kernel
theorem dX0_ownerOf_43 : decode cX0_ownerOf 43 = .ok (.iconst (-1), 1) := by decide +kernel
theorem dX0_ownerOf_44 : decode cX0_ownerOf 44 = .ok (.ireturn, 1) := by decide +kernel
theorem dX0_note_0 : decode cX0_note 0 = .ok (.aload_n 0, 1) := by decide +kernel
theorem dX0_note_1 : decode cX0_note 1 = .ok (.getfield 36, 3) := by decide +kernel
theorem dX0_note_4 : decode cX0_note 4 = .ok (.bipush 24, 2) := by decide +kernel
theorem dX0_note_6 : decode cX0_note 6 = .ok (.if_icmp .ge 13, 3) := by decide +kernel
theorem dX0_note_9 : decode cX0_note 9 = .ok (.aload_n 0, 1) := by decide +kernel
theorem dX0_note_10 : decode cX0_note 10 = .ok (.getfield 15, 3) := by decide +kernel
theorem dX0_note_13 : decode cX0_note 13 = .ok (.aload_n 0, 1) := by decide +kernel
theorem dX0_note_14 : decode cX0_note 14 = .ok (.getfield 36, 3) := by decide +kernel
theorem dX0_note_17 : decode cX0_note 17 = .ok (.iload_n 1, 1) := by decide +kernel
theorem dX0_note_18 : decode cX0_note 18 = .ok (.iastore, 1) := by decide +kernel
theorem dX0_note_19 : decode cX0_note 19 = .ok (.aload_n 0, 1) := by decide +kernel
theorem dX0_note_20 : decode cX0_note 20 = .ok (.dup, 1) := by decide +kernel
theorem dX0_note_21 : decode cX0_note 21 = .ok (.getfield 36, 3) := by decide +kernel
theorem dX0_note_24 : decode cX0_note 24 = .ok (.iconst 1, 1) := by decide +kernel
theorem dX0_note_25 : decode cX0_note 25 = .ok (.iadd, 1) := by decide +kernel
theorem dX0_note_26 : decode cX0_note 26 = .ok (.putfield 36, 3) := by decide +kernel
theorem dX0_note_29 : decode cX0_note 29 = .ok (.return_, 1) := by decide +kernel
theorem dX1_init_0 : decode cX1_init 0 = .ok (.aload_n 0, 1) := by decide +kernel
theorem dX1_init_1 : decode cX1_init 1 = .ok (.invokespecial 1, 3) := by decide +kernel
theorem dX1_init_4 : decode cX1_init 4 = .ok (.aload_n 0, 1) := by decide +kernel
theorem dX1_init_5 : decode cX1_init 5 = .ok (.bipush 40, 2) := by decide +kernel
theorem dX1_init_7 : decode cX1_init 7 = .ok (.newarray .int, 2) := by decide +kernel
theorem dX1_init_9 : decode cX1_init 9 = .ok (.putfield 9, 3) := by decide +kernel
theorem dX1_init_12 : decode cX1_init 12 = .ok (.aload_n 0, 1) := by decide +kernel
theorem dX1_init_13 : decode cX1_init 13 = .ok (.bipush 40, 2) := by decide +kernel
theorem dX1_init_15 : decode cX1_init 15 = .ok (.newarray .int, 2) := by decide +kernel
theorem dX1_init_17 : decode cX1_init 17 = .ok (.putfield 13, 3) := by decide +kernel
theorem dX1_init_20 : decode cX1_init 20 = .ok (.aload_n 0, 1) := by decide +kernel
theorem dX1_init_21 : decode cX1_init 21 = .ok (.bipush 40, 2) := by decide +kernel
theorem dX1_init_23 : decode cX1_init 23 = .ok (.newarray .int, 2) := by decide +kernel
theorem dX1_init_25 : decode cX1_init 25 = .ok (.putfield 16, 3) := by decide +kernel
theorem dX1_init_28 : decode cX1_init 28 = .ok (.aload_n 0, 1) := by decide +kernel
theorem dX1_init_29 : decode cX1_init 29 = .ok (.aload_n 1, 1) := by decide +kernel
theorem dX1_init_30 : decode cX1_init 30 = .ok (.putfield 19, 3) := by decide +kernel
theorem dX1_init_33 : decode cX1_init 33 = .ok (.aload_n 0, 1) := by decide +kernel
theorem dX1_init_34 : decode cX1_init 34 = .ok (.aload_n 2, 1) := by decide +kernel
theorem dX1_init_35 : decode cX1_init 35 = .ok (.putfield 23, 3) := by decide +kernel
theorem dX1_init_38 : decode cX1_init 38 = .ok (.return_, 1) := by decide +kernel
theorem dX1_make_0 : decode cX1_make 0 = .ok (.iload_n 1, 1) := by decide +kernel
theorem dX1_make_1 : decode cX1_make 1 = .ok (.sipush 216, 3) := by decide +kernel
theorem dX1_make_4 : decode cX1_make 4 = .ok (.if_icmp .ge 14, 3) := by decide +kernel
theorem dX1_make_7 : decode cX1_make 7 = .ok (.aload_n 0, 1) := by decide +kernel
theorem dX1_make_8 : decode cX1_make 8 = .ok (.getfield 19, 3) := by decide +kernel
theorem dX1_make_11 : decode cX1_make 11 = .ok (.iload_n 1, 1) := by decide +kernel
theorem dX1_make_12 : decode cX1_make 12 = .ok (.invokevirtual 29, 3) := by decide +kernel
theorem dX1_make_15 : decode cX1_make 15 = .ok (.goto 15, 3) := by decide +kernel
theorem dX1_make_18 : decode cX1_make 18 = .ok (.aload_n 0, 1) := by decide +kernel
theorem dX1_make_19 : decode cX1_make 19 = .ok (.getfield 23, 3) := by decide +kernel
theorem dX1_make_22 : decode cX1_make 22 = .ok (.iload_n 1, 1) := by decide +kernel
theorem dX1_make_23 : decode cX1_make 23 = .ok (.sipush 216, 3) := by decide +kernel
theorem dX1_make_26 : decode cX1_make 26 = .ok (.isub, 1) := by decide +kernel
theorem dX1_make_27 : decode cX1_make 27 = .ok (.invokevirtual 33, 3) := by decide +kernel
theorem dX1_make_30 : decode cX1_make 30 = .ok (.istore_n 3, 1) := by decide +kernel
theorem dX1_make_31 : decode cX1_make 31 = .ok (.iload_n 3, 1) := by decide +kernel
theorem dX1_make_32 : decode cX1_make 32 = .ok (.iload_n 2, 1) := by decide +kernel
theorem dX1_make_33 : decode cX1_make 33 = .ok (.if_icmp .eq 16, 3) := by decide +kernel
theorem dX1_make_36 : decode cX1_make 36 = .ok (.aload_n 0, 1) := by decide +kernel
theorem dX1_make_37 : decode cX1_make 37 = .ok (.iload_n 1, 1) := by decide +kernel
theorem dX1_make_38 : decode cX1_make 38 = .ok (.iload_n 3, 1) := by decide +kernel
theorem dX1_make_39 : decode cX1_make 39 = .ok (.iload_n 2, 1) := by decide +kernel
theorem dX1_make_40 : decode cX1_make 40 = .ok (.invokevirtual 36, 3) := by decide +kernel
theorem dX1_make_43 : decode cX1_make 43 = .ok (.aload_n 0, 1) := by decide +kernel
theorem dX1_make_44 : decode cX1_make 44 = .ok (.iload_n 1, 1) := by decide +kernel
theorem dX1_make_45 : decode cX1_make 45 = .ok (.iload_n 2, 1) := by decide +kernel
theorem dX1_make_46 : decode cX1_make 46 = .ok (.invokevirtual 40, 3) := by decide +kernel
theorem dX1_make_49 : decode cX1_make 49 = .ok (.iload_n 3, 1) := by decide +kernel
theorem dX1_make_50 : decode cX1_make 50 = .ok (.ireturn, 1) := by decide +kernel
theorem dX1_takeBack_0 : decode cX1_takeBack 0 = .ok (.aload_n 0, 1) := by decide +kernel
theorem dX1_takeBack_1 : decode cX1_takeBack 1 = .ok (.getfield 44, 3) := by decide +kernel
theorem dX1_takeBack_4 : decode cX1_takeBack 4 = .ok (.ifCond .gt 5, 3) := by decide +kernel
theorem dX1_takeBack_7 : decode cX1_takeBack 7 = .ok (.iconst 0, 1) := by decide +kernel
theorem dX1_takeBack_8 : decode cX1_takeBack 8 = .ok (.ireturn, 1) := by decide +kernel
theorem dX1_takeBack_9 : decode cX1_takeBack 9 = .ok (.aload_n 0, 1) := by decide +kernel
theorem dX1_takeBack_10 : decode cX1_takeBack 10 = .ok (.dup, 1) := by decide +kernel
theorem dX1_takeBack_11 : decode cX1_takeBack 11 = .ok (.getfield 44, 3) := by decide +kernel
theorem dX1_takeBack_14 : decode cX1_takeBack 14 = .ok (.iconst 1, 1) := by decide +kernel
theorem dX1_takeBack_15 : decode cX1_takeBack 15 = .ok (.isub, 1) := by decide +kernel
theorem dX1_takeBack_16 : decode cX1_takeBack 16 = .ok (.putfield 44, 3) := by decide +kernel
theorem dX1_takeBack_19 : decode cX1_takeBack 19 = .ok (.aload_n 0, 1) := by decide +kernel
theorem dX1_takeBack_20 : decode cX1_takeBack 20 = .ok (.dup, 1) := by decide +kernel
theorem dX1_takeBack_21 : decode cX1_takeBack 21 = .ok (.getfield 48, 3) := by decide +kernel
theorem dX1_takeBack_24 : decode cX1_takeBack 24 = .ok (.iconst 1, 1) := by decide +kernel
theorem dX1_takeBack_25 : decode cX1_takeBack 25 = .ok (.iadd, 1) := by decide +kernel
theorem dX1_takeBack_26 : decode cX1_takeBack 26 = .ok (.putfield 48, 3) := by decide +kernel
theorem dX1_takeBack_29 : decode cX1_takeBack 29 = .ok (.aload_n 0, 1) := by decide +kernel
theorem dX1_takeBack_30 : decode cX1_takeBack 30 = .ok (.aload_n 0, 1) := by decide +kernel
theorem dX1_takeBack_31 : decode cX1_takeBack 31 = .ok (.getfield 9, 3) := by decide +kernel
theorem dX1_takeBack_34 : decode cX1_takeBack 34 = .ok (.aload_n 0, 1) := by decide +kernel
theorem dX1_takeBack_35 : decode cX1_takeBack 35 = .ok (.getfield 44, 3) := by decide +kernel
theorem dX1_takeBack_38 : decode cX1_takeBack 38 = .ok (.iaload, 1) := by decide +kernel
theorem dX1_takeBack_39 : decode cX1_takeBack 39 = .ok (.aload_n 0, 1) := by decide +kernel
theorem dX1_takeBack_40 : decode cX1_takeBack 40 = .ok (.getfield 13, 3) := by decide +kernel
theorem dX1_takeBack_43 : decode cX1_takeBack 43 = .ok (.aload_n 0, 1) := by decide +kernel
theorem dX1_takeBack_44 : decode cX1_takeBack 44 = .ok (.getfield 44, 3) := by decide +kernel
theorem dX1_takeBack_47 : decode cX1_takeBack 47 = .ok (.iaload, 1) := by decide +kernel
theorem dX1_takeBack_48 : decode cX1_takeBack 48 = .ok (.invokevirtual 40, 3) := by decide +kernel
theorem dX1_takeBack_51 : decode cX1_takeBack 51 = .ok (.iconst 1, 1) := by decide +kernel
theorem dX1_takeBack_52 : decode cX1_takeBack 52 = .ok (.ireturn, 1) := by decide +kernel
theorem dX1_makeAgain_0 : decode cX1_makeAgain 0 = .ok (.aload_n 0, 1) := by decide +kernel
theorem dX1_makeAgain_1 : decode cX1_makeAgain 1 = .ok (.getfield 48, 3) := by decide +kernel
theorem dX1_makeAgain_4 : decode cX1_makeAgain 4 = .ok (.ifCond .le 12, 3) := by decide +kernel
theorem dX1_makeAgain_7 : decode cX1_makeAgain 7 = .ok (.aload_n 0, 1) := by decide +kernel
theorem dX1_makeAgain_8 : decode cX1_makeAgain 8 = .ok (.getfield 44, 3) := by decide +kernel
theorem dX1_makeAgain_11 : decode cX1_makeAgain 11 = .ok (.bipush 40, 2) := by decide +kernel
theorem dX1_makeAgain_13 : decode cX1_makeAgain 13 = .ok (.if_icmp .lt 5, 3) := by decide +kernel
theorem dX1_makeAgain_16 : decode cX1_makeAgain 16 = .ok (.iconst 0, 1) := by decide +kernel
theorem dX1_makeAgain_17 : decode cX1_makeAgain 17 = .ok (.ireturn, 1) := by decide +kernel
theorem dX1_makeAgain_18 : decode cX1_makeAgain 18 = .ok (.aload_n 0, 1) := by decide +kernel
theorem dX1_makeAgain_19 : decode cX1_makeAgain 19 = .ok (.aload_n 0, 1) := by decide +kernel
theorem dX1_makeAgain_20 : decode cX1_makeAgain 20 = .ok (.getfield 9, 3) := by decide +kernel
theorem dX1_makeAgain_23 : decode cX1_makeAgain 23 = .ok (.aload_n 0, 1) := by decide +kernel
theorem dX1_makeAgain_24 : decode cX1_makeAgain 24 = .ok (.getfield 44, 3) := by decide +kernel
theorem dX1_makeAgain_27 : decode cX1_makeAgain 27 = .ok (.iaload, 1) := by decide +kernel
theorem dX1_makeAgain_28 : decode cX1_makeAgain 28 = .ok (.aload_n 0, 1) := by decide +kernel
theorem dX1_makeAgain_29 : decode cX1_makeAgain 29 = .ok (.getfield 16, 3) := by decide +kernel
theorem dX1_makeAgain_32 : decode cX1_makeAgain 32 = .ok (.aload_n 0, 1) := by decide +kernel
theorem dX1_makeAgain_33 : decode cX1_makeAgain 33 = .ok (.getfield 44, 3) := by decide +kernel
theorem dX1_makeAgain_36 : decode cX1_makeAgain 36 = .ok (.iaload, 1) := by decide +kernel
theorem dX1_makeAgain_37 : decode cX1_makeAgain 37 = .ok (.invokevirtual 40, 3) := by decide +kernel
theorem dX1_makeAgain_40 : decode cX1_makeAgain 40 = .ok (.aload_n 0, 1) := by decide +kernel
theorem dX1_makeAgain_41 : decode cX1_makeAgain 41 = .ok (.dup, 1) := by decide +kernel
theorem dX1_makeAgain_42 : decode cX1_makeAgain 42 = .ok (.getfield 44, 3) := by decide +kernel
theorem dX1_makeAgain_45 : decode cX1_makeAgain 45 = .ok (.iconst 1, 1) := by decide +kernel
theorem dX1_makeAgain_46 : decode cX1_makeAgain 46 = .ok (.iadd, 1) := by decide +kernel
theorem dX1_makeAgain_47 : decode cX1_makeAgain 47 = .ok (.putfield 44, 3) := by decide +kernel
theorem dX1_makeAgain_50 : decode cX1_makeAgain 50 = .ok (.aload_n 0, 1) := by decide +kernel
theorem dX1_makeAgain_51 : decode cX1_makeAgain 51 = .ok (.dup, 1) := by decide +kernel
theorem dX1_makeAgain_52 : decode cX1_makeAgain 52 = .ok (.getfield 48, 3) := by decide +kernel
theorem dX1_makeAgain_55 : decode cX1_makeAgain 55 = .ok (.iconst 1, 1) := by decide +kernel
theorem dX1_makeAgain_56 : decode cX1_makeAgain 56 = .ok (.isub, 1) := by decide +kernel
theorem dX1_makeAgain_57 : decode cX1_makeAgain 57 = .ok (.putfield 48, 3) := by decide +kernel
theorem dX1_makeAgain_60 : decode cX1_makeAgain 60 = .ok (.iconst 1, 1) := by decide +kernel
theorem dX1_makeAgain_61 : decode cX1_makeAgain 61 = .ok (.ireturn, 1) := by decide +kernel
theorem dX1_record_0 : decode cX1_record 0 = .ok (.aload_n 0, 1) := by decide +kernel
theorem dX1_record_1 : decode cX1_record 1 = .ok (.getfield 44, 3) := by decide +kernel
theorem dX1_record_4 : decode cX1_record 4 = .ok (.bipush 40, 2) := by decide +kernel
theorem dX1_record_6 : decode cX1_record 6 = .ok (.if_icmp .lt 7, 3) := by decide +kernel
theorem dX1_record_9 : decode cX1_record 9 = .ok (.aload_n 0, 1) := by decide +kernel
theorem dX1_record_10 : decode cX1_record 10 = .ok (.invokevirtual 51, 3) := by decide +kernel
theorem dX1_record_13 : decode cX1_record 13 = .ok (.aload_n 0, 1) := by decide +kernel
theorem dX1_record_14 : decode cX1_record 14 = .ok (.getfield 9, 3) := by decide +kernel
theorem dX1_record_17 : decode cX1_record 17 = .ok (.aload_n 0, 1) := by decide +kernel
theorem dX1_record_18 : decode cX1_record 18 = .ok (.getfield 44, 3) := by decide +kernel
theorem dX1_record_21 : decode cX1_record 21 = .ok (.iload_n 1, 1) := by decide +kernel
theorem dX1_record_22 : decode cX1_record 22 = .ok (.iastore, 1) := by decide +kernel
theorem dX1_record_23 : decode cX1_record 23 = .ok (.aload_n 0, 1) := by decide +kernel
theorem dX1_record_24 : decode cX1_record 24 = .ok (.getfield 13, 3) := by decide +kernel
theorem dX1_record_27 : decode cX1_record 27 = .ok (.aload_n 0, 1) := by decide +kernel
theorem dX1_record_28 : decode cX1_record 28 = .ok (.getfield 44, 3) := by decide +kernel
theorem dX1_record_31 : decode cX1_record 31 = .ok (.iload_n 2, 1) := by decide +kernel
theorem dX1_record_32 : decode cX1_record 32 = .ok (.iastore, 1) := by decide +kernel
theorem dX1_record_33 : decode cX1_record 33 = .ok (.aload_n 0, 1) := by decide +kernel
theorem dX1_record_34 : decode cX1_record 34 = .ok (.getfield 16, 3) := by decide +kernel
theorem dX1_record_37 : decode cX1_record 37 = .ok (.aload_n 0, 1) := by decide +kernel
theorem dX1_record_38 : decode cX1_record 38 = .ok (.getfield 44, 3) := by decide +kernel
theorem dX1_record_41 : decode cX1_record 41 = .ok (.iload_n 3, 1) := by decide +kernel
theorem dX1_record_42 : decode cX1_record 42 = .ok (.iastore, 1) := by decide +kernel
theorem dX1_record_43 : decode cX1_record 43 = .ok (.aload_n 0, 1) := by decide +kernel
theorem dX1_record_44 : decode cX1_record 44 = .ok (.dup, 1) := by decide +kernel
theorem dX1_record_45 : decode cX1_record 45 = .ok (.getfield 44, 3) := by decide +kernel
theorem dX1_record_48 : decode cX1_record 48 = .ok (.iconst 1, 1) := by decide +kernel
theorem dX1_record_49 : decode cX1_record 49 = .ok (.iadd, 1) := by decide +kernel
theorem dX1_record_50 : decode cX1_record 50 = .ok (.putfield 44, 3) := by decide +kernel
theorem dX1_record_53 : decode cX1_record 53 = .ok (.aload_n 0, 1) := by decide +kernel
theorem dX1_record_54 : decode cX1_record 54 = .ok (.iconst 0, 1) := by decide +kernel
theorem dX1_record_55 : decode cX1_record 55 = .ok (.putfield 48, 3) := by decide +kernel
theorem dX1_record_58 : decode cX1_record 58 = .ok (.return_, 1) := by decide +kernel
theorem dX1_dropOldest_0 : decode cX1_dropOldest 0 = .ok (.aload_n 0, 1) := by decide +kernel
theorem dX1_dropOldest_1 : decode cX1_dropOldest 1 = .ok (.bipush 39, 2) := by decide +kernel
theorem dX1_dropOldest_3 : decode cX1_dropOldest 3 = .ok (.putfield 44, 3) := by decide +kernel
theorem dX1_dropOldest_6 : decode cX1_dropOldest 6 = .ok (.aload_n 0, 1) := by decide +kernel
theorem dX1_dropOldest_7 : decode cX1_dropOldest 7 = .ok (.getfield 9, 3) := by decide +kernel
theorem dX1_dropOldest_10 : decode cX1_dropOldest 10 = .ok (.iconst 1, 1) := by decide +kernel
theorem dX1_dropOldest_11 : decode cX1_dropOldest 11 = .ok (.aload_n 0, 1) := by decide +kernel
theorem dX1_dropOldest_12 : decode cX1_dropOldest 12 = .ok (.getfield 9, 3) := by decide +kernel
theorem dX1_dropOldest_15 : decode cX1_dropOldest 15 = .ok (.iconst 0, 1) := by decide +kernel
theorem dX1_dropOldest_16 : decode cX1_dropOldest 16 = .ok (.aload_n 0, 1) := by decide +kernel
theorem dX1_dropOldest_17 : decode cX1_dropOldest 17 = .ok (.getfield 44, 3) := by decide +kernel
theorem dX1_dropOldest_20 : decode cX1_dropOldest 20 = .ok (.invokestatic 54, 3) := by decide +kernel
theorem dX1_dropOldest_23 : decode cX1_dropOldest 23 = .ok (.aload_n 0, 1) := by decide +kernel
theorem dX1_dropOldest_24 : decode cX1_dropOldest 24 = .ok (.getfield 13, 3) := by decide +kernel
theorem dX1_dropOldest_27 : decode cX1_dropOldest 27 = .ok (.iconst 1, 1) := by decide +kernel
theorem dX1_dropOldest_28 : decode cX1_dropOldest 28 = .ok (.aload_n 0, 1) := by decide +kernel
theorem dX1_dropOldest_29 : decode cX1_dropOldest 29 = .ok (.getfield 13, 3) := by decide +kernel
theorem dX1_dropOldest_32 : decode cX1_dropOldest 32 = .ok (.iconst 0, 1) := by decide +kernel
theorem dX1_dropOldest_33 : decode cX1_dropOldest 33 = .ok (.aload_n 0, 1) := by decide +kernel
theorem dX1_dropOldest_34 : decode cX1_dropOldest 34 = .ok (.getfield 44, 3) := by decide +kernel
theorem dX1_dropOldest_37 : decode cX1_dropOldest 37 = .ok (.invokestatic 54, 3) := by decide +kernel
theorem dX1_dropOldest_40 : decode cX1_dropOldest 40 = .ok (.aload_n 0, 1) := by decide +kernel
theorem dX1_dropOldest_41 : decode cX1_dropOldest 41 = .ok (.getfield 16, 3) := by decide +kernel
theorem dX1_dropOldest_44 : decode cX1_dropOldest 44 = .ok (.iconst 1, 1) := by decide +kernel
theorem dX1_dropOldest_45 : decode cX1_dropOldest 45 = .ok (.aload_n 0, 1) := by decide +kernel
theorem dX1_dropOldest_46 : decode cX1_dropOldest 46 = .ok (.getfield 16, 3) := by decide +kernel
theorem dX1_dropOldest_49 : decode cX1_dropOldest 49 = .ok (.iconst 0, 1) := by decide +kernel
theorem dX1_dropOldest_50 : decode cX1_dropOldest 50 = .ok (.aload_n 0, 1) := by decide +kernel
theorem dX1_dropOldest_51 : decode cX1_dropOldest 51 = .ok (.getfield 44, 3) := by decide +kernel
theorem dX1_dropOldest_54 : decode cX1_dropOldest 54 = .ok (.invokestatic 54, 3) := by decide +kernel
theorem dX1_dropOldest_57 : decode cX1_dropOldest 57 = .ok (.return_, 1) := by decide +kernel
theorem dX1_write_0 : decode cX1_write 0 = .ok (.iload_n 1, 1) := by decide +kernel
theorem dX1_write_1 : decode cX1_write 1 = .ok (.sipush 216, 3) := by decide +kernel
theorem dX1_write_4 : decode cX1_write 4 = .ok (.if_icmp .ge 15, 3) := by decide +kernel
theorem dX1_write_7 : decode cX1_write 7 = .ok (.aload_n 0, 1) := by decide +kernel
theorem dX1_write_8 : decode cX1_write 8 = .ok (.getfield 19, 3) := by decide +kernel
theorem dX1_write_11 : decode cX1_write 11 = .ok (.iload_n 1, 1) := by decide +kernel
theorem dX1_write_12 : decode cX1_write 12 = .ok (.iload_n 2, 1) := by decide +kernel
theorem dX1_write_13 : decode cX1_write 13 = .ok (.invokevirtual 60, 3) := by decide +kernel
theorem dX1_write_16 : decode cX1_write 16 = .ok (.goto 16, 3) := by decide +kernel
theorem dX1_write_19 : decode cX1_write 19 = .ok (.aload_n 0, 1) := by decide +kernel
theorem dX1_write_20 : decode cX1_write 20 = .ok (.getfield 23, 3) := by decide +kernel
theorem dX1_write_23 : decode cX1_write 23 = .ok (.iload_n 1, 1) := by decide +kernel
theorem dX1_write_24 : decode cX1_write 24 = .ok (.sipush 216, 3) := by decide +kernel
theorem dX1_write_27 : decode cX1_write 27 = .ok (.isub, 1) := by decide +kernel
theorem dX1_write_28 : decode cX1_write 28 = .ok (.iload_n 2, 1) := by decide +kernel
theorem dX1_write_29 : decode cX1_write 29 = .ok (.invokevirtual 63, 3) := by decide +kernel
theorem dX1_write_32 : decode cX1_write 32 = .ok (.return_, 1) := by decide +kernel
theorem dX2_init_0 : decode cX2_init 0 = .ok (.aload_n 0, 1) := by decide +kernel
theorem dX2_init_1 : decode cX2_init 1 = .ok (.invokespecial 3, 3) := by decide +kernel
theorem dX2_init_4 : decode cX2_init 4 = .ok (.aload_n 0, 1) := by decide +kernel
theorem dX2_init_5 : decode cX2_init 5 = .ok (.aload_n 1, 1) := by decide +kernel
theorem dX2_init_6 : decode cX2_init 6 = .ok (.putfield 9, 3) := by decide +kernel
theorem dX2_init_9 : decode cX2_init 9 = .ok (.aload_n 0, 1) := by decide +kernel
theorem dX2_init_10 : decode cX2_init 10 = .ok (.aload_n 2, 1) := by decide +kernel
theorem dX2_init_11 : decode cX2_init 11 = .ok (.putfield 15, 3) := by decide +kernel
theorem dX2_init_14 : decode cX2_init 14 = .ok (.aload_n 0, 1) := by decide +kernel
theorem dX2_init_15 : decode cX2_init 15 = .ok (.aload_n 3, 1) := by decide +kernel
theorem dX2_init_16 : decode cX2_init 16 = .ok (.putfield 19, 3) := by decide +kernel
theorem dX2_init_19 : decode cX2_init 19 = .ok (.return_, 1) := by decide +kernel
theorem dX2_enter_0 : decode cX2_enter 0 = .ok (.aload_n 0, 1) := by decide +kernel
theorem dX2_enter_1 : decode cX2_enter 1 = .ok (.getfield 9, 3) := by decide +kernel
theorem dX2_enter_4 : decode cX2_enter 4 = .ok (.iload_n 1, 1) := by decide +kernel
theorem dX2_enter_5 : decode cX2_enter 5 = .ok (.iload_n 2, 1) := by decide +kernel
theorem dX2_enter_6 : decode cX2_enter 6 = .ok (.iload_n 3, 1) := by decide +kernel
theorem dX2_enter_7 : decode cX2_enter 7 = .ok (.invokevirtual 23, 3) := by decide +kernel
theorem dX2_enter_10 : decode cX2_enter 10 = .ok (.iload 4, 2) := by decide +kernel
theorem dX2_enter_12 : decode cX2_enter 12 = .ok (.iadd, 1) := by decide +kernel
theorem dX2_enter_13 : decode cX2_enter 13 = .ok (.istore 5, 2) := by decide +kernel
theorem dX2_enter_15 : decode cX2_enter 15 = .ok (.aload_n 0, 1) := by decide +kernel
theorem dX2_enter_16 : decode cX2_enter 16 = .ok (.getfield 19, 3) := by decide +kernel
theorem dX2_enter_19 : decode cX2_enter 19 = .ok (.aload_n 0, 1) := by decide +kernel
theorem dX2_enter_20 : decode cX2_enter 20 = .ok (.getfield 9, 3) := by decide +kernel
theorem dX2_enter_23 : decode cX2_enter 23 = .ok (.iload_n 1, 1) := by decide +kernel
theorem dX2_enter_24 : decode cX2_enter 24 = .ok (.iload_n 2, 1) := by decide +kernel
theorem dX2_enter_25 : decode cX2_enter 25 = .ok (.iload_n 3, 1) := by decide +kernel
theorem dX2_enter_26 : decode cX2_enter 26 = .ok (.invokevirtual 29, 3) := by decide +kernel
theorem dX2_enter_29 : decode cX2_enter 29 = .ok (.iload 5, 2) := by decide +kernel
theorem dX2_enter_31 : decode cX2_enter 31 = .ok (.aload_n 0, 1) := by decide +kernel
theorem dX2_enter_32 : decode cX2_enter 32 = .ok (.getfield 9, 3) := by decide +kernel
theorem dX2_enter_35 : decode cX2_enter 35 = .ok (.iload_n 1, 1) := by decide +kernel
theorem dX2_enter_36 : decode cX2_enter 36 = .ok (.iload_n 2, 1) := by decide +kernel
theorem dX2_enter_37 : decode cX2_enter 37 = .ok (.iconst 2, 1) := by decide +kernel
theorem dX2_enter_38 : decode cX2_enter 38 = .ok (.invokevirtual 32, 3) := by decide +kernel
theorem dX2_enter_41 : decode cX2_enter 41 = .ok (.invokevirtual 35, 3) := by decide +kernel
theorem dX2_enter_44 : decode cX2_enter 44 = .ok (.return_, 1) := by decide +kernel
theorem dX2_allStand_0 : decode cX2_allStand 0 = .ok (.aload_n 0, 1) := by decide +kernel
theorem dX2_allStand_1 : decode cX2_allStand 1 = .ok (.iload_n 1, 1) := by decide +kernel
theorem dX2_allStand_2 : decode cX2_allStand 2 = .ok (.iload_n 2, 1) := by decide +kernel
theorem dX2_allStand_3 : decode cX2_allStand 3 = .ok (.iload_n 3, 1) := by decide +kernel
theorem dX2_allStand_4 : decode cX2_allStand 4 = .ok (.iload 4, 2) := by decide +kernel
theorem dX2_allStand_6 : decode cX2_allStand 6 = .ok (.invokevirtual 41, 3) := by decide +kernel
theorem dX2_allStand_9 : decode cX2_allStand 9 = .ok (.aload_n 0, 1) := by decide +kernel
theorem dX2_allStand_10 : decode cX2_allStand 10 = .ok (.getfield 19, 3) := by decide +kernel
theorem dX2_allStand_13 : decode cX2_allStand 13 = .ok (.invokevirtual 44, 3) := by decide +kernel
theorem dX2_allStand_16 : decode cX2_allStand 16 = .ok (.bipush (-2), 2) := by decide +kernel
theorem dX2_allStand_18 : decode cX2_allStand 18 = .ok (.if_icmp .ne 7, 3) := by decide +kernel
theorem dX2_allStand_21 : decode cX2_allStand 21 = .ok (.iconst 1, 1) := by decide +kernel
theorem dX2_allStand_22 : decode cX2_allStand 22 = .ok (.goto 4, 3) := by decide +kernel
theorem dX2_allStand_25 : decode cX2_allStand 25 = .ok (.iconst 0, 1) := by decide +kernel
theorem dX2_allStand_26 : decode cX2_allStand 26 = .ok (.ireturn, 1) := by decide +kernel
theorem dX2_leastMargin_0 : decode cX2_leastMargin 0 = .ok (.ldc 50, 2) := by decide +kernel
theorem dX2_leastMargin_2 : decode cX2_leastMargin 2 = .ok (.istore 4, 2) := by decide +kernel
theorem dX2_leastMargin_4 : decode cX2_leastMargin 4 = .ok (.iconst 0, 1) := by decide +kernel
theorem dX2_leastMargin_5 : decode cX2_leastMargin 5 = .ok (.istore 5, 2) := by decide +kernel
theorem dX2_leastMargin_7 : decode cX2_leastMargin 7 = .ok (.iload 5, 2) := by decide +kernel
theorem dX2_leastMargin_9 : decode cX2_leastMargin 9 = .ok (.aload_n 0, 1) := by decide +kernel
theorem dX2_leastMargin_10 : decode cX2_leastMargin 10 = .ok (.getfield 9, 3) := by decide +kernel
theorem dX2_leastMargin_13 : decode cX2_leastMargin 13 = .ok (.iload_n 1, 1) := by decide +kernel
theorem dX2_leastMargin_14 : decode cX2_leastMargin 14 = .ok (.invokevirtual 51, 3) := by decide +kernel
theorem dX2_leastMargin_17 : decode cX2_leastMargin 17 = .ok (.if_icmp .ge 38, 3) := by decide +kernel
theorem dX2_leastMargin_20 : decode cX2_leastMargin 20 = .ok (.iload 4, 2) := by decide +kernel
theorem dX2_leastMargin_22 : decode cX2_leastMargin 22 = .ok (.iload_n 3, 1) := by decide +kernel
theorem dX2_leastMargin_23 : decode cX2_leastMargin 23 = .ok (.if_icmp .le 32, 3) := by decide +kernel
theorem dX2_leastMargin_26 : decode cX2_leastMargin 26 = .ok (.aload_n 0, 1) := by decide +kernel
theorem dX2_leastMargin_27 : decode cX2_leastMargin 27 = .ok (.iload_n 1, 1) := by decide +kernel
theorem dX2_leastMargin_28 : decode cX2_leastMargin 28 = .ok (.iload 5, 2) := by decide +kernel
theorem dX2_leastMargin_30 : decode cX2_leastMargin 30 = .ok (.iload_n 2, 1) := by decide +kernel
theorem dX2_leastMargin_31 : decode cX2_leastMargin 31 = .ok (.iconst 0, 1) := by decide +kernel
theorem dX2_leastMargin_32 : decode cX2_leastMargin 32 = .ok (.invokevirtual 41, 3) := by decide +kernel
theorem dX2_leastMargin_35 : decode cX2_leastMargin 35 = .ok (.iload 4, 2) := by decide +kernel
theorem dX2_leastMargin_37 : decode cX2_leastMargin 37 = .ok (.aload_n 0, 1) := by decide +kernel
theorem dX2_leastMargin_38 : decode cX2_leastMargin 38 = .ok (.getfield 19, 3) := by decide +kernel
theorem dX2_leastMargin_41 : decode cX2_leastMargin 41 = .ok (.invokevirtual 55, 3) := by decide +kernel
theorem dX2_leastMargin_44 : decode cX2_leastMargin 44 = .ok (.invokestatic 58, 3) := by decide +kernel
theorem dX2_leastMargin_47 : decode cX2_leastMargin 47 = .ok (.istore 4, 2) := by decide +kernel
theorem dX2_leastMargin_49 : decode cX2_leastMargin 49 = .ok (.iinc 5 1, 3) := by decide +kernel
theorem dX2_leastMargin_52 : decode cX2_leastMargin 52 = .ok (.goto (-45), 3) := by decide +kernel
theorem dX2_leastMargin_55 : decode cX2_leastMargin 55 = .ok (.iload 4, 2) := by decide +kernel
theorem dX2_leastMargin_57 : decode cX2_leastMargin 57 = .ok (.ireturn, 1) := by decide +kernel
theorem dX2_firstFall_0 : decode cX2_firstFall 0 = .ok (.iconst 0, 1) := by decide +kernel
theorem dX2_firstFall_1 : decode cX2_firstFall 1 = .ok (.istore_n 3, 1) := by decide +kernel
theorem dX2_firstFall_2 : decode cX2_firstFall 2 = .ok (.iload_n 3, 1) := by decide +kernel
theorem dX2_firstFall_3 : decode cX2_firstFall 3 = .ok (.aload_n 0, 1) := by decide +kernel
theorem dX2_firstFall_4 : decode cX2_firstFall 4 = .ok (.getfield 9, 3) := by decide +kernel
theorem dX2_firstFall_7 : decode cX2_firstFall 7 = .ok (.iload_n 1, 1) := by decide +kernel
theorem dX2_firstFall_8 : decode cX2_firstFall 8 = .ok (.invokevirtual 51, 3) := by decide +kernel
theorem dX2_firstFall_11 : decode cX2_firstFall 11 = .ok (.if_icmp .ge 41, 3) := by decide +kernel
theorem dX2_firstFall_14 : decode cX2_firstFall 14 = .ok (.aload_n 0, 1) := by decide +kernel
theorem dX2_firstFall_15 : decode cX2_firstFall 15 = .ok (.iload_n 1, 1) := by decide +kernel
theorem dX2_firstFall_16 : decode cX2_firstFall 16 = .ok (.iload_n 3, 1) := by decide +kernel
theorem dX2_firstFall_17 : decode cX2_firstFall 17 = .ok (.iload_n 2, 1) := by decide +kernel
theorem dX2_firstFall_18 : decode cX2_firstFall 18 = .ok (.iconst 0, 1) := by decide +kernel
theorem dX2_firstFall_19 : decode cX2_firstFall 19 = .ok (.invokevirtual 41, 3) := by decide +kernel
theorem dX2_firstFall_22 : decode cX2_firstFall 22 = .ok (.aload_n 0, 1) := by decide +kernel
theorem dX2_firstFall_23 : decode cX2_firstFall 23 = .ok (.getfield 19, 3) := by decide +kernel
theorem dX2_firstFall_26 : decode cX2_firstFall 26 = .ok (.invokevirtual 44, 3) := by decide +kernel
theorem dX2_firstFall_29 : decode cX2_firstFall 29 = .ok (.istore 4, 2) := by decide +kernel
theorem dX2_firstFall_31 : decode cX2_firstFall 31 = .ok (.iload 4, 2) := by decide +kernel
theorem dX2_firstFall_33 : decode cX2_firstFall 33 = .ok (.bipush (-2), 2) := by decide +kernel
theorem dX2_firstFall_35 : decode cX2_firstFall 35 = .ok (.if_icmp .eq 11, 3) := by decide +kernel
theorem dX2_firstFall_38 : decode cX2_firstFall 38 = .ok (.bipush 100, 2) := by decide +kernel
theorem dX2_firstFall_40 : decode cX2_firstFall 40 = .ok (.iload_n 3, 1) := by decide +kernel
theorem dX2_firstFall_41 : decode cX2_firstFall 41 = .ok (.imul, 1) := by decide +kernel
theorem dX2_firstFall_42 : decode cX2_firstFall 42 = .ok (.iload 4, 2) := by decide +kernel
theorem dX2_firstFall_44 : decode cX2_firstFall 44 = .ok (.iadd, 1) := by decide +kernel
theorem dX2_firstFall_45 : decode cX2_firstFall 45 = .ok (.ireturn, 1) := by decide +kernel
theorem dX2_firstFall_46 : decode cX2_firstFall 46 = .ok (.iinc 3 1, 3) := by decide +kernel
theorem dX2_firstFall_49 : decode cX2_firstFall 49 = .ok (.goto (-47), 3) := by decide +kernel
theorem dX2_firstFall_52 : decode cX2_firstFall 52 = .ok (.bipush (-2), 2) := by decide +kernel
theorem dX2_firstFall_54 : decode cX2_firstFall 54 = .ok (.ireturn, 1) := by decide +kernel
theorem dX2_seekOrder_0 : decode cX2_seekOrder 0 = .ok (.aload_n 0, 1) := by decide +kernel
theorem dX2_seekOrder_1 : decode cX2_seekOrder 1 = .ok (.bipush (-2), 2) := by decide +kernel
theorem dX2_seekOrder_3 : decode cX2_seekOrder 3 = .ok (.putfield 64, 3) := by decide +kernel
theorem dX2_seekOrder_6 : decode cX2_seekOrder 6 = .ok (.aload_n 0, 1) := by decide +kernel
theorem dX2_seekOrder_7 : decode cX2_seekOrder 7 = .ok (.ldc 68, 2) := by decide +kernel
theorem dX2_seekOrder_9 : decode cX2_seekOrder 9 = .ok (.putfield 69, 3) := by decide +kernel
theorem dX2_seekOrder_12 : decode cX2_seekOrder 12 = .ok (.aload_n 0, 1) := by decide +kernel
theorem dX2_seekOrder_13 : decode cX2_seekOrder 13 = .ok (.getfield 19, 3) := by decide +kernel
theorem dX2_seekOrder_16 : decode cX2_seekOrder 16 = .ok (.invokevirtual 72, 3) := by decide +kernel
theorem dX2_seekOrder_19 : decode cX2_seekOrder 19 = .ok (.iconst 1, 1) := by decide +kernel
theorem dX2_seekOrder_20 : decode cX2_seekOrder 20 = .ok (.istore_n 3, 1) := by decide +kernel
theorem dX2_seekOrder_21 : decode cX2_seekOrder 21 = .ok (.iconst 0, 1) := by decide +kernel
theorem dX2_seekOrder_22 : decode cX2_seekOrder 22 = .ok (.istore 4, 2) := by decide +kernel
theorem dX2_seekOrder_24 : decode cX2_seekOrder 24 = .ok (.iload_n 3, 1) := by decide +kernel
theorem dX2_seekOrder_25 : decode cX2_seekOrder 25 = .ok (.ifCond .eq 45, 3) := by decide +kernel
theorem dX2_seekOrder_28 : decode cX2_seekOrder 28 = .ok (.iload 4, 2) := by decide +kernel
theorem dX2_seekOrder_30 : decode cX2_seekOrder 30 = .ok (.bipush 120, 2) := by decide +kernel
theorem dX2_seekOrder_32 : decode cX2_seekOrder 32 = .ok (.if_icmp .ge 38, 3) := by decide +kernel
theorem dX2_seekOrder_35 : decode cX2_seekOrder 35 = .ok (.aload_n 0, 1) := by decide +kernel
theorem dX2_seekOrder_36 : decode cX2_seekOrder 36 = .ok (.aload_n 0, 1) := by decide +kernel
theorem dX2_seekOrder_37 : decode cX2_seekOrder 37 = .ok (.getfield 19, 3) := by decide +kernel
theorem dX2_seekOrder_40 : decode cX2_seekOrder 40 = .ok (.invokevirtual 75, 3) := by decide +kernel
theorem dX2_seekOrder_43 : decode cX2_seekOrder 43 = .ok (.aload_n 0, 1) := by decide +kernel
theorem dX2_seekOrder_44 : decode cX2_seekOrder 44 = .ok (.iload_n 1, 1) := by decide +kernel
theorem dX2_seekOrder_45 : decode cX2_seekOrder 45 = .ok (.iload_n 2, 1) := by decide +kernel
theorem dX2_seekOrder_46 : decode cX2_seekOrder 46 = .ok (.aload_n 0, 1) := by decide +kernel
theorem dX2_seekOrder_47 : decode cX2_seekOrder 47 = .ok (.getfield 69, 3) := by decide +kernel
theorem dX2_seekOrder_50 : decode cX2_seekOrder 50 = .ok (.invokevirtual 78, 3) := by decide +kernel
theorem dX2_seekOrder_53 : decode cX2_seekOrder 53 = .ok (.invokevirtual 80, 3) := by decide +kernel
theorem dX2_seekOrder_56 : decode cX2_seekOrder 56 = .ok (.aload_n 0, 1) := by decide +kernel
theorem dX2_seekOrder_57 : decode cX2_seekOrder 57 = .ok (.getfield 19, 3) := by decide +kernel
theorem dX2_seekOrder_60 : decode cX2_seekOrder 60 = .ok (.invokevirtual 84, 3) := by decide +kernel
theorem dX2_seekOrder_63 : decode cX2_seekOrder 63 = .ok (.istore_n 3, 1) := by decide +kernel
theorem dX2_seekOrder_64 : decode cX2_seekOrder 64 = .ok (.iinc 4 1, 3) := by decide +kernel
theorem dX2_seekOrder_67 : decode cX2_seekOrder 67 = .ok (.goto (-43), 3) := by decide +kernel
theorem dX2_seekOrder_70 : decode cX2_seekOrder 70 = .ok (.return_, 1) := by decide +kernel
theorem dX2_seekBest_0 : decode cX2_seekBest 0 = .ok (.aload_n 0, 1) := by decide +kernel
theorem dX2_seekBest_1 : decode cX2_seekBest 1 = .ok (.bipush (-2), 2) := by decide +kernel
theorem dX2_seekBest_3 : decode cX2_seekBest 3 = .ok (.putfield 64, 3) := by decide +kernel
theorem dX2_seekBest_6 : decode cX2_seekBest 6 = .ok (.aload_n 0, 1) := by decide +kernel
theorem dX2_seekBest_7 : decode cX2_seekBest 7 = .ok (.ldc 68, 2) := by decide +kernel
theorem dX2_seekBest_9 : decode cX2_seekBest 9 = .ok (.putfield 69, 3) := by decide +kernel
theorem dX2_seekBest_12 : decode cX2_seekBest 12 = .ok (.iload_n 1, 1) := by decide +kernel
theorem dX2_seekBest_13 : decode cX2_seekBest 13 = .ok (.istore_n 3, 1) := by decide +kernel
theorem dX2_seekBest_14 : decode cX2_seekBest 14 = .ok (.iload_n 3, 1) := by decide +kernel
theorem dX2_seekBest_15 : decode cX2_seekBest 15 = .ok (.iload_n 2, 1) := by decide +kernel
theorem dX2_seekBest_16 : decode cX2_seekBest 16 = .ok (.if_icmp .gt 29, 3) := by decide +kernel
theorem dX2_seekBest_19 : decode cX2_seekBest 19 = .ok (.iload_n 3, 1) := by decide +kernel
theorem dX2_seekBest_20 : decode cX2_seekBest 20 = .ok (.invokestatic 88, 3) := by decide +kernel
theorem dX2_seekBest_23 : decode cX2_seekBest 23 = .ok (.ifCond .ne 16, 3) := by decide +kernel
theorem dX2_seekBest_26 : decode cX2_seekBest 26 = .ok (.aload_n 0, 1) := by decide +kernel
theorem dX2_seekBest_27 : decode cX2_seekBest 27 = .ok (.iload_n 3, 1) := by decide +kernel
theorem dX2_seekBest_28 : decode cX2_seekBest 28 = .ok (.aload_n 0, 1) := by decide +kernel
theorem dX2_seekBest_29 : decode cX2_seekBest 29 = .ok (.getfield 15, 3) := by decide +kernel
theorem dX2_seekBest_32 : decode cX2_seekBest 32 = .ok (.iload_n 3, 1) := by decide +kernel
theorem dX2_seekBest_33 : decode cX2_seekBest 33 = .ok (.invokevirtual 92, 3) := by decide +kernel
theorem dX2_seekBest_36 : decode cX2_seekBest 36 = .ok (.invokevirtual 97, 3) := by decide +kernel
theorem dX2_seekBest_39 : decode cX2_seekBest 39 = .ok (.iinc 3 1, 3) := by decide +kernel
theorem dX2_seekBest_42 : decode cX2_seekBest 42 = .ok (.goto (-28), 3) := by decide +kernel
theorem dX2_seekBest_45 : decode cX2_seekBest 45 = .ok (.aload_n 0, 1) := by decide +kernel
theorem dX2_seekBest_46 : decode cX2_seekBest 46 = .ok (.getfield 64, 3) := by decide +kernel
theorem dX2_seekBest_49 : decode cX2_seekBest 49 = .ok (.bipush (-2), 2) := by decide +kernel
theorem dX2_seekBest_51 : decode cX2_seekBest 51 = .ok (.if_icmp .eq 7, 3) := by decide +kernel
theorem dX2_seekBest_54 : decode cX2_seekBest 54 = .ok (.iconst 1, 1) := by decide +kernel
theorem dX2_seekBest_55 : decode cX2_seekBest 55 = .ok (.goto 4, 3) := by decide +kernel
theorem dX2_seekBest_58 : decode cX2_seekBest 58 = .ok (.iconst 0, 1) := by decide +kernel
theorem dX2_seekBest_59 : decode cX2_seekBest 59 = .ok (.ireturn, 1) := by decide +kernel
theorem dX2_seekBestAt_0 : decode cX2_seekBestAt 0 = .ok (.iconst 0, 1) := by decide +kernel
theorem dX2_seekBestAt_1 : decode cX2_seekBestAt 1 = .ok (.istore_n 3, 1) := by decide +kernel
theorem dX2_seekBestAt_2 : decode cX2_seekBestAt 2 = .ok (.iload_n 3, 1) := by decide +kernel
theorem dX2_seekBestAt_3 : decode cX2_seekBestAt 3 = .ok (.aload_n 0, 1) := by decide +kernel
theorem dX2_seekBestAt_4 : decode cX2_seekBestAt 4 = .ok (.getfield 9, 3) := by decide +kernel
theorem dX2_seekBestAt_7 : decode cX2_seekBestAt 7 = .ok (.getfield 100, 3) := by decide +kernel
theorem dX2_seekBestAt_10 : decode cX2_seekBestAt 10 = .ok (.if_icmp .ge 60, 3) := by decide +kernel
theorem dX2_seekBestAt_13 : decode cX2_seekBestAt 13 = .ok (.iconst 0, 1) := by decide +kernel
theorem dX2_seekBestAt_14 : decode cX2_seekBestAt 14 = .ok (.istore 4, 2) := by decide +kernel
theorem dX2_seekBestAt_16 : decode cX2_seekBestAt 16 = .ok (.iload 4, 2) := by decide +kernel
theorem dX2_seekBestAt_18 : decode cX2_seekBestAt 18 = .ok (.iconst 4, 1) := by decide +kernel
theorem dX2_seekBestAt_19 : decode cX2_seekBestAt 19 = .ok (.if_icmp .ge 45, 3) := by decide +kernel
theorem dX2_seekBestAt_22 : decode cX2_seekBestAt 22 = .ok (.aload_n 0, 1) := by decide +kernel
theorem dX2_seekBestAt_23 : decode cX2_seekBestAt 23 = .ok (.getfield 19, 3) := by decide +kernel
theorem dX2_seekBestAt_26 : decode cX2_seekBestAt 26 = .ok (.iload 4, 2) := by decide +kernel
theorem dX2_seekBestAt_28 : decode cX2_seekBestAt 28 = .ok (.putfield 103, 3) := by decide +kernel
theorem dX2_seekBestAt_31 : decode cX2_seekBestAt 31 = .ok (.aload_n 0, 1) := by decide +kernel
theorem dX2_seekBestAt_32 : decode cX2_seekBestAt 32 = .ok (.sipush 1000, 3) := by decide +kernel
theorem dX2_seekBestAt_35 : decode cX2_seekBestAt 35 = .ok (.iload_n 1, 1) := by decide +kernel
theorem dX2_seekBestAt_36 : decode cX2_seekBestAt 36 = .ok (.imul, 1) := by decide +kernel
theorem dX2_seekBestAt_37 : decode cX2_seekBestAt 37 = .ok (.bipush 10, 2) := by decide +kernel
theorem dX2_seekBestAt_39 : decode cX2_seekBestAt 39 = .ok (.iload_n 3, 1) := by decide +kernel
theorem dX2_seekBestAt_40 : decode cX2_seekBestAt 40 = .ok (.imul, 1) := by decide +kernel
theorem dX2_seekBestAt_41 : decode cX2_seekBestAt 41 = .ok (.iadd, 1) := by decide +kernel
theorem dX2_seekBestAt_42 : decode cX2_seekBestAt 42 = .ok (.iload 4, 2) := by decide +kernel
theorem dX2_seekBestAt_44 : decode cX2_seekBestAt 44 = .ok (.iadd, 1) := by decide +kernel
theorem dX2_seekBestAt_45 : decode cX2_seekBestAt 45 = .ok (.aload_n 0, 1) := by decide +kernel
theorem dX2_seekBestAt_46 : decode cX2_seekBestAt 46 = .ok (.iload_n 3, 1) := by decide +kernel
theorem dX2_seekBestAt_47 : decode cX2_seekBestAt 47 = .ok (.iload_n 2, 1) := by decide +kernel
theorem dX2_seekBestAt_48 : decode cX2_seekBestAt 48 = .ok (.aload_n 0, 1) := by decide +kernel
theorem dX2_seekBestAt_49 : decode cX2_seekBestAt 49 = .ok (.getfield 69, 3) := by decide +kernel
theorem dX2_seekBestAt_52 : decode cX2_seekBestAt 52 = .ok (.invokevirtual 78, 3) := by decide +kernel
theorem dX2_seekBestAt_55 : decode cX2_seekBestAt 55 = .ok (.invokevirtual 80, 3) := by decide +kernel
theorem dX2_seekBestAt_58 : decode cX2_seekBestAt 58 = .ok (.iinc 4 1, 3) := by decide +kernel
theorem dX2_seekBestAt_61 : decode cX2_seekBestAt 61 = .ok (.goto (-45), 3) := by decide +kernel
theorem dX2_seekBestAt_64 : decode cX2_seekBestAt 64 = .ok (.iinc 3 1, 3) := by decide +kernel
theorem dX2_seekBestAt_67 : decode cX2_seekBestAt 67 = .ok (.goto (-65), 3) := by decide +kernel
theorem dX2_seekBestAt_70 : decode cX2_seekBestAt 70 = .ok (.return_, 1) := by decide +kernel
theorem dX2_seekWall_0 : decode cX2_seekWall 0 = .ok (.aload_n 0, 1) := by decide +kernel
theorem dX2_seekWall_1 : decode cX2_seekWall 1 = .ok (.bipush (-2), 2) := by decide +kernel
theorem dX2_seekWall_3 : decode cX2_seekWall 3 = .ok (.putfield 64, 3) := by decide +kernel
theorem dX2_seekWall_6 : decode cX2_seekWall 6 = .ok (.aload_n 0, 1) := by decide +kernel
theorem dX2_seekWall_7 : decode cX2_seekWall 7 = .ok (.bipush (-100), 2) := by decide +kernel
theorem dX2_seekWall_9 : decode cX2_seekWall 9 = .ok (.putfield 69, 3) := by decide +kernel
theorem dX2_seekWall_12 : decode cX2_seekWall 12 = .ok (.iconst 0, 1) := by decide +kernel
theorem dX2_seekWall_13 : decode cX2_seekWall 13 = .ok (.istore_n 1, 1) := by decide +kernel
theorem dX2_seekWall_14 : decode cX2_seekWall 14 = .ok (.iload_n 1, 1) := by decide +kernel
theorem dX2_seekWall_15 : decode cX2_seekWall 15 = .ok (.aload_n 0, 1) := by decide +kernel
theorem dX2_seekWall_16 : decode cX2_seekWall 16 = .ok (.getfield 9, 3) := by decide +kernel
theorem dX2_seekWall_19 : decode cX2_seekWall 19 = .ok (.getfield 100, 3) := by decide +kernel
theorem dX2_seekWall_22 : decode cX2_seekWall 22 = .ok (.if_icmp .ge 49, 3) := by decide +kernel
theorem dX2_seekWall_25 : decode cX2_seekWall 25 = .ok (.iconst 0, 1) := by decide +kernel
theorem dX2_seekWall_26 : decode cX2_seekWall 26 = .ok (.istore_n 2, 1) := by decide +kernel
theorem dX2_seekWall_27 : decode cX2_seekWall 27 = .ok (.iload_n 2, 1) := by decide +kernel
theorem dX2_seekWall_28 : decode cX2_seekWall 28 = .ok (.iconst 4, 1) := by decide +kernel
theorem dX2_seekWall_29 : decode cX2_seekWall 29 = .ok (.if_icmp .ge 36, 3) := by decide +kernel
theorem dX2_seekWall_32 : decode cX2_seekWall 32 = .ok (.aload_n 0, 1) := by decide +kernel
theorem dX2_seekWall_33 : decode cX2_seekWall 33 = .ok (.getfield 19, 3) := by decide +kernel
theorem dX2_seekWall_36 : decode cX2_seekWall 36 = .ok (.iload_n 2, 1) := by decide +kernel
theorem dX2_seekWall_37 : decode cX2_seekWall 37 = .ok (.putfield 103, 3) := by decide +kernel
theorem dX2_seekWall_40 : decode cX2_seekWall 40 = .ok (.aload_n 0, 1) := by decide +kernel
theorem dX2_seekWall_41 : decode cX2_seekWall 41 = .ok (.bipush 10, 2) := by decide +kernel
theorem dX2_seekWall_43 : decode cX2_seekWall 43 = .ok (.iload_n 1, 1) := by decide +kernel
theorem dX2_seekWall_44 : decode cX2_seekWall 44 = .ok (.imul, 1) := by decide +kernel
theorem dX2_seekWall_45 : decode cX2_seekWall 45 = .ok (.iload_n 2, 1) := by decide +kernel
theorem dX2_seekWall_46 : decode cX2_seekWall 46 = .ok (.iadd, 1) := by decide +kernel
theorem dX2_seekWall_47 : decode cX2_seekWall 47 = .ok (.aload_n 0, 1) := by decide +kernel
theorem dX2_seekWall_48 : decode cX2_seekWall 48 = .ok (.iload_n 1, 1) := by decide +kernel
theorem dX2_seekWall_49 : decode cX2_seekWall 49 = .ok (.aload_n 0, 1) := by decide +kernel
theorem dX2_seekWall_50 : decode cX2_seekWall 50 = .ok (.getfield 69, 3) := by decide +kernel
theorem dX2_seekWall_53 : decode cX2_seekWall 53 = .ok (.invokevirtual 106, 3) := by decide +kernel
theorem dX2_seekWall_56 : decode cX2_seekWall 56 = .ok (.invokevirtual 80, 3) := by decide +kernel
theorem dX2_seekWall_59 : decode cX2_seekWall 59 = .ok (.iinc 2 1, 3) := by decide +kernel
theorem dX2_seekWall_62 : decode cX2_seekWall 62 = .ok (.goto (-35), 3) := by decide +kernel
theorem dX2_seekWall_65 : decode cX2_seekWall 65 = .ok (.iinc 1 1, 3) := by decide +kernel
theorem dX2_seekWall_68 : decode cX2_seekWall 68 = .ok (.goto (-54), 3) := by decide +kernel
theorem dX2_seekWall_71 : decode cX2_seekWall 71 = .ok (.return_, 1) := by decide +kernel
theorem dX2_prefer_0 : decode cX2_prefer 0 = .ok (.iload_n 2, 1) := by decide +kernel
theorem dX2_prefer_1 : decode cX2_prefer 1 = .ok (.aload_n 0, 1) := by decide +kernel
theorem dX2_prefer_2 : decode cX2_prefer 2 = .ok (.getfield 69, 3) := by decide +kernel
theorem dX2_prefer_5 : decode cX2_prefer 5 = .ok (.if_icmp .le 13, 3) := by decide +kernel
theorem dX2_prefer_8 : decode cX2_prefer 8 = .ok (.aload_n 0, 1) := by decide +kernel
theorem dX2_prefer_9 : decode cX2_prefer 9 = .ok (.iload_n 1, 1) := by decide +kernel
theorem dX2_prefer_10 : decode cX2_prefer 10 = .ok (.putfield 64, 3) := by decide +kernel
theorem dX2_prefer_13 : decode cX2_prefer 13 = .ok (.aload_n 0, 1) := by decide +kernel
theorem dX2_prefer_14 : decode cX2_prefer 14 = .ok (.iload_n 2, 1) := by decide +kernel
theorem dX2_prefer_15 : decode cX2_prefer 15 = .ok (.putfield 69, 3) := by decide +kernel
theorem dX2_prefer_18 : decode cX2_prefer 18 = .ok (.return_, 1) := by decide +kernel
theorem dX2_highestRise_0 : decode cX2_highestRise 0 = .ok (.bipush 60, 2) := by decide +kernel
theorem dX2_highestRise_2 : decode cX2_highestRise 2 = .ok (.istore_n 3, 1) := by decide +kernel
theorem dX2_highestRise_3 : decode cX2_highestRise 3 = .ok (.iload_n 3, 1) := by decide +kernel
theorem dX2_highestRise_4 : decode cX2_highestRise 4 = .ok (.bipush (-20), 2) := by decide +kernel
theorem dX2_highestRise_6 : decode cX2_highestRise 6 = .ok (.if_icmp .lt 27, 3) := by decide +kernel
theorem dX2_highestRise_9 : decode cX2_highestRise 9 = .ok (.iload_n 3, 1) := by decide +kernel
theorem dX2_highestRise_10 : decode cX2_highestRise 10 = .ok (.iload_n 2, 1) := by decide +kernel
theorem dX2_highestRise_11 : decode cX2_highestRise 11 = .ok (.if_icmp .le 22, 3) := by decide +kernel
theorem dX2_highestRise_14 : decode cX2_highestRise 14 = .ok (.aload_n 0, 1) := by decide +kernel
theorem dX2_highestRise_15 : decode cX2_highestRise 15 = .ok (.iload_n 1, 1) := by decide +kernel
theorem dX2_highestRise_16 : decode cX2_highestRise 16 = .ok (.iload_n 3, 1) := by decide +kernel
theorem dX2_highestRise_17 : decode cX2_highestRise 17 = .ok (.invokevirtual 109, 3) := by decide +kernel
theorem dX2_highestRise_20 : decode cX2_highestRise 20 = .ok (.bipush (-2), 2) := by decide +kernel
theorem dX2_highestRise_22 : decode cX2_highestRise 22 = .ok (.if_icmp .ne 5, 3) := by decide +kernel
theorem dX2_highestRise_25 : decode cX2_highestRise 25 = .ok (.iload_n 3, 1) := by decide +kernel
theorem dX2_highestRise_26 : decode cX2_highestRise 26 = .ok (.ireturn, 1) := by decide +kernel
theorem dX2_highestRise_27 : decode cX2_highestRise 27 = .ok (.iinc 3 (-1), 3) := by decide +kernel
theorem dX2_highestRise_30 : decode cX2_highestRise 30 = .ok (.goto (-27), 3) := by decide +kernel
theorem dX2_highestRise_33 : decode cX2_highestRise 33 = .ok (.bipush (-100), 2) := by decide +kernel
theorem dX2_highestRise_35 : decode cX2_highestRise 35 = .ok (.ireturn, 1) := by decide +kernel
theorem dX2_timesOver_0 : decode cX2_timesOver 0 = .ok (.iload_n 3, 1) := by decide +kernel
theorem dX2_timesOver_1 : decode cX2_timesOver 1 = .ok (.istore 6, 2) := by decide +kernel
theorem dX2_timesOver_3 : decode cX2_timesOver 3 = .ok (.iconst 0, 1) := by decide +kernel
theorem dX2_timesOver_4 : decode cX2_timesOver 4 = .ok (.istore 7, 2) := by decide +kernel
theorem dX2_timesOver_6 : decode cX2_timesOver 6 = .ok (.iconst 0, 1) := by decide +kernel
theorem dX2_timesOver_7 : decode cX2_timesOver 7 = .ok (.istore 8, 2) := by decide +kernel
theorem dX2_timesOver_9 : decode cX2_timesOver 9 = .ok (.iload 8, 2) := by decide +kernel
theorem dX2_timesOver_11 : decode cX2_timesOver 11 = .ok (.iload 4, 2) := by decide +kernel
theorem dX2_timesOver_13 : decode cX2_timesOver 13 = .ok (.if_icmp .ge 88, 3) := by decide +kernel
theorem dX2_timesOver_16 : decode cX2_timesOver 16 = .ok (.iconst 1, 1) := by decide +kernel
theorem dX2_timesOver_17 : decode cX2_timesOver 17 = .ok (.istore 9, 2) := by decide +kernel
theorem dX2_timesOver_19 : decode cX2_timesOver 19 = .ok (.iconst 0, 1) := by decide +kernel
theorem dX2_timesOver_20 : decode cX2_timesOver 20 = .ok (.istore 10, 2) := by decide +kernel
theorem dX2_timesOver_22 : decode cX2_timesOver 22 = .ok (.iload 10, 2) := by decide +kernel
theorem dX2_timesOver_24 : decode cX2_timesOver 24 = .ok (.aload_n 0, 1) := by decide +kernel
theorem dX2_timesOver_25 : decode cX2_timesOver 25 = .ok (.getfield 9, 3) := by decide +kernel
theorem dX2_timesOver_28 : decode cX2_timesOver 28 = .ok (.iload_n 1, 1) := by decide +kernel
theorem dX2_timesOver_29 : decode cX2_timesOver 29 = .ok (.invokevirtual 51, 3) := by decide +kernel
theorem dX2_timesOver_32 : decode cX2_timesOver 32 = .ok (.if_icmp .ge 53, 3) := by decide +kernel
theorem dX2_timesOver_35 : decode cX2_timesOver 35 = .ok (.iload 6, 2) := by decide +kernel
theorem dX2_timesOver_37 : decode cX2_timesOver 37 = .ok (.ldc 112, 2) := by decide +kernel
theorem dX2_timesOver_39 : decode cX2_timesOver 39 = .ok (.imul, 1) := by decide +kernel
theorem dX2_timesOver_40 : decode cX2_timesOver 40 = .ok (.sipush 12345, 3) := by decide +kernel
theorem dX2_timesOver_43 : decode cX2_timesOver 43 = .ok (.iadd, 1) := by decide +kernel
theorem dX2_timesOver_44 : decode cX2_timesOver 44 = .ok (.istore 6, 2) := by decide +kernel
theorem dX2_timesOver_46 : decode cX2_timesOver 46 = .ok (.iload 9, 2) := by decide +kernel
theorem dX2_timesOver_48 : decode cX2_timesOver 48 = .ok (.ifCond .eq 28, 3) := by decide +kernel
theorem dX2_timesOver_51 : decode cX2_timesOver 51 = .ok (.aload_n 0, 1) := by decide +kernel
theorem dX2_timesOver_52 : decode cX2_timesOver 52 = .ok (.iload_n 1, 1) := by decide +kernel
theorem dX2_timesOver_53 : decode cX2_timesOver 53 = .ok (.iload 10, 2) := by decide +kernel
theorem dX2_timesOver_55 : decode cX2_timesOver 55 = .ok (.iload_n 2, 1) := by decide +kernel
theorem dX2_timesOver_56 : decode cX2_timesOver 56 = .ok (.iload 6, 2) := by decide +kernel
theorem dX2_timesOver_58 : decode cX2_timesOver 58 = .ok (.bipush 8, 2) := by decide +kernel
theorem dX2_timesOver_60 : decode cX2_timesOver 60 = .ok (.iushr, 1) := by decide +kernel
theorem dX2_timesOver_61 : decode cX2_timesOver 61 = .ok (.iload 5, 2) := by decide +kernel
theorem dX2_timesOver_63 : decode cX2_timesOver 63 = .ok (.invokestatic 113, 3) := by decide +kernel
theorem dX2_timesOver_66 : decode cX2_timesOver 66 = .ok (.invokevirtual 116, 3) := by decide +kernel
theorem dX2_timesOver_69 : decode cX2_timesOver 69 = .ok (.ifCond .eq 7, 3) := by decide +kernel
theorem dX2_timesOver_72 : decode cX2_timesOver 72 = .ok (.iconst 1, 1) := by decide +kernel
theorem dX2_timesOver_73 : decode cX2_timesOver 73 = .ok (.goto 4, 3) := by decide +kernel
theorem dX2_timesOver_76 : decode cX2_timesOver 76 = .ok (.iconst 0, 1) := by decide +kernel
theorem dX2_timesOver_77 : decode cX2_timesOver 77 = .ok (.istore 9, 2) := by decide +kernel
theorem dX2_timesOver_79 : decode cX2_timesOver 79 = .ok (.iinc 10 1, 3) := by decide +kernel
theorem dX2_timesOver_82 : decode cX2_timesOver 82 = .ok (.goto (-60), 3) := by decide +kernel
theorem dX2_timesOver_85 : decode cX2_timesOver 85 = .ok (.iload 7, 2) := by decide +kernel
theorem dX2_timesOver_87 : decode cX2_timesOver 87 = .ok (.iload 9, 2) := by decide +kernel
theorem dX2_timesOver_89 : decode cX2_timesOver 89 = .ok (.invokestatic 120, 3) := by decide +kernel
theorem dX2_timesOver_92 : decode cX2_timesOver 92 = .ok (.iadd, 1) := by decide +kernel
theorem dX2_timesOver_93 : decode cX2_timesOver 93 = .ok (.istore 7, 2) := by decide +kernel
theorem dX2_timesOver_95 : decode cX2_timesOver 95 = .ok (.iinc 8 1, 3) := by decide +kernel
theorem dX2_timesOver_98 : decode cX2_timesOver 98 = .ok (.goto (-89), 3) := by decide +kernel
theorem dX2_timesOver_101 : decode cX2_timesOver 101 = .ok (.iload 7, 2) := by decide +kernel
theorem dX2_timesOver_103 : decode cX2_timesOver 103 = .ok (.ireturn, 1) := by decide +kernel
theorem dX2_firstHourOver_0 : decode cX2_firstHourOver 0 = .ok (.iload_n 2, 1) := by decide +kernel
theorem dX2_firstHourOver_1 : decode cX2_firstHourOver 1 = .ok (.istore_n 3, 1) := by decide +kernel
theorem dX2_firstHourOver_2 : decode cX2_firstHourOver 2 = .ok (.iload_n 3, 1) := by decide +kernel
theorem dX2_firstHourOver_3 : decode cX2_firstHourOver 3 = .ok (.bipush 48, 2) := by decide +kernel
theorem dX2_firstHourOver_5 : decode cX2_firstHourOver 5 = .ok (.if_icmp .ge 36, 3) := by decide +kernel
theorem dX2_firstHourOver_8 : decode cX2_firstHourOver 8 = .ok (.iload_n 3, 1) := by decide +kernel
theorem dX2_firstHourOver_9 : decode cX2_firstHourOver 9 = .ok (.invokestatic 88, 3) := by decide +kernel
theorem dX2_firstHourOver_12 : decode cX2_firstHourOver 12 = .ok (.ifCond .ne 23, 3) := by decide +kernel
theorem dX2_firstHourOver_15 : decode cX2_firstHourOver 15 = .ok (.aload_n 0, 1) := by decide +kernel
theorem dX2_firstHourOver_16 : decode cX2_firstHourOver 16 = .ok (.iload_n 1, 1) := by decide +kernel
theorem dX2_firstHourOver_17 : decode cX2_firstHourOver 17 = .ok (.aload_n 0, 1) := by decide +kernel
theorem dX2_firstHourOver_18 : decode cX2_firstHourOver 18 = .ok (.getfield 15, 3) := by decide +kernel
theorem dX2_firstHourOver_21 : decode cX2_firstHourOver 21 = .ok (.iload_n 3, 1) := by decide +kernel
theorem dX2_firstHourOver_22 : decode cX2_firstHourOver 22 = .ok (.invokevirtual 92, 3) := by decide +kernel
theorem dX2_firstHourOver_25 : decode cX2_firstHourOver 25 = .ok (.invokevirtual 109, 3) := by decide +kernel
theorem dX2_firstHourOver_28 : decode cX2_firstHourOver 28 = .ok (.bipush (-2), 2) := by decide +kernel
theorem dX2_firstHourOver_30 : decode cX2_firstHourOver 30 = .ok (.if_icmp .ne 5, 3) := by decide +kernel
theorem dX2_firstHourOver_33 : decode cX2_firstHourOver 33 = .ok (.iload_n 3, 1) := by decide +kernel
theorem dX2_firstHourOver_34 : decode cX2_firstHourOver 34 = .ok (.ireturn, 1) := by decide +kernel
theorem dX2_firstHourOver_35 : decode cX2_firstHourOver 35 = .ok (.iinc 3 1, 3) := by decide +kernel
theorem dX2_firstHourOver_38 : decode cX2_firstHourOver 38 = .ok (.goto (-36), 3) := by decide +kernel
theorem dX2_firstHourOver_41 : decode cX2_firstHourOver 41 = .ok (.bipush (-2), 2) := by decide +kernel
theorem dX2_firstHourOver_43 : decode cX2_firstHourOver 43 = .ok (.ireturn, 1) := by decide +kernel
theorem dX2_fallersAsLast_0 : decode cX2_fallersAsLast 0 = .ok (.iconst 0, 1) := by decide +kernel
theorem dX2_fallersAsLast_1 : decode cX2_fallersAsLast 1 = .ok (.istore_n 3, 1) := by decide +kernel
theorem dX2_fallersAsLast_2 : decode cX2_fallersAsLast 2 = .ok (.aload_n 0, 1) := by decide +kernel
theorem dX2_fallersAsLast_3 : decode cX2_fallersAsLast 3 = .ok (.getfield 19, 3) := by decide +kernel
theorem dX2_fallersAsLast_6 : decode cX2_fallersAsLast 6 = .ok (.invokevirtual 124, 3) := by decide +kernel
theorem dX2_fallersAsLast_9 : decode cX2_fallersAsLast 9 = .ok (.iconst 0, 1) := by decide +kernel
theorem dX2_fallersAsLast_10 : decode cX2_fallersAsLast 10 = .ok (.istore 4, 2) := by decide +kernel
theorem dX2_fallersAsLast_12 : decode cX2_fallersAsLast 12 = .ok (.iload 4, 2) := by decide +kernel
theorem dX2_fallersAsLast_14 : decode cX2_fallersAsLast 14 = .ok (.aload_n 0, 1) := by decide +kernel
theorem dX2_fallersAsLast_15 : decode cX2_fallersAsLast 15 = .ok (.getfield 9, 3) := by decide +kernel
theorem dX2_fallersAsLast_18 : decode cX2_fallersAsLast 18 = .ok (.iload_n 1, 1) := by decide +kernel
theorem dX2_fallersAsLast_19 : decode cX2_fallersAsLast 19 = .ok (.invokevirtual 51, 3) := by decide +kernel
theorem dX2_fallersAsLast_22 : decode cX2_fallersAsLast 22 = .ok (.if_icmp .ge 28, 3) := by decide +kernel
theorem dX2_fallersAsLast_25 : decode cX2_fallersAsLast 25 = .ok (.aload_n 0, 1) := by decide +kernel
theorem dX2_fallersAsLast_26 : decode cX2_fallersAsLast 26 = .ok (.iload_n 1, 1) := by decide +kernel
theorem dX2_fallersAsLast_27 : decode cX2_fallersAsLast 27 = .ok (.iload 4, 2) := by decide +kernel
theorem dX2_fallersAsLast_29 : decode cX2_fallersAsLast 29 = .ok (.iload_n 2, 1) := by decide +kernel
theorem dX2_fallersAsLast_30 : decode cX2_fallersAsLast 30 = .ok (.iconst 0, 1) := by decide +kernel
theorem dX2_fallersAsLast_31 : decode cX2_fallersAsLast 31 = .ok (.invokevirtual 41, 3) := by decide +kernel
theorem dX2_fallersAsLast_34 : decode cX2_fallersAsLast 34 = .ok (.iload_n 3, 1) := by decide +kernel
theorem dX2_fallersAsLast_35 : decode cX2_fallersAsLast 35 = .ok (.aload_n 0, 1) := by decide +kernel
theorem dX2_fallersAsLast_36 : decode cX2_fallersAsLast 36 = .ok (.getfield 19, 3) := by decide +kernel
theorem dX2_fallersAsLast_39 : decode cX2_fallersAsLast 39 = .ok (.invokevirtual 127, 3) := by decide +kernel
theorem dX2_fallersAsLast_42 : decode cX2_fallersAsLast 42 = .ok (.ior, 1) := by decide +kernel
theorem dX2_fallersAsLast_43 : decode cX2_fallersAsLast 43 = .ok (.istore_n 3, 1) := by decide +kernel
theorem dX2_fallersAsLast_44 : decode cX2_fallersAsLast 44 = .ok (.iinc 4 1, 3) := by decide +kernel
theorem dX2_fallersAsLast_47 : decode cX2_fallersAsLast 47 = .ok (.goto (-35), 3) := by decide +kernel
theorem dX2_fallersAsLast_50 : decode cX2_fallersAsLast 50 = .ok (.iload_n 3, 1) := by decide +kernel
theorem dX2_fallersAsLast_51 : decode cX2_fallersAsLast 51 = .ok (.ireturn, 1) := by decide +kernel
theorem dX2_stoppedIn_0 : decode cX2_stoppedIn 0 = .ok (.iconst 0, 1) := by decide +kernel
theorem dX2_stoppedIn_1 : decode cX2_stoppedIn 1 = .ok (.istore 4, 2) := by decide +kernel
theorem dX2_stoppedIn_3 : decode cX2_stoppedIn 3 = .ok (.iload 4, 2) := by decide +kernel
theorem dX2_stoppedIn_5 : decode cX2_stoppedIn 5 = .ok (.aload_n 0, 1) := by decide +kernel
theorem dX2_stoppedIn_6 : decode cX2_stoppedIn 6 = .ok (.getfield 9, 3) := by decide +kernel
theorem dX2_stoppedIn_9 : decode cX2_stoppedIn 9 = .ok (.iload_n 1, 1) := by decide +kernel
theorem dX2_stoppedIn_10 : decode cX2_stoppedIn 10 = .ok (.invokevirtual 51, 3) := by decide +kernel
theorem dX2_stoppedIn_13 : decode cX2_stoppedIn 13 = .ok (.if_icmp .ge 34, 3) := by decide +kernel
theorem dX2_stoppedIn_16 : decode cX2_stoppedIn 16 = .ok (.aload_n 0, 1) := by decide +kernel
theorem dX2_stoppedIn_17 : decode cX2_stoppedIn 17 = .ok (.iload_n 1, 1) := by decide +kernel
theorem dX2_stoppedIn_18 : decode cX2_stoppedIn 18 = .ok (.iload 4, 2) := by decide +kernel
theorem dX2_stoppedIn_20 : decode cX2_stoppedIn 20 = .ok (.aload_n 0, 1) := by decide +kernel
theorem dX2_stoppedIn_21 : decode cX2_stoppedIn 21 = .ok (.getfield 15, 3) := by decide +kernel
theorem dX2_stoppedIn_24 : decode cX2_stoppedIn 24 = .ok (.iload_n 2, 1) := by decide +kernel
theorem dX2_stoppedIn_25 : decode cX2_stoppedIn 25 = .ok (.iload 4, 2) := by decide +kernel
theorem dX2_stoppedIn_27 : decode cX2_stoppedIn 27 = .ok (.iload_n 3, 1) := by decide +kernel
theorem dX2_stoppedIn_28 : decode cX2_stoppedIn 28 = .ok (.invokestatic 130, 3) := by decide +kernel
theorem dX2_stoppedIn_31 : decode cX2_stoppedIn 31 = .ok (.invokevirtual 92, 3) := by decide +kernel
theorem dX2_stoppedIn_34 : decode cX2_stoppedIn 34 = .ok (.iconst 0, 1) := by decide +kernel
theorem dX2_stoppedIn_35 : decode cX2_stoppedIn 35 = .ok (.invokevirtual 116, 3) := by decide +kernel
theorem dX2_stoppedIn_38 : decode cX2_stoppedIn 38 = .ok (.ifCond .eq 9, 3) := by decide +kernel
theorem dX2_stoppedIn_41 : decode cX2_stoppedIn 41 = .ok (.iinc 4 1, 3) := by decide +kernel
theorem dX2_stoppedIn_44 : decode cX2_stoppedIn 44 = .ok (.goto (-41), 3) := by decide +kernel
theorem dX2_stoppedIn_47 : decode cX2_stoppedIn 47 = .ok (.iload 4, 2) := by decide +kernel
theorem dX2_stoppedIn_49 : decode cX2_stoppedIn 49 = .ok (.ireturn, 1) := by decide +kernel
theorem dX2_comesBack_0 : decode cX2_comesBack 0 = .ok (.iload 4, 2) := by decide +kernel
theorem dX2_comesBack_2 : decode cX2_comesBack 2 = .ok (.iconst 1, 1) := by decide +kernel
theorem dX2_comesBack_3 : decode cX2_comesBack 3 = .ok (.isub, 1) := by decide +kernel
theorem dX2_comesBack_4 : decode cX2_comesBack 4 = .ok (.istore 5, 2) := by decide +kernel
theorem dX2_comesBack_6 : decode cX2_comesBack 6 = .ok (.iload 5, 2) := by decide +kernel
theorem dX2_comesBack_8 : decode cX2_comesBack 8 = .ok (.ifCond .lt 47, 3) := by decide +kernel
theorem dX2_comesBack_11 : decode cX2_comesBack 11 = .ok (.aload_n 0, 1) := by decide +kernel
theorem dX2_comesBack_12 : decode cX2_comesBack 12 = .ok (.getfield 15, 3) := by decide +kernel
theorem dX2_comesBack_15 : decode cX2_comesBack 15 = .ok (.iload_n 2, 1) := by decide +kernel
theorem dX2_comesBack_16 : decode cX2_comesBack 16 = .ok (.iconst 2, 1) := by decide +kernel
theorem dX2_comesBack_17 : decode cX2_comesBack 17 = .ok (.iload 4, 2) := by decide +kernel
theorem dX2_comesBack_19 : decode cX2_comesBack 19 = .ok (.imul, 1) := by decide +kernel
theorem dX2_comesBack_20 : decode cX2_comesBack 20 = .ok (.iconst 1, 1) := by decide +kernel
theorem dX2_comesBack_21 : decode cX2_comesBack 21 = .ok (.isub, 1) := by decide +kernel
theorem dX2_comesBack_22 : decode cX2_comesBack 22 = .ok (.iload 5, 2) := by decide +kernel
theorem dX2_comesBack_24 : decode cX2_comesBack 24 = .ok (.isub, 1) := by decide +kernel
theorem dX2_comesBack_25 : decode cX2_comesBack 25 = .ok (.iload_n 3, 1) := by decide +kernel
theorem dX2_comesBack_26 : decode cX2_comesBack 26 = .ok (.invokestatic 130, 3) := by decide +kernel
theorem dX2_comesBack_29 : decode cX2_comesBack 29 = .ok (.invokevirtual 92, 3) := by decide +kernel
theorem dX2_comesBack_32 : decode cX2_comesBack 32 = .ok (.istore 6, 2) := by decide +kernel
theorem dX2_comesBack_34 : decode cX2_comesBack 34 = .ok (.aload_n 0, 1) := by decide +kernel
theorem dX2_comesBack_35 : decode cX2_comesBack 35 = .ok (.iload_n 1, 1) := by decide +kernel
theorem dX2_comesBack_36 : decode cX2_comesBack 36 = .ok (.iload 5, 2) := by decide +kernel
theorem dX2_comesBack_38 : decode cX2_comesBack 38 = .ok (.iload 6, 2) := by decide +kernel
theorem dX2_comesBack_40 : decode cX2_comesBack 40 = .ok (.iconst 0, 1) := by decide +kernel
theorem dX2_comesBack_41 : decode cX2_comesBack 41 = .ok (.invokevirtual 116, 3) := by decide +kernel
theorem dX2_comesBack_44 : decode cX2_comesBack 44 = .ok (.ifCond .ne 5, 3) := by decide +kernel
theorem dX2_comesBack_47 : decode cX2_comesBack 47 = .ok (.iconst 0, 1) := by decide +kernel
theorem dX2_comesBack_48 : decode cX2_comesBack 48 = .ok (.ireturn, 1) := by decide +kernel
theorem dX2_comesBack_49 : decode cX2_comesBack 49 = .ok (.iinc 5 (-1), 3) := by decide +kernel
theorem dX2_comesBack_52 : decode cX2_comesBack 52 = .ok (.goto (-46), 3) := by decide +kernel
theorem dX2_comesBack_55 : decode cX2_comesBack 55 = .ok (.iconst 1, 1) := by decide +kernel
theorem dX2_comesBack_56 : decode cX2_comesBack 56 = .ok (.ireturn, 1) := by decide +kernel
theorem dX2_hourAfter_0 : decode cX2_hourAfter 0 = .ok (.bipush 47, 2) := by decide +kernel
theorem dX2_hourAfter_2 : decode cX2_hourAfter 2 = .ok (.iload_n 0, 1) := by decide +kernel
theorem dX2_hourAfter_3 : decode cX2_hourAfter 3 = .ok (.iload_n 1, 1) := by decide +kernel
theorem dX2_hourAfter_4 : decode cX2_hourAfter 4 = .ok (.iload_n 2, 1) := by decide +kernel
theorem dX2_hourAfter_5 : decode cX2_hourAfter 5 = .ok (.imul, 1) := by decide +kernel
theorem dX2_hourAfter_6 : decode cX2_hourAfter 6 = .ok (.bipush 60, 2) := by decide +kernel
theorem dX2_hourAfter_8 : decode cX2_hourAfter 8 = .ok (.idiv, 1) := by decide +kernel
theorem dX2_hourAfter_9 : decode cX2_hourAfter 9 = .ok (.iadd, 1) := by decide +kernel
theorem dX2_hourAfter_10 : decode cX2_hourAfter 10 = .ok (.invokestatic 58, 3) := by decide +kernel
theorem dX2_hourAfter_13 : decode cX2_hourAfter 13 = .ok (.ireturn, 1) := by decide +kernel
theorem dX3_init_0 : decode cX3_init 0 = .ok (.aload_n 0, 1) := by decide +kernel
theorem dX3_init_1 : decode cX3_init 1 = .ok (.invokespecial 3, 3) := by decide +kernel
theorem dX3_init_4 : decode cX3_init 4 = .ok (.aload_n 0, 1) := by decide +kernel
theorem dX3_init_5 : decode cX3_init 5 = .ok (.bipush 121, 2) := by decide +kernel
theorem dX3_init_7 : decode cX3_init 7 = .ok (.newarray .int, 2) := by decide +kernel
theorem dX3_init_9 : decode cX3_init 9 = .ok (.putfield 11, 3) := by decide +kernel
theorem dX3_init_12 : decode cX3_init 12 = .ok (.aload_n 0, 1) := by decide +kernel
theorem dX3_init_13 : decode cX3_init 13 = .ok (.aload_n 1, 1) := by decide +kernel
theorem dX3_init_14 : decode cX3_init 14 = .ok (.putfield 15, 3) := by decide +kernel
theorem dX3_init_17 : decode cX3_init 17 = .ok (.return_, 1) := by decide +kernel
theorem dX3_read_0 : decode cX3_read 0 = .ok (.aload_n 0, 1) := by decide +kernel
theorem dX3_read_1 : decode cX3_read 1 = .ok (.iconst 0, 1) := by decide +kernel
theorem dX3_read_2 : decode cX3_read 2 = .ok (.putfield 19, 3) := by decide +kernel
theorem dX3_read_5 : decode cX3_read 5 = .ok (.iconst 0, 1) := by decide +kernel
theorem dX3_read_6 : decode cX3_read 6 = .ok (.istore_n 1, 1) := by decide +kernel
theorem dX3_read_7 : decode cX3_read 7 = .ok (.iload_n 1, 1) := by decide +kernel
theorem dX3_read_8 : decode cX3_read 8 = .ok (.bipush 120, 2) := by decide +kernel
theorem dX3_read_10 : decode cX3_read 10 = .ok (.if_icmp .gt 49, 3) := by decide +kernel
theorem dX3_read_13 : decode cX3_read 13 = .ok (.aload_n 0, 1) := by decide +kernel
theorem dX3_read_14 : decode cX3_read 14 = .ok (.invokevirtual 23, 3) := by decide +kernel
theorem dX3_read_17 : decode cX3_read 17 = .ok (.ifCond .ne 5, 3) := by decide +kernel
theorem dX3_read_20 : decode cX3_read 20 = .ok (.iconst (-1), 1) := by decide +kernel
theorem dX3_read_21 : decode cX3_read 21 = .ok (.ireturn, 1) := by decide +kernel
theorem dX3_read_22 : decode cX3_read 22 = .ok (.aload_n 0, 1) := by decide +kernel
theorem dX3_read_23 : decode cX3_read 23 = .ok (.getfield 15, 3) := by decide +kernel
theorem dX3_read_26 : decode cX3_read 26 = .ok (.bipush 59, 2) := by decide +kernel
theorem dX3_read_28 : decode cX3_read 28 = .ok (.invokevirtual 27, 3) := by decide +kernel
theorem dX3_read_31 : decode cX3_read 31 = .ok (.ifCond .ne 22, 3) := by decide +kernel
theorem dX3_read_34 : decode cX3_read 34 = .ok (.aload_n 0, 1) := by decide +kernel
theorem dX3_read_35 : decode cX3_read 35 = .ok (.getfield 15, 3) := by decide +kernel
theorem dX3_read_38 : decode cX3_read 38 = .ok (.invokevirtual 31, 3) := by decide +kernel
theorem dX3_read_41 : decode cX3_read 41 = .ok (.ifCond .eq 10, 3) := by decide +kernel
theorem dX3_read_44 : decode cX3_read 44 = .ok (.aload_n 0, 1) := by decide +kernel
theorem dX3_read_45 : decode cX3_read 45 = .ok (.getfield 19, 3) := by decide +kernel
theorem dX3_read_48 : decode cX3_read 48 = .ok (.goto 4, 3) := by decide +kernel
theorem dX3_read_51 : decode cX3_read 51 = .ok (.iconst (-1), 1) := by decide +kernel
theorem dX3_read_52 : decode cX3_read 52 = .ok (.ireturn, 1) := by decide +kernel
theorem dX3_read_53 : decode cX3_read 53 = .ok (.iinc 1 1, 3) := by decide +kernel
theorem dX3_read_56 : decode cX3_read 56 = .ok (.goto (-49), 3) := by decide +kernel
theorem dX3_read_59 : decode cX3_read 59 = .ok (.iconst (-1), 1) := by decide +kernel
theorem dX3_read_60 : decode cX3_read 60 = .ok (.ireturn, 1) := by decide +kernel
theorem dX3_copyTo_0 : decode cX3_copyTo 0 = .ok (.aload_n 0, 1) := by decide +kernel
theorem dX3_copyTo_1 : decode cX3_copyTo 1 = .ok (.getfield 11, 3) := by decide +kernel
theorem dX3_copyTo_4 : decode cX3_copyTo 4 = .ok (.iconst 0, 1) := by decide +kernel
theorem dX3_copyTo_5 : decode cX3_copyTo 5 = .ok (.aload_n 1, 1) := by decide +kernel
theorem dX3_copyTo_6 : decode cX3_copyTo 6 = .ok (.iconst 0, 1) := by decide +kernel
theorem dX3_copyTo_7 : decode cX3_copyTo 7 = .ok (.aload_n 0, 1) := by decide +kernel
theorem dX3_copyTo_8 : decode cX3_copyTo 8 = .ok (.getfield 19, 3) := by decide +kernel
theorem dX3_copyTo_11 : decode cX3_copyTo 11 = .ok (.aload_n 1, 1) := by decide +kernel
theorem dX3_copyTo_12 : decode cX3_copyTo 12 = .ok (.arraylength, 1) := by decide +kernel
theorem dX3_copyTo_13 : decode cX3_copyTo 13 = .ok (.invokestatic 34, 3) := by decide +kernel
theorem dX3_copyTo_16 : decode cX3_copyTo 16 = .ok (.invokestatic 40, 3) := by decide +kernel
theorem dX3_copyTo_19 : decode cX3_copyTo 19 = .ok (.return_, 1) := by decide +kernel
theorem dX3_readLine_0 : decode cX3_readLine 0 = .ok (.aload_n 0, 1) := by decide +kernel
theorem dX3_readLine_1 : decode cX3_readLine 1 = .ok (.iconst 0, 1) := by decide +kernel
theorem dX3_readLine_2 : decode cX3_readLine 2 = .ok (.iconst 0, 1) := by decide +kernel
theorem dX3_readLine_3 : decode cX3_readLine 3 = .ok (.invokevirtual 46, 3) := by decide +kernel
theorem dX3_readLine_6 : decode cX3_readLine 6 = .ok (.ifCond .ne 5, 3) := by decide +kernel
theorem dX3_readLine_9 : decode cX3_readLine 9 = .ok (.iconst 0, 1) := by decide +kernel
theorem dX3_readLine_10 : decode cX3_readLine 10 = .ok (.ireturn, 1) := by decide +kernel
theorem dX3_readLine_11 : decode cX3_readLine 11 = .ok (.aload_n 0, 1) := by decide +kernel
theorem dX3_readLine_12 : decode cX3_readLine 12 = .ok (.getfield 15, 3) := by decide +kernel
theorem dX3_readLine_15 : decode cX3_readLine 15 = .ok (.bipush 63, 2) := by decide +kernel
theorem dX3_readLine_17 : decode cX3_readLine 17 = .ok (.invokevirtual 27, 3) := by decide +kernel
theorem dX3_readLine_20 : decode cX3_readLine 20 = .ok (.ifCond .eq 20, 3) := by decide +kernel
theorem dX3_readLine_23 : decode cX3_readLine 23 = .ok (.aload_n 0, 1) := by decide +kernel
theorem dX3_readLine_24 : decode cX3_readLine 24 = .ok (.bipush (-63), 2) := by decide +kernel
theorem dX3_readLine_26 : decode cX3_readLine 26 = .ok (.invokevirtual 50, 3) := by decide +kernel
theorem dX3_readLine_29 : decode cX3_readLine 29 = .ok (.aload_n 0, 1) := by decide +kernel
theorem dX3_readLine_30 : decode cX3_readLine 30 = .ok (.iconst 0, 1) := by decide +kernel
theorem dX3_readLine_31 : decode cX3_readLine 31 = .ok (.iconst 0, 1) := by decide +kernel
theorem dX3_readLine_32 : decode cX3_readLine 32 = .ok (.invokevirtual 46, 3) := by decide +kernel
theorem dX3_readLine_35 : decode cX3_readLine 35 = .ok (.ifCond .ne 5, 3) := by decide +kernel
theorem dX3_readLine_38 : decode cX3_readLine 38 = .ok (.iconst 0, 1) := by decide +kernel
theorem dX3_readLine_39 : decode cX3_readLine 39 = .ok (.ireturn, 1) := by decide +kernel
theorem dX3_readLine_40 : decode cX3_readLine 40 = .ok (.aload_n 0, 1) := by decide +kernel
theorem dX3_readLine_41 : decode cX3_readLine 41 = .ok (.bipush (-59), 2) := by decide +kernel
theorem dX3_readLine_43 : decode cX3_readLine 43 = .ok (.invokevirtual 50, 3) := by decide +kernel
theorem dX3_readLine_46 : decode cX3_readLine 46 = .ok (.iconst 1, 1) := by decide +kernel
theorem dX3_readLine_47 : decode cX3_readLine 47 = .ok (.ireturn, 1) := by decide +kernel
theorem dX3_readChain_0 : decode cX3_readChain 0 = .ok (.aload_n 0, 1) := by decide +kernel
theorem dX3_readChain_1 : decode cX3_readChain 1 = .ok (.iload_n 1, 1) := by decide +kernel
theorem dX3_readChain_2 : decode cX3_readChain 2 = .ok (.iconst 1, 1) := by decide +kernel
theorem dX3_readChain_3 : decode cX3_readChain 3 = .ok (.iadd, 1) := by decide +kernel
theorem dX3_readChain_4 : decode cX3_readChain 4 = .ok (.iload_n 2, 1) := by decide +kernel
theorem dX3_readChain_5 : decode cX3_readChain 5 = .ok (.invokevirtual 54, 3) := by decide +kernel
theorem dX3_readChain_8 : decode cX3_readChain 8 = .ok (.ifCond .ne 5, 3) := by decide +kernel
theorem dX3_readChain_11 : decode cX3_readChain 11 = .ok (.iconst 0, 1) := by decide +kernel
theorem dX3_readChain_12 : decode cX3_readChain 12 = .ok (.ireturn, 1) := by decide +kernel
theorem dX3_readChain_13 : decode cX3_readChain 13 = .ok (.iload_n 1, 1) := by decide +kernel
theorem dX3_readChain_14 : decode cX3_readChain 14 = .ok (.iconst 2, 1) := by decide +kernel
theorem dX3_readChain_15 : decode cX3_readChain 15 = .ok (.if_icmp .ne 7, 3) := by decide +kernel
theorem dX3_readChain_18 : decode cX3_readChain 18 = .ok (.iconst 1, 1) := by decide +kernel
theorem dX3_readChain_19 : decode cX3_readChain 19 = .ok (.goto 5, 3) := by decide +kernel
theorem dX3_readChain_22 : decode cX3_readChain 22 = .ok (.bipush 120, 2) := by decide +kernel
theorem dX3_readChain_24 : decode cX3_readChain 24 = .ok (.istore_n 3, 1) := by decide +kernel
theorem dX3_readChain_25 : decode cX3_readChain 25 = .ok (.iconst 0, 1) := by decide +kernel
theorem dX3_readChain_26 : decode cX3_readChain 26 = .ok (.istore 4, 2) := by decide +kernel
theorem dX3_readChain_28 : decode cX3_readChain 28 = .ok (.iload 4, 2) := by decide +kernel
theorem dX3_readChain_30 : decode cX3_readChain 30 = .ok (.iload_n 3, 1) := by decide +kernel
theorem dX3_readChain_31 : decode cX3_readChain 31 = .ok (.if_icmp .ge 59, 3) := by decide +kernel
theorem dX3_readChain_34 : decode cX3_readChain 34 = .ok (.aload_n 0, 1) := by decide +kernel
theorem dX3_readChain_35 : decode cX3_readChain 35 = .ok (.getfield 15, 3) := by decide +kernel
theorem dX3_readChain_38 : decode cX3_readChain 38 = .ok (.invokevirtual 57, 3) := by decide +kernel
theorem dX3_readChain_41 : decode cX3_readChain 41 = .ok (.istore 5, 2) := by decide +kernel
theorem dX3_readChain_43 : decode cX3_readChain 43 = .ok (.iload 5, 2) := by decide +kernel
theorem dX3_readChain_45 : decode cX3_readChain 45 = .ok (.invokestatic 61, 3) := by decide +kernel
theorem dX3_readChain_48 : decode cX3_readChain 48 = .ok (.iload_n 1, 1) := by decide +kernel
theorem dX3_readChain_49 : decode cX3_readChain 49 = .ok (.if_icmp .eq 5, 3) := by decide +kernel
theorem dX3_readChain_52 : decode cX3_readChain 52 = .ok (.iconst 1, 1) := by decide +kernel
theorem dX3_readChain_53 : decode cX3_readChain 53 = .ok (.ireturn, 1) := by decide +kernel
theorem dX3_readChain_54 : decode cX3_readChain 54 = .ok (.aload_n 0, 1) := by decide +kernel
theorem dX3_readChain_55 : decode cX3_readChain 55 = .ok (.getfield 15, 3) := by decide +kernel
theorem dX3_readChain_58 : decode cX3_readChain 58 = .ok (.iload 5, 2) := by decide +kernel
theorem dX3_readChain_60 : decode cX3_readChain 60 = .ok (.invokevirtual 27, 3) := by decide +kernel
theorem dX3_readChain_63 : decode cX3_readChain 63 = .ok (.pop, 1) := by decide +kernel
theorem dX3_readChain_64 : decode cX3_readChain 64 = .ok (.aload_n 0, 1) := by decide +kernel
theorem dX3_readChain_65 : decode cX3_readChain 65 = .ok (.iload_n 1, 1) := by decide +kernel
theorem dX3_readChain_66 : decode cX3_readChain 66 = .ok (.iconst 1, 1) := by decide +kernel
theorem dX3_readChain_67 : decode cX3_readChain 67 = .ok (.iadd, 1) := by decide +kernel
theorem dX3_readChain_68 : decode cX3_readChain 68 = .ok (.iload_n 2, 1) := by decide +kernel
theorem dX3_readChain_69 : decode cX3_readChain 69 = .ok (.invokevirtual 54, 3) := by decide +kernel
theorem dX3_readChain_72 : decode cX3_readChain 72 = .ok (.ifCond .ne 5, 3) := by decide +kernel
theorem dX3_readChain_75 : decode cX3_readChain 75 = .ok (.iconst 0, 1) := by decide +kernel
theorem dX3_readChain_76 : decode cX3_readChain 76 = .ok (.ireturn, 1) := by decide +kernel
theorem dX3_readChain_77 : decode cX3_readChain 77 = .ok (.aload_n 0, 1) := by decide +kernel
theorem dX3_readChain_78 : decode cX3_readChain 78 = .ok (.iload 5, 2) := by decide +kernel
theorem dX3_readChain_80 : decode cX3_readChain 80 = .ok (.ineg, 1) := by decide +kernel
theorem dX3_readChain_81 : decode cX3_readChain 81 = .ok (.invokevirtual 50, 3) := by decide +kernel
theorem dX3_readChain_84 : decode cX3_readChain 84 = .ok (.iinc 4 1, 3) := by decide +kernel
theorem dX3_readChain_87 : decode cX3_readChain 87 = .ok (.goto (-59), 3) := by decide +kernel
theorem dX3_readChain_90 : decode cX3_readChain 90 = .ok (.iconst 1, 1) := by decide +kernel
theorem dX3_readChain_91 : decode cX3_readChain 91 = .ok (.ireturn, 1) := by decide +kernel
theorem dX3_readPart_0 : decode cX3_readPart 0 = .ok (.iload_n 1, 1) := by decide +kernel
theorem dX3_readPart_1 : decode cX3_readPart 1 = .ok (.iconst 4, 1) := by decide +kernel
theorem dX3_readPart_2 : decode cX3_readPart 2 = .ok (.if_icmp .le 11, 3) := by decide +kernel
theorem dX3_readPart_5 : decode cX3_readPart 5 = .ok (.aload_n 0, 1) := by decide +kernel
theorem dX3_readPart_6 : decode cX3_readPart 6 = .ok (.iload_n 2, 1) := by decide +kernel
theorem dX3_readPart_7 : decode cX3_readPart 7 = .ok (.invokevirtual 65, 3) := by decide +kernel
theorem dX3_readPart_10 : decode cX3_readPart 10 = .ok (.goto 9, 3) := by decide +kernel
theorem dX3_readPart_13 : decode cX3_readPart 13 = .ok (.aload_n 0, 1) := by decide +kernel
theorem dX3_readPart_14 : decode cX3_readPart 14 = .ok (.iload_n 1, 1) := by decide +kernel
theorem dX3_readPart_15 : decode cX3_readPart 15 = .ok (.iload_n 2, 1) := by decide +kernel
theorem dX3_readPart_16 : decode cX3_readPart 16 = .ok (.invokevirtual 46, 3) := by decide +kernel
theorem dX3_readPart_19 : decode cX3_readPart 19 = .ok (.ireturn, 1) := by decide +kernel
theorem dX3_levelOf_0 : decode cX3_levelOf 0 = .ok (.iload_n 0, 1) := by decide +kernel
theorem dX3_levelOf_1 : decode cX3_levelOf 1 = .ok (.lookupswitch 101 #[(37, 99), (38, 93), (42, 99), (43, 97), (45, 97), (47, 99), (60, 95), (61, 95), (62, 95), (124, 91)], 91) := by decide +kernel
theorem dX3_levelOf_92 : decode cX3_levelOf 92 = .ok (.iconst 0, 1) := by decide +kernel
theorem dX3_levelOf_93 : decode cX3_levelOf 93 = .ok (.ireturn, 1) := by decide +kernel
theorem dX3_levelOf_94 : decode cX3_levelOf 94 = .ok (.iconst 1, 1) := by decide +kernel
theorem dX3_levelOf_95 : decode cX3_levelOf 95 = .ok (.ireturn, 1) := by decide +kernel
theorem dX3_levelOf_96 : decode cX3_levelOf 96 = .ok (.iconst 2, 1) := by decide +kernel
theorem dX3_levelOf_97 : decode cX3_levelOf 97 = .ok (.ireturn, 1) := by decide +kernel
theorem dX3_levelOf_98 : decode cX3_levelOf 98 = .ok (.iconst 3, 1) := by decide +kernel
theorem dX3_levelOf_99 : decode cX3_levelOf 99 = .ok (.ireturn, 1) := by decide +kernel
theorem dX3_levelOf_100 : decode cX3_levelOf 100 = .ok (.iconst 4, 1) := by decide +kernel
theorem dX3_levelOf_101 : decode cX3_levelOf 101 = .ok (.ireturn, 1) := by decide +kernel
theorem dX3_levelOf_102 : decode cX3_levelOf 102 = .ok (.iconst (-1), 1) := by decide +kernel
theorem dX3_levelOf_103 : decode cX3_levelOf 103 = .ok (.ireturn, 1) := by decide +kernel
theorem dX3_readOperand_0 : decode cX3_readOperand 0 = .ok (.aload_n 0, 1) := by decide +kernel
theorem dX3_readOperand_1 : decode cX3_readOperand 1 = .ok (.getfield 15, 3) := by decide +kernel
theorem dX3_readOperand_4 : decode cX3_readOperand 4 = .ok (.invokevirtual 68, 3) := by decide +kernel
theorem dX3_readOperand_7 : decode cX3_readOperand 7 = .ok (.ifCond .eq 9, 3) := by decide +kernel
theorem dX3_readOperand_10 : decode cX3_readOperand 10 = .ok (.aload_n 0, 1) := by decide +kernel
theorem dX3_readOperand_11 : decode cX3_readOperand 11 = .ok (.invokevirtual 71, 3) := by decide +kernel
theorem dX3_readOperand_14 : decode cX3_readOperand 14 = .ok (.iconst 1, 1) := by decide +kernel
theorem dX3_readOperand_15 : decode cX3_readOperand 15 = .ok (.ireturn, 1) := by decide +kernel
theorem dX3_readOperand_16 : decode cX3_readOperand 16 = .ok (.aload_n 0, 1) := by decide +kernel
theorem dX3_readOperand_17 : decode cX3_readOperand 17 = .ok (.getfield 15, 3) := by decide +kernel
theorem dX3_readOperand_20 : decode cX3_readOperand 20 = .ok (.invokevirtual 57, 3) := by decide +kernel
theorem dX3_readOperand_23 : decode cX3_readOperand 23 = .ok (.istore_n 2, 1) := by decide +kernel
theorem dX3_readOperand_24 : decode cX3_readOperand 24 = .ok (.iload_n 2, 1) := by decide +kernel
theorem dX3_readOperand_25 : decode cX3_readOperand 25 = .ok (.bipush 104, 2) := by decide +kernel
theorem dX3_readOperand_27 : decode cX3_readOperand 27 = .ok (.if_icmp .eq 21, 3) := by decide +kernel
theorem dX3_readOperand_30 : decode cX3_readOperand 30 = .ok (.iload_n 2, 1) := by decide +kernel
theorem dX3_readOperand_31 : decode cX3_readOperand 31 = .ok (.bipush 99, 2) := by decide +kernel
theorem dX3_readOperand_33 : decode cX3_readOperand 33 = .ok (.if_icmp .eq 15, 3) := by decide +kernel
theorem dX3_readOperand_36 : decode cX3_readOperand 36 = .ok (.iload_n 2, 1) := by decide +kernel
theorem dX3_readOperand_37 : decode cX3_readOperand 37 = .ok (.bipush 114, 2) := by decide +kernel
theorem dX3_readOperand_39 : decode cX3_readOperand 39 = .ok (.if_icmp .eq 9, 3) := by decide +kernel
theorem dX3_readOperand_42 : decode cX3_readOperand 42 = .ok (.iload_n 2, 1) := by decide +kernel
theorem dX3_readOperand_43 : decode cX3_readOperand 43 = .ok (.bipush 105, 2) := by decide +kernel
theorem dX3_readOperand_45 : decode cX3_readOperand 45 = .ok (.if_icmp .ne 20, 3) := by decide +kernel
theorem dX3_readOperand_48 : decode cX3_readOperand 48 = .ok (.aload_n 0, 1) := by decide +kernel
theorem dX3_readOperand_49 : decode cX3_readOperand 49 = .ok (.getfield 15, 3) := by decide +kernel
theorem dX3_readOperand_52 : decode cX3_readOperand 52 = .ok (.iload_n 2, 1) := by decide +kernel
theorem dX3_readOperand_53 : decode cX3_readOperand 53 = .ok (.invokevirtual 27, 3) := by decide +kernel
theorem dX3_readOperand_56 : decode cX3_readOperand 56 = .ok (.pop, 1) := by decide +kernel
theorem dX3_readOperand_57 : decode cX3_readOperand 57 = .ok (.aload_n 0, 1) := by decide +kernel
theorem dX3_readOperand_58 : decode cX3_readOperand 58 = .ok (.iload_n 2, 1) := by decide +kernel
theorem dX3_readOperand_59 : decode cX3_readOperand 59 = .ok (.ineg, 1) := by decide +kernel
theorem dX3_readOperand_60 : decode cX3_readOperand 60 = .ok (.invokevirtual 50, 3) := by decide +kernel
theorem dX3_readOperand_63 : decode cX3_readOperand 63 = .ok (.iconst 1, 1) := by decide +kernel
theorem dX3_readOperand_64 : decode cX3_readOperand 64 = .ok (.ireturn, 1) := by decide +kernel
theorem dX3_readOperand_65 : decode cX3_readOperand 65 = .ok (.iload_n 1, 1) := by decide +kernel
theorem dX3_readOperand_66 : decode cX3_readOperand 66 = .ok (.bipush 6, 2) := by decide +kernel
theorem dX3_readOperand_68 : decode cX3_readOperand 68 = .ok (.if_icmp .lt 5, 3) := by decide +kernel
theorem dX3_readOperand_71 : decode cX3_readOperand 71 = .ok (.iconst 0, 1) := by decide +kernel
theorem dX3_readOperand_72 : decode cX3_readOperand 72 = .ok (.ireturn, 1) := by decide +kernel
theorem dX3_readOperand_73 : decode cX3_readOperand 73 = .ok (.aload_n 0, 1) := by decide +kernel
theorem dX3_readOperand_74 : decode cX3_readOperand 74 = .ok (.getfield 15, 3) := by decide +kernel
theorem dX3_readOperand_77 : decode cX3_readOperand 77 = .ok (.bipush 40, 2) := by decide +kernel
theorem dX3_readOperand_79 : decode cX3_readOperand 79 = .ok (.invokevirtual 27, 3) := by decide +kernel
theorem dX3_readOperand_82 : decode cX3_readOperand 82 = .ok (.ifCond .eq 32, 3) := by decide +kernel
theorem dX3_readOperand_85 : decode cX3_readOperand 85 = .ok (.aload_n 0, 1) := by decide +kernel
theorem dX3_readOperand_86 : decode cX3_readOperand 86 = .ok (.iconst 0, 1) := by decide +kernel
theorem dX3_readOperand_87 : decode cX3_readOperand 87 = .ok (.iload_n 1, 1) := by decide +kernel
theorem dX3_readOperand_88 : decode cX3_readOperand 88 = .ok (.iconst 1, 1) := by decide +kernel
theorem dX3_readOperand_89 : decode cX3_readOperand 89 = .ok (.iadd, 1) := by decide +kernel
theorem dX3_readOperand_90 : decode cX3_readOperand 90 = .ok (.invokevirtual 46, 3) := by decide +kernel
theorem dX3_readOperand_93 : decode cX3_readOperand 93 = .ok (.ifCond .eq 19, 3) := by decide +kernel
theorem dX3_readOperand_96 : decode cX3_readOperand 96 = .ok (.aload_n 0, 1) := by decide +kernel
theorem dX3_readOperand_97 : decode cX3_readOperand 97 = .ok (.getfield 15, 3) := by decide +kernel
theorem dX3_readOperand_100 : decode cX3_readOperand 100 = .ok (.bipush 41, 2) := by decide +kernel
theorem dX3_readOperand_102 : decode cX3_readOperand 102 = .ok (.invokevirtual 27, 3) := by decide +kernel
theorem dX3_readOperand_105 : decode cX3_readOperand 105 = .ok (.ifCond .eq 7, 3) := by decide +kernel
theorem dX3_readOperand_108 : decode cX3_readOperand 108 = .ok (.iconst 1, 1) := by decide +kernel
theorem dX3_readOperand_109 : decode cX3_readOperand 109 = .ok (.goto 4, 3) := by decide +kernel
theorem dX3_readOperand_112 : decode cX3_readOperand 112 = .ok (.iconst 0, 1) := by decide +kernel
theorem dX3_readOperand_113 : decode cX3_readOperand 113 = .ok (.ireturn, 1) := by decide +kernel
theorem dX3_readOperand_114 : decode cX3_readOperand 114 = .ok (.aload_n 0, 1) := by decide +kernel
theorem dX3_readOperand_115 : decode cX3_readOperand 115 = .ok (.getfield 15, 3) := by decide +kernel
theorem dX3_readOperand_118 : decode cX3_readOperand 118 = .ok (.bipush 33, 2) := by decide +kernel
theorem dX3_readOperand_120 : decode cX3_readOperand 120 = .ok (.invokevirtual 27, 3) := by decide +kernel
theorem dX3_readOperand_123 : decode cX3_readOperand 123 = .ok (.ifCond .eq 11, 3) := by decide +kernel
theorem dX3_readOperand_126 : decode cX3_readOperand 126 = .ok (.aload_n 0, 1) := by decide +kernel
theorem dX3_readOperand_127 : decode cX3_readOperand 127 = .ok (.bipush 33, 2) := by decide +kernel
theorem dX3_readOperand_129 : decode cX3_readOperand 129 = .ok (.iload_n 1, 1) := by decide +kernel
theorem dX3_readOperand_130 : decode cX3_readOperand 130 = .ok (.invokevirtual 74, 3) := by decide +kernel
theorem dX3_readOperand_133 : decode cX3_readOperand 133 = .ok (.ireturn, 1) := by decide +kernel
theorem dX3_readOperand_134 : decode cX3_readOperand 134 = .ok (.aload_n 0, 1) := by decide +kernel
theorem dX3_readOperand_135 : decode cX3_readOperand 135 = .ok (.getfield 15, 3) := by decide +kernel
theorem dX3_readOperand_138 : decode cX3_readOperand 138 = .ok (.bipush 45, 2) := by decide +kernel
theorem dX3_readOperand_140 : decode cX3_readOperand 140 = .ok (.invokevirtual 27, 3) := by decide +kernel
theorem dX3_readOperand_143 : decode cX3_readOperand 143 = .ok (.ifCond .eq 17, 3) := by decide +kernel
theorem dX3_readOperand_146 : decode cX3_readOperand 146 = .ok (.aload_n 0, 1) := by decide +kernel
theorem dX3_readOperand_147 : decode cX3_readOperand 147 = .ok (.bipush 126, 2) := by decide +kernel
theorem dX3_readOperand_149 : decode cX3_readOperand 149 = .ok (.iload_n 1, 1) := by decide +kernel
theorem dX3_readOperand_150 : decode cX3_readOperand 150 = .ok (.invokevirtual 74, 3) := by decide +kernel
theorem dX3_readOperand_153 : decode cX3_readOperand 153 = .ok (.ifCond .eq 7, 3) := by decide +kernel
theorem dX3_readOperand_156 : decode cX3_readOperand 156 = .ok (.iconst 1, 1) := by decide +kernel
theorem dX3_readOperand_157 : decode cX3_readOperand 157 = .ok (.goto 4, 3) := by decide +kernel
theorem dX3_readOperand_160 : decode cX3_readOperand 160 = .ok (.iconst 0, 1) := by decide +kernel
theorem dX3_readOperand_161 : decode cX3_readOperand 161 = .ok (.ireturn, 1) := by decide +kernel
theorem dX3_readSigned_0 : decode cX3_readSigned 0 = .ok (.aload_n 0, 1) := by decide +kernel
theorem dX3_readSigned_1 : decode cX3_readSigned 1 = .ok (.iload_n 2, 1) := by decide +kernel
theorem dX3_readSigned_2 : decode cX3_readSigned 2 = .ok (.iconst 1, 1) := by decide +kernel
theorem dX3_readSigned_3 : decode cX3_readSigned 3 = .ok (.iadd, 1) := by decide +kernel
theorem dX3_readSigned_4 : decode cX3_readSigned 4 = .ok (.invokevirtual 65, 3) := by decide +kernel
theorem dX3_readSigned_7 : decode cX3_readSigned 7 = .ok (.ifCond .ne 5, 3) := by decide +kernel
theorem dX3_readSigned_10 : decode cX3_readSigned 10 = .ok (.iconst 0, 1) := by decide +kernel
theorem dX3_readSigned_11 : decode cX3_readSigned 11 = .ok (.ireturn, 1) := by decide +kernel
theorem dX3_readSigned_12 : decode cX3_readSigned 12 = .ok (.aload_n 0, 1) := by decide +kernel
theorem dX3_readSigned_13 : decode cX3_readSigned 13 = .ok (.iload_n 1, 1) := by decide +kernel
theorem dX3_readSigned_14 : decode cX3_readSigned 14 = .ok (.ineg, 1) := by decide +kernel
theorem dX3_readSigned_15 : decode cX3_readSigned 15 = .ok (.invokevirtual 50, 3) := by decide +kernel
theorem dX3_readSigned_18 : decode cX3_readSigned 18 = .ok (.iconst 1, 1) := by decide +kernel
theorem dX3_readSigned_19 : decode cX3_readSigned 19 = .ok (.ireturn, 1) := by decide +kernel
theorem dX3_readNumber_0 : decode cX3_readNumber 0 = .ok (.iconst 0, 1) := by decide +kernel
theorem dX3_readNumber_1 : decode cX3_readNumber 1 = .ok (.istore_n 1, 1) := by decide +kernel
theorem dX3_readNumber_2 : decode cX3_readNumber 2 = .ok (.iconst 0, 1) := by decide +kernel
theorem dX3_readNumber_3 : decode cX3_readNumber 3 = .ok (.istore_n 2, 1) := by decide +kernel
theorem dX3_readNumber_4 : decode cX3_readNumber 4 = .ok (.iload_n 2, 1) := by decide +kernel
theorem dX3_readNumber_5 : decode cX3_readNumber 5 = .ok (.iconst 4, 1) := by decide +kernel
theorem dX3_readNumber_6 : decode cX3_readNumber 6 = .ok (.if_icmp .ge 32, 3) := by decide +kernel
theorem dX3_readNumber_9 : decode cX3_readNumber 9 = .ok (.aload_n 0, 1) := by decide +kernel
theorem dX3_readNumber_10 : decode cX3_readNumber 10 = .ok (.getfield 15, 3) := by decide +kernel
theorem dX3_readNumber_13 : decode cX3_readNumber 13 = .ok (.invokevirtual 68, 3) := by decide +kernel
theorem dX3_readNumber_16 : decode cX3_readNumber 16 = .ok (.ifCond .eq 22, 3) := by decide +kernel
theorem dX3_readNumber_19 : decode cX3_readNumber 19 = .ok (.bipush 10, 2) := by decide +kernel
theorem dX3_readNumber_21 : decode cX3_readNumber 21 = .ok (.iload_n 1, 1) := by decide +kernel
theorem dX3_readNumber_22 : decode cX3_readNumber 22 = .ok (.imul, 1) := by decide +kernel
theorem dX3_readNumber_23 : decode cX3_readNumber 23 = .ok (.aload_n 0, 1) := by decide +kernel
theorem dX3_readNumber_24 : decode cX3_readNumber 24 = .ok (.getfield 15, 3) := by decide +kernel
theorem dX3_readNumber_27 : decode cX3_readNumber 27 = .ok (.invokevirtual 77, 3) := by decide +kernel
theorem dX3_readNumber_30 : decode cX3_readNumber 30 = .ok (.iadd, 1) := by decide +kernel
theorem dX3_readNumber_31 : decode cX3_readNumber 31 = .ok (.istore_n 1, 1) := by decide +kernel
theorem dX3_readNumber_32 : decode cX3_readNumber 32 = .ok (.iinc 2 1, 3) := by decide +kernel
theorem dX3_readNumber_35 : decode cX3_readNumber 35 = .ok (.goto (-31), 3) := by decide +kernel
theorem dX3_readNumber_38 : decode cX3_readNumber 38 = .ok (.aload_n 0, 1) := by decide +kernel
theorem dX3_readNumber_39 : decode cX3_readNumber 39 = .ok (.iload_n 1, 1) := by decide +kernel
theorem dX3_readNumber_40 : decode cX3_readNumber 40 = .ok (.invokevirtual 50, 3) := by decide +kernel
theorem dX3_readNumber_43 : decode cX3_readNumber 43 = .ok (.return_, 1) := by decide +kernel
theorem dX3_make_0 : decode cX3_make 0 = .ok (.aload_n 0, 1) := by decide +kernel
theorem dX3_make_1 : decode cX3_make 1 = .ok (.getfield 19, 3) := by decide +kernel
theorem dX3_make_4 : decode cX3_make 4 = .ok (.aload_n 0, 1) := by decide +kernel
theorem dX3_make_5 : decode cX3_make 5 = .ok (.getfield 11, 3) := by decide +kernel
theorem dX3_make_8 : decode cX3_make 8 = .ok (.arraylength, 1) := by decide +kernel
theorem dX3_make_9 : decode cX3_make 9 = .ok (.if_icmp .ge 23, 3) := by decide +kernel
theorem dX3_make_12 : decode cX3_make 12 = .ok (.aload_n 0, 1) := by decide +kernel
theorem dX3_make_13 : decode cX3_make 13 = .ok (.getfield 11, 3) := by decide +kernel
theorem dX3_make_16 : decode cX3_make 16 = .ok (.aload_n 0, 1) := by decide +kernel
theorem dX3_make_17 : decode cX3_make 17 = .ok (.getfield 19, 3) := by decide +kernel
theorem dX3_make_20 : decode cX3_make 20 = .ok (.iload_n 1, 1) := by decide +kernel
theorem dX3_make_21 : decode cX3_make 21 = .ok (.iastore, 1) := by decide +kernel
theorem dX3_make_22 : decode cX3_make 22 = .ok (.aload_n 0, 1) := by decide +kernel
theorem dX3_make_23 : decode cX3_make 23 = .ok (.dup, 1) := by decide +kernel
theorem dX3_make_24 : decode cX3_make 24 = .ok (.getfield 19, 3) := by decide +kernel
theorem dX3_make_27 : decode cX3_make 27 = .ok (.iconst 1, 1) := by decide +kernel
theorem dX3_make_28 : decode cX3_make 28 = .ok (.iadd, 1) := by decide +kernel
theorem dX3_make_29 : decode cX3_make 29 = .ok (.putfield 19, 3) := by decide +kernel
theorem dX3_make_32 : decode cX3_make 32 = .ok (.return_, 1) := by decide +kernel
theorem dX4_init_0 : decode cX4_init 0 = .ok (.aload_n 0, 1) := by decide +kernel
theorem dX4_init_1 : decode cX4_init 1 = .ok (.invokespecial 3, 3) := by decide +kernel
theorem dX4_init_4 : decode cX4_init 4 = .ok (.aload_n 0, 1) := by decide +kernel
theorem dX4_init_5 : decode cX4_init 5 = .ok (.iconst 4, 1) := by decide +kernel
theorem dX4_init_6 : decode cX4_init 6 = .ok (.bipush 121, 2) := by decide +kernel
theorem dX4_init_8 : decode cX4_init 8 = .ok (.multianewarray 13 2, 4) := by decide +kernel
theorem dX4_init_12 : decode cX4_init 12 = .ok (.putfield 15, 3) := by decide +kernel
theorem dX4_init_15 : decode cX4_init 15 = .ok (.aload_n 0, 1) := by decide +kernel
theorem dX4_init_16 : decode cX4_init 16 = .ok (.iconst 4, 1) := by decide +kernel
theorem dX4_init_17 : decode cX4_init 17 = .ok (.newarray .int, 2) := by decide +kernel
theorem dX4_init_19 : decode cX4_init 19 = .ok (.putfield 18, 3) := by decide +kernel
theorem dX4_init_22 : decode cX4_init 22 = .ok (.aload_n 0, 1) := by decide +kernel
theorem dX4_init_23 : decode cX4_init 23 = .ok (.bipush 121, 2) := by decide +kernel
theorem dX4_init_25 : decode cX4_init 25 = .ok (.newarray .int, 2) := by decide +kernel
theorem dX4_init_27 : decode cX4_init 27 = .ok (.putfield 22, 3) := by decide +kernel
theorem dX4_init_30 : decode cX4_init 30 = .ok (.aload_n 0, 1) := by decide +kernel
theorem dX4_init_31 : decode cX4_init 31 = .ok (.iconst (-1), 1) := by decide +kernel
theorem dX4_init_32 : decode cX4_init 32 = .ok (.putfield 25, 3) := by decide +kernel
theorem dX4_init_35 : decode cX4_init 35 = .ok (.aload_n 0, 1) := by decide +kernel
theorem dX4_init_36 : decode cX4_init 36 = .ok (.new 11, 3) := by decide +kernel
theorem dX4_init_39 : decode cX4_init 39 = .ok (.dup, 1) := by decide +kernel
theorem dX4_init_40 : decode cX4_init 40 = .ok (.aload_n 1, 1) := by decide +kernel
theorem dX4_init_41 : decode cX4_init 41 = .ok (.invokespecial 29, 3) := by decide +kernel
theorem dX4_init_44 : decode cX4_init 44 = .ok (.putfield 32, 3) := by decide +kernel
theorem dX4_init_47 : decode cX4_init 47 = .ok (.return_, 1) := by decide +kernel
theorem dX4_isFull_0 : decode cX4_isFull 0 = .ok (.aload_n 0, 1) := by decide +kernel
theorem dX4_isFull_1 : decode cX4_isFull 1 = .ok (.getfield 36, 3) := by decide +kernel
theorem dX4_isFull_4 : decode cX4_isFull 4 = .ok (.iconst 4, 1) := by decide +kernel
theorem dX4_isFull_5 : decode cX4_isFull 5 = .ok (.if_icmp .lt 7, 3) := by decide +kernel
theorem dX4_isFull_8 : decode cX4_isFull 8 = .ok (.iconst 1, 1) := by decide +kernel
theorem dX4_isFull_9 : decode cX4_isFull 9 = .ok (.goto 4, 3) := by decide +kernel
theorem dX4_isFull_12 : decode cX4_isFull 12 = .ok (.iconst 0, 1) := by decide +kernel
theorem dX4_isFull_13 : decode cX4_isFull 13 = .ok (.ireturn, 1) := by decide +kernel
theorem dX4_has_0 : decode cX4_has 0 = .ok (.iload_n 1, 1) := by decide +kernel
theorem dX4_has_1 : decode cX4_has 1 = .ok (.ifCond .lt 15, 3) := by decide +kernel
theorem dX4_has_4 : decode cX4_has 4 = .ok (.iload_n 1, 1) := by decide +kernel
theorem dX4_has_5 : decode cX4_has 5 = .ok (.aload_n 0, 1) := by decide +kernel
theorem dX4_has_6 : decode cX4_has 6 = .ok (.getfield 36, 3) := by decide +kernel
theorem dX4_has_9 : decode cX4_has 9 = .ok (.if_icmp .ge 7, 3) := by decide +kernel
theorem dX4_has_12 : decode cX4_has 12 = .ok (.iconst 1, 1) := by decide +kernel
theorem dX4_has_13 : decode cX4_has 13 = .ok (.goto 4, 3) := by decide +kernel
theorem dX4_has_16 : decode cX4_has 16 = .ok (.iconst 0, 1) := by decide +kernel
theorem dX4_has_17 : decode cX4_has 17 = .ok (.ireturn, 1) := by decide +kernel
theorem dX4_read_0 : decode cX4_read 0 = .ok (.aload_n 0, 1) := by decide +kernel
theorem dX4_read_1 : decode cX4_read 1 = .ok (.getfield 32, 3) := by decide +kernel
theorem dX4_read_4 : decode cX4_read 4 = .ok (.invokevirtual 39, 3) := by decide +kernel
theorem dX4_read_7 : decode cX4_read 7 = .ok (.istore_n 1, 1) := by decide +kernel
theorem dX4_read_8 : decode cX4_read 8 = .ok (.iload_n 1, 1) := by decide +kernel
theorem dX4_read_9 : decode cX4_read 9 = .ok (.ifCond .lt 10, 3) := by decide +kernel
theorem dX4_read_12 : decode cX4_read 12 = .ok (.aload_n 0, 1) := by decide +kernel
theorem dX4_read_13 : decode cX4_read 13 = .ok (.invokevirtual 43, 3) := by decide +kernel
theorem dX4_read_16 : decode cX4_read 16 = .ok (.ifCond .eq 5, 3) := by decide +kernel
theorem dX4_read_19 : decode cX4_read 19 = .ok (.iconst 0, 1) := by decide +kernel
theorem dX4_read_20 : decode cX4_read 20 = .ok (.ireturn, 1) := by decide +kernel
theorem dX4_read_21 : decode cX4_read 21 = .ok (.aload_n 0, 1) := by decide +kernel
theorem dX4_read_22 : decode cX4_read 22 = .ok (.getfield 32, 3) := by decide +kernel
theorem dX4_read_25 : decode cX4_read 25 = .ok (.aload_n 0, 1) := by decide +kernel
theorem dX4_read_26 : decode cX4_read 26 = .ok (.getfield 15, 3) := by decide +kernel
theorem dX4_read_29 : decode cX4_read 29 = .ok (.aload_n 0, 1) := by decide +kernel
theorem dX4_read_30 : decode cX4_read 30 = .ok (.getfield 36, 3) := by decide +kernel
theorem dX4_read_33 : decode cX4_read 33 = .ok (.aaload, 1) := by decide +kernel
theorem dX4_read_34 : decode cX4_read 34 = .ok (.invokevirtual 47, 3) := by decide +kernel
theorem dX4_read_37 : decode cX4_read 37 = .ok (.aload_n 0, 1) := by decide +kernel
theorem dX4_read_38 : decode cX4_read 38 = .ok (.getfield 18, 3) := by decide +kernel
theorem dX4_read_41 : decode cX4_read 41 = .ok (.aload_n 0, 1) := by decide +kernel
theorem dX4_read_42 : decode cX4_read 42 = .ok (.getfield 36, 3) := by decide +kernel
theorem dX4_read_45 : decode cX4_read 45 = .ok (.iload_n 1, 1) := by decide +kernel
theorem dX4_read_46 : decode cX4_read 46 = .ok (.iastore, 1) := by decide +kernel
theorem dX4_read_47 : decode cX4_read 47 = .ok (.aload_n 0, 1) := by decide +kernel
theorem dX4_read_48 : decode cX4_read 48 = .ok (.dup, 1) := by decide +kernel
theorem dX4_read_49 : decode cX4_read 49 = .ok (.getfield 36, 3) := by decide +kernel
theorem dX4_read_52 : decode cX4_read 52 = .ok (.iconst 1, 1) := by decide +kernel
theorem dX4_read_53 : decode cX4_read 53 = .ok (.iadd, 1) := by decide +kernel
theorem dX4_read_54 : decode cX4_read 54 = .ok (.putfield 36, 3) := by decide +kernel
theorem dX4_read_57 : decode cX4_read 57 = .ok (.iconst 1, 1) := by decide +kernel
theorem dX4_read_58 : decode cX4_read 58 = .ok (.ireturn, 1) := by decide +kernel
theorem dX4_riseInForce_0 : decode cX4_riseInForce 0 = .ok (.aload_n 0, 1) := by decide +kernel
theorem dX4_riseInForce_1 : decode cX4_riseInForce 1 = .ok (.aload_n 0, 1) := by decide +kernel
theorem dX4_riseInForce_2 : decode cX4_riseInForce 2 = .ok (.getfield 25, 3) := by decide +kernel
theorem dX4_riseInForce_5 : decode cX4_riseInForce 5 = .ok (.invokevirtual 51, 3) := by decide +kernel
theorem dX4_riseInForce_8 : decode cX4_riseInForce 8 = .ok (.ifCond .eq 15, 3) := by decide +kernel
theorem dX4_riseInForce_11 : decode cX4_riseInForce 11 = .ok (.aload_n 0, 1) := by decide +kernel
theorem dX4_riseInForce_12 : decode cX4_riseInForce 12 = .ok (.aload_n 0, 1) := by decide +kernel
theorem dX4_riseInForce_13 : decode cX4_riseInForce 13 = .ok (.getfield 25, 3) := by decide +kernel
theorem dX4_riseInForce_16 : decode cX4_riseInForce 16 = .ok (.iload_n 1, 1) := by decide +kernel
theorem dX4_riseInForce_17 : decode cX4_riseInForce 17 = .ok (.invokevirtual 55, 3) := by decide +kernel
theorem dX4_riseInForce_20 : decode cX4_riseInForce 20 = .ok (.goto 4, 3) := by decide +kernel
theorem dX4_riseInForce_23 : decode cX4_riseInForce 23 = .ok (.iconst 0, 1) := by decide +kernel
theorem dX4_riseInForce_24 : decode cX4_riseInForce 24 = .ok (.ireturn, 1) := by decide +kernel
theorem dX4_riseBy_0 : decode cX4_riseBy 0 = .ok (.aload_n 0, 1) := by decide +kernel
theorem dX4_riseBy_1 : decode cX4_riseBy 1 = .ok (.iload_n 1, 1) := by decide +kernel
theorem dX4_riseBy_2 : decode cX4_riseBy 2 = .ok (.invokevirtual 51, 3) := by decide +kernel
theorem dX4_riseBy_5 : decode cX4_riseBy 5 = .ok (.ifCond .eq 22, 3) := by decide +kernel
theorem dX4_riseBy_8 : decode cX4_riseBy 8 = .ok (.bipush (-20), 2) := by decide +kernel
theorem dX4_riseBy_10 : decode cX4_riseBy 10 = .ok (.bipush 60, 2) := by decide +kernel
theorem dX4_riseBy_12 : decode cX4_riseBy 12 = .ok (.aload_n 0, 1) := by decide +kernel
theorem dX4_riseBy_13 : decode cX4_riseBy 13 = .ok (.iload_n 1, 1) := by decide +kernel
theorem dX4_riseBy_14 : decode cX4_riseBy 14 = .ok (.iload_n 2, 1) := by decide +kernel
theorem dX4_riseBy_15 : decode cX4_riseBy 15 = .ok (.invokevirtual 59, 3) := by decide +kernel
theorem dX4_riseBy_18 : decode cX4_riseBy 18 = .ok (.invokestatic 62, 3) := by decide +kernel
theorem dX4_riseBy_21 : decode cX4_riseBy 21 = .ok (.invokestatic 67, 3) := by decide +kernel
theorem dX4_riseBy_24 : decode cX4_riseBy 24 = .ok (.goto 4, 3) := by decide +kernel
theorem dX4_riseBy_27 : decode cX4_riseBy 27 = .ok (.iconst 0, 1) := by decide +kernel
theorem dX4_riseBy_28 : decode cX4_riseBy 28 = .ok (.ireturn, 1) := by decide +kernel
theorem dX4_worth_0 : decode cX4_worth 0 = .ok (.aload_n 0, 1) := by decide +kernel
theorem dX4_worth_1 : decode cX4_worth 1 = .ok (.iconst 0, 1) := by decide +kernel
theorem dX4_worth_2 : decode cX4_worth 2 = .ok (.putfield 70, 3) := by decide +kernel
theorem dX4_worth_5 : decode cX4_worth 5 = .ok (.iconst 1, 1) := by decide +kernel
theorem dX4_worth_6 : decode cX4_worth 6 = .ok (.istore_n 3, 1) := by decide +kernel
theorem dX4_worth_7 : decode cX4_worth 7 = .ok (.iconst 0, 1) := by decide +kernel
theorem dX4_worth_8 : decode cX4_worth 8 = .ok (.istore 4, 2) := by decide +kernel
theorem dX4_worth_10 : decode cX4_worth 10 = .ok (.iload 4, 2) := by decide +kernel
theorem dX4_worth_12 : decode cX4_worth 12 = .ok (.aload_n 0, 1) := by decide +kernel
theorem dX4_worth_13 : decode cX4_worth 13 = .ok (.getfield 18, 3) := by decide +kernel
theorem dX4_worth_16 : decode cX4_worth 16 = .ok (.iload_n 1, 1) := by decide +kernel
theorem dX4_worth_17 : decode cX4_worth 17 = .ok (.iaload, 1) := by decide +kernel
theorem dX4_worth_18 : decode cX4_worth 18 = .ok (.if_icmp .ge 75, 3) := by decide +kernel
theorem dX4_worth_21 : decode cX4_worth 21 = .ok (.aload_n 0, 1) := by decide +kernel
theorem dX4_worth_22 : decode cX4_worth 22 = .ok (.getfield 15, 3) := by decide +kernel
theorem dX4_worth_25 : decode cX4_worth 25 = .ok (.iload_n 1, 1) := by decide +kernel
theorem dX4_worth_26 : decode cX4_worth 26 = .ok (.aaload, 1) := by decide +kernel
theorem dX4_worth_27 : decode cX4_worth 27 = .ok (.iload 4, 2) := by decide +kernel
theorem dX4_worth_29 : decode cX4_worth 29 = .ok (.iaload, 1) := by decide +kernel
theorem dX4_worth_30 : decode cX4_worth 30 = .ok (.istore 5, 2) := by decide +kernel
theorem dX4_worth_32 : decode cX4_worth 32 = .ok (.iload 5, 2) := by decide +kernel
theorem dX4_worth_34 : decode cX4_worth 34 = .ok (.bipush (-63), 2) := by decide +kernel
theorem dX4_worth_36 : decode cX4_worth 36 = .ok (.if_icmp .ne 19, 3) := by decide +kernel
theorem dX4_worth_39 : decode cX4_worth 39 = .ok (.aload_n 0, 1) := by decide +kernel
theorem dX4_worth_40 : decode cX4_worth 40 = .ok (.invokevirtual 73, 3) := by decide +kernel
theorem dX4_worth_43 : decode cX4_worth 43 = .ok (.ifCond .eq 7, 3) := by decide +kernel
theorem dX4_worth_46 : decode cX4_worth 46 = .ok (.iconst 1, 1) := by decide +kernel
theorem dX4_worth_47 : decode cX4_worth 47 = .ok (.goto 4, 3) := by decide +kernel
theorem dX4_worth_50 : decode cX4_worth 50 = .ok (.iconst 0, 1) := by decide +kernel
theorem dX4_worth_51 : decode cX4_worth 51 = .ok (.istore_n 3, 1) := by decide +kernel
theorem dX4_worth_52 : decode cX4_worth 52 = .ok (.goto 35, 3) := by decide +kernel
theorem dX4_worth_55 : decode cX4_worth 55 = .ok (.iload 5, 2) := by decide +kernel
theorem dX4_worth_57 : decode cX4_worth 57 = .ok (.bipush (-59), 2) := by decide +kernel
theorem dX4_worth_59 : decode cX4_worth 59 = .ok (.if_icmp .ne 21, 3) := by decide +kernel
theorem dX4_worth_62 : decode cX4_worth 62 = .ok (.aload_n 0, 1) := by decide +kernel
theorem dX4_worth_63 : decode cX4_worth 63 = .ok (.invokevirtual 73, 3) := by decide +kernel
theorem dX4_worth_66 : decode cX4_worth 66 = .ok (.istore 6, 2) := by decide +kernel
theorem dX4_worth_68 : decode cX4_worth 68 = .ok (.iload_n 3, 1) := by decide +kernel
theorem dX4_worth_69 : decode cX4_worth 69 = .ok (.ifCond .eq 6, 3) := by decide +kernel
theorem dX4_worth_72 : decode cX4_worth 72 = .ok (.iload 6, 2) := by decide +kernel
theorem dX4_worth_74 : decode cX4_worth 74 = .ok (.ireturn, 1) := by decide +kernel
theorem dX4_worth_75 : decode cX4_worth 75 = .ok (.iconst 1, 1) := by decide +kernel
theorem dX4_worth_76 : decode cX4_worth 76 = .ok (.istore_n 3, 1) := by decide +kernel
theorem dX4_worth_77 : decode cX4_worth 77 = .ok (.goto 10, 3) := by decide +kernel
theorem dX4_worth_80 : decode cX4_worth 80 = .ok (.aload_n 0, 1) := by decide +kernel
theorem dX4_worth_81 : decode cX4_worth 81 = .ok (.iload 5, 2) := by decide +kernel
theorem dX4_worth_83 : decode cX4_worth 83 = .ok (.iload_n 2, 1) := by decide +kernel
theorem dX4_worth_84 : decode cX4_worth 84 = .ok (.invokevirtual 76, 3) := by decide +kernel
theorem dX4_worth_87 : decode cX4_worth 87 = .ok (.iinc 4 1, 3) := by decide +kernel
theorem dX4_worth_90 : decode cX4_worth 90 = .ok (.goto (-80), 3) := by decide +kernel
theorem dX4_worth_93 : decode cX4_worth 93 = .ok (.iconst 0, 1) := by decide +kernel
theorem dX4_worth_94 : decode cX4_worth 94 = .ok (.ireturn, 1) := by decide +kernel
theorem dX4_work_0 : decode cX4_work 0 = .ok (.iload_n 1, 1) := by decide +kernel
theorem dX4_work_1 : decode cX4_work 1 = .ok (.ifCond .lt 9, 3) := by decide +kernel
theorem dX4_work_4 : decode cX4_work 4 = .ok (.aload_n 0, 1) := by decide +kernel
theorem dX4_work_5 : decode cX4_work 5 = .ok (.iload_n 1, 1) := by decide +kernel
theorem dX4_work_6 : decode cX4_work 6 = .ok (.invokevirtual 80, 3) := by decide +kernel
theorem dX4_work_9 : decode cX4_work 9 = .ok (.return_, 1) := by decide +kernel
theorem dX4_work_10 : decode cX4_work 10 = .ok (.iload_n 1, 1) := by decide +kernel
theorem dX4_work_11 : decode cX4_work 11 = .ok (.ineg, 1) := by decide +kernel
theorem dX4_work_12 : decode cX4_work 12 = .ok (.lookupswitch 123 #[(33, 93), (99, 66), (104, 60), (105, 84), (114, 75), (126, 113)], 60) := by decide +kernel
theorem dX4_work_72 : decode cX4_work 72 = .ok (.aload_n 0, 1) := by decide +kernel
theorem dX4_work_73 : decode cX4_work 73 = .ok (.iload_n 2, 1) := by decide +kernel
theorem dX4_work_74 : decode cX4_work 74 = .ok (.invokevirtual 80, 3) := by decide +kernel
theorem dX4_work_77 : decode cX4_work 77 = .ok (.return_, 1) := by decide +kernel
theorem dX4_work_78 : decode cX4_work 78 = .ok (.aload_n 0, 1) := by decide +kernel
theorem dX4_work_79 : decode cX4_work 79 = .ok (.iload_n 2, 1) := by decide +kernel
theorem dX4_work_80 : decode cX4_work 80 = .ok (.bipush 24, 2) := by decide +kernel
theorem dX4_work_82 : decode cX4_work 82 = .ok (.irem, 1) := by decide +kernel
theorem dX4_work_83 : decode cX4_work 83 = .ok (.invokevirtual 80, 3) := by decide +kernel
theorem dX4_work_86 : decode cX4_work 86 = .ok (.return_, 1) := by decide +kernel
theorem dX4_work_87 : decode cX4_work 87 = .ok (.aload_n 0, 1) := by decide +kernel
theorem dX4_work_88 : decode cX4_work 88 = .ok (.aload_n 0, 1) := by decide +kernel
theorem dX4_work_89 : decode cX4_work 89 = .ok (.getfield 84, 3) := by decide +kernel
theorem dX4_work_92 : decode cX4_work 92 = .ok (.invokevirtual 80, 3) := by decide +kernel
theorem dX4_work_95 : decode cX4_work 95 = .ok (.return_, 1) := by decide +kernel
theorem dX4_work_96 : decode cX4_work 96 = .ok (.aload_n 0, 1) := by decide +kernel
theorem dX4_work_97 : decode cX4_work 97 = .ok (.aload_n 0, 1) := by decide +kernel
theorem dX4_work_98 : decode cX4_work 98 = .ok (.getfield 87, 3) := by decide +kernel
theorem dX4_work_101 : decode cX4_work 101 = .ok (.invokevirtual 80, 3) := by decide +kernel
theorem dX4_work_104 : decode cX4_work 104 = .ok (.return_, 1) := by decide +kernel
theorem dX4_work_105 : decode cX4_work 105 = .ok (.aload_n 0, 1) := by decide +kernel
theorem dX4_work_106 : decode cX4_work 106 = .ok (.aload_n 0, 1) := by decide +kernel
theorem dX4_work_107 : decode cX4_work 107 = .ok (.invokevirtual 73, 3) := by decide +kernel
theorem dX4_work_110 : decode cX4_work 110 = .ok (.ifCond .ne 7, 3) := by decide +kernel
theorem dX4_work_113 : decode cX4_work 113 = .ok (.iconst 1, 1) := by decide +kernel
theorem dX4_work_114 : decode cX4_work 114 = .ok (.goto 4, 3) := by decide +kernel
theorem dX4_work_117 : decode cX4_work 117 = .ok (.iconst 0, 1) := by decide +kernel
theorem dX4_work_118 : decode cX4_work 118 = .ok (.invokestatic 90, 3) := by decide +kernel
theorem dX4_work_121 : decode cX4_work 121 = .ok (.invokevirtual 80, 3) := by decide +kernel
theorem dX4_work_124 : decode cX4_work 124 = .ok (.return_, 1) := by decide +kernel
theorem dX4_work_125 : decode cX4_work 125 = .ok (.aload_n 0, 1) := by decide +kernel
theorem dX4_work_126 : decode cX4_work 126 = .ok (.aload_n 0, 1) := by decide +kernel
theorem dX4_work_127 : decode cX4_work 127 = .ok (.invokevirtual 73, 3) := by decide +kernel
theorem dX4_work_130 : decode cX4_work 130 = .ok (.ineg, 1) := by decide +kernel
theorem dX4_work_131 : decode cX4_work 131 = .ok (.invokevirtual 80, 3) := by decide +kernel
theorem dX4_work_134 : decode cX4_work 134 = .ok (.return_, 1) := by decide +kernel
theorem dX4_work_135 : decode cX4_work 135 = .ok (.aload_n 0, 1) := by decide +kernel
theorem dX4_work_136 : decode cX4_work 136 = .ok (.invokevirtual 73, 3) := by decide +kernel
theorem dX4_work_139 : decode cX4_work 139 = .ok (.istore_n 3, 1) := by decide +kernel
theorem dX4_work_140 : decode cX4_work 140 = .ok (.aload_n 0, 1) := by decide +kernel
theorem dX4_work_141 : decode cX4_work 141 = .ok (.invokevirtual 73, 3) := by decide +kernel
theorem dX4_work_144 : decode cX4_work 144 = .ok (.istore 4, 2) := by decide +kernel
theorem dX4_work_146 : decode cX4_work 146 = .ok (.aload_n 0, 1) := by decide +kernel
theorem dX4_work_147 : decode cX4_work 147 = .ok (.iload_n 1, 1) := by decide +kernel
theorem dX4_work_148 : decode cX4_work 148 = .ok (.ineg, 1) := by decide +kernel
theorem dX4_work_149 : decode cX4_work 149 = .ok (.iload 4, 2) := by decide +kernel
theorem dX4_work_151 : decode cX4_work 151 = .ok (.iload_n 3, 1) := by decide +kernel
theorem dX4_work_152 : decode cX4_work 152 = .ok (.invokestatic 94, 3) := by decide +kernel
theorem dX4_work_155 : decode cX4_work 155 = .ok (.invokevirtual 80, 3) := by decide +kernel
theorem dX4_work_158 : decode cX4_work 158 = .ok (.return_, 1) := by decide +kernel
theorem dX4_joined_0 : decode cX4_joined 0 = .ok (.iload_n 0, 1) := by decide +kernel
theorem dX4_joined_1 : decode cX4_joined 1 = .ok (.lookupswitch 191 #[(37, 185), (38, 108), (42, 175), (43, 167), (45, 171), (47, 179), (60, 125), (61, 139), (62, 153), (124, 91)], 91) := by decide +kernel
theorem dX4_joined_92 : decode cX4_joined 92 = .ok (.iload_n 1, 1) := by decide +kernel
theorem dX4_joined_93 : decode cX4_joined 93 = .ok (.ifCond .ne 7, 3) := by decide +kernel
theorem dX4_joined_96 : decode cX4_joined 96 = .ok (.iload_n 2, 1) := by decide +kernel
theorem dX4_joined_97 : decode cX4_joined 97 = .ok (.ifCond .eq 7, 3) := by decide +kernel
theorem dX4_joined_100 : decode cX4_joined 100 = .ok (.iconst 1, 1) := by decide +kernel
theorem dX4_joined_101 : decode cX4_joined 101 = .ok (.goto 4, 3) := by decide +kernel
theorem dX4_joined_104 : decode cX4_joined 104 = .ok (.iconst 0, 1) := by decide +kernel
theorem dX4_joined_105 : decode cX4_joined 105 = .ok (.invokestatic 90, 3) := by decide +kernel
theorem dX4_joined_108 : decode cX4_joined 108 = .ok (.ireturn, 1) := by decide +kernel
theorem dX4_joined_109 : decode cX4_joined 109 = .ok (.iload_n 1, 1) := by decide +kernel
theorem dX4_joined_110 : decode cX4_joined 110 = .ok (.ifCond .eq 11, 3) := by decide +kernel
theorem dX4_joined_113 : decode cX4_joined 113 = .ok (.iload_n 2, 1) := by decide +kernel
theorem dX4_joined_114 : decode cX4_joined 114 = .ok (.ifCond .eq 7, 3) := by decide +kernel
theorem dX4_joined_117 : decode cX4_joined 117 = .ok (.iconst 1, 1) := by decide +kernel
theorem dX4_joined_118 : decode cX4_joined 118 = .ok (.goto 4, 3) := by decide +kernel
theorem dX4_joined_121 : decode cX4_joined 121 = .ok (.iconst 0, 1) := by decide +kernel
theorem dX4_joined_122 : decode cX4_joined 122 = .ok (.invokestatic 90, 3) := by decide +kernel
theorem dX4_joined_125 : decode cX4_joined 125 = .ok (.ireturn, 1) := by decide +kernel
theorem dX4_joined_126 : decode cX4_joined 126 = .ok (.iload_n 1, 1) := by decide +kernel
theorem dX4_joined_127 : decode cX4_joined 127 = .ok (.iload_n 2, 1) := by decide +kernel
theorem dX4_joined_128 : decode cX4_joined 128 = .ok (.if_icmp .ge 7, 3) := by decide +kernel
theorem dX4_joined_131 : decode cX4_joined 131 = .ok (.iconst 1, 1) := by decide +kernel
theorem dX4_joined_132 : decode cX4_joined 132 = .ok (.goto 4, 3) := by decide +kernel
theorem dX4_joined_135 : decode cX4_joined 135 = .ok (.iconst 0, 1) := by decide +kernel
theorem dX4_joined_136 : decode cX4_joined 136 = .ok (.invokestatic 90, 3) := by decide +kernel
theorem dX4_joined_139 : decode cX4_joined 139 = .ok (.ireturn, 1) := by decide +kernel
theorem dX4_joined_140 : decode cX4_joined 140 = .ok (.iload_n 1, 1) := by decide +kernel
theorem dX4_joined_141 : decode cX4_joined 141 = .ok (.iload_n 2, 1) := by decide +kernel
theorem dX4_joined_142 : decode cX4_joined 142 = .ok (.if_icmp .ne 7, 3) := by decide +kernel
theorem dX4_joined_145 : decode cX4_joined 145 = .ok (.iconst 1, 1) := by decide +kernel
theorem dX4_joined_146 : decode cX4_joined 146 = .ok (.goto 4, 3) := by decide +kernel
theorem dX4_joined_149 : decode cX4_joined 149 = .ok (.iconst 0, 1) := by decide +kernel
theorem dX4_joined_150 : decode cX4_joined 150 = .ok (.invokestatic 90, 3) := by decide +kernel
theorem dX4_joined_153 : decode cX4_joined 153 = .ok (.ireturn, 1) := by decide +kernel
theorem dX4_joined_154 : decode cX4_joined 154 = .ok (.iload_n 1, 1) := by decide +kernel
theorem dX4_joined_155 : decode cX4_joined 155 = .ok (.iload_n 2, 1) := by decide +kernel
theorem dX4_joined_156 : decode cX4_joined 156 = .ok (.if_icmp .le 7, 3) := by decide +kernel
theorem dX4_joined_159 : decode cX4_joined 159 = .ok (.iconst 1, 1) := by decide +kernel
theorem dX4_joined_160 : decode cX4_joined 160 = .ok (.goto 4, 3) := by decide +kernel
theorem dX4_joined_163 : decode cX4_joined 163 = .ok (.iconst 0, 1) := by decide +kernel
theorem dX4_joined_164 : decode cX4_joined 164 = .ok (.invokestatic 90, 3) := by decide +kernel
theorem dX4_joined_167 : decode cX4_joined 167 = .ok (.ireturn, 1) := by decide +kernel
theorem dX4_joined_168 : decode cX4_joined 168 = .ok (.iload_n 1, 1) := by decide +kernel
theorem dX4_joined_169 : decode cX4_joined 169 = .ok (.iload_n 2, 1) := by decide +kernel
theorem dX4_joined_170 : decode cX4_joined 170 = .ok (.iadd, 1) := by decide +kernel
theorem dX4_joined_171 : decode cX4_joined 171 = .ok (.ireturn, 1) := by decide +kernel
theorem dX4_joined_172 : decode cX4_joined 172 = .ok (.iload_n 1, 1) := by decide +kernel
theorem dX4_joined_173 : decode cX4_joined 173 = .ok (.iload_n 2, 1) := by decide +kernel
theorem dX4_joined_174 : decode cX4_joined 174 = .ok (.isub, 1) := by decide +kernel
theorem dX4_joined_175 : decode cX4_joined 175 = .ok (.ireturn, 1) := by decide +kernel
theorem dX4_joined_176 : decode cX4_joined 176 = .ok (.iload_n 1, 1) := by decide +kernel
theorem dX4_joined_177 : decode cX4_joined 177 = .ok (.iload_n 2, 1) := by decide +kernel
theorem dX4_joined_178 : decode cX4_joined 178 = .ok (.imul, 1) := by decide +kernel
theorem dX4_joined_179 : decode cX4_joined 179 = .ok (.ireturn, 1) := by decide +kernel
theorem dX4_joined_180 : decode cX4_joined 180 = .ok (.iload_n 1, 1) := by decide +kernel
theorem dX4_joined_181 : decode cX4_joined 181 = .ok (.iload_n 2, 1) := by decide +kernel
theorem dX4_joined_182 : decode cX4_joined 182 = .ok (.invokestatic 98, 3) := by decide +kernel
theorem dX4_joined_185 : decode cX4_joined 185 = .ok (.ireturn, 1) := by decide +kernel
theorem dX4_joined_186 : decode cX4_joined 186 = .ok (.iload_n 1, 1) := by decide +kernel
theorem dX4_joined_187 : decode cX4_joined 187 = .ok (.iload_n 2, 1) := by decide +kernel
theorem dX4_joined_188 : decode cX4_joined 188 = .ok (.invokestatic 101, 3) := by decide +kernel
theorem dX4_joined_191 : decode cX4_joined 191 = .ok (.ireturn, 1) := by decide +kernel
theorem dX4_joined_192 : decode cX4_joined 192 = .ok (.iconst 0, 1) := by decide +kernel
theorem dX4_joined_193 : decode cX4_joined 193 = .ok (.ireturn, 1) := by decide +kernel
theorem dX4_push_0 : decode cX4_push 0 = .ok (.aload_n 0, 1) := by decide +kernel
theorem dX4_push_1 : decode cX4_push 1 = .ok (.getfield 70, 3) := by decide +kernel
theorem dX4_push_4 : decode cX4_push 4 = .ok (.aload_n 0, 1) := by decide +kernel
theorem dX4_push_5 : decode cX4_push 5 = .ok (.getfield 22, 3) := by decide +kernel
theorem dX4_push_8 : decode cX4_push 8 = .ok (.arraylength, 1) := by decide +kernel
theorem dX4_push_9 : decode cX4_push 9 = .ok (.if_icmp .ge 23, 3) := by decide +kernel
theorem dX4_push_12 : decode cX4_push 12 = .ok (.aload_n 0, 1) := by decide +kernel
theorem dX4_push_13 : decode cX4_push 13 = .ok (.getfield 22, 3) := by decide +kernel
theorem dX4_push_16 : decode cX4_push 16 = .ok (.aload_n 0, 1) := by decide +kernel
theorem dX4_push_17 : decode cX4_push 17 = .ok (.getfield 70, 3) := by decide +kernel
theorem dX4_push_20 : decode cX4_push 20 = .ok (.iload_n 1, 1) := by decide +kernel
theorem dX4_push_21 : decode cX4_push 21 = .ok (.iastore, 1) := by decide +kernel
theorem dX4_push_22 : decode cX4_push 22 = .ok (.aload_n 0, 1) := by decide +kernel
theorem dX4_push_23 : decode cX4_push 23 = .ok (.dup, 1) := by decide +kernel
theorem dX4_push_24 : decode cX4_push 24 = .ok (.getfield 70, 3) := by decide +kernel
theorem dX4_push_27 : decode cX4_push 27 = .ok (.iconst 1, 1) := by decide +kernel
theorem dX4_push_28 : decode cX4_push 28 = .ok (.iadd, 1) := by decide +kernel
theorem dX4_push_29 : decode cX4_push 29 = .ok (.putfield 70, 3) := by decide +kernel
theorem dX4_push_32 : decode cX4_push 32 = .ok (.return_, 1) := by decide +kernel
theorem dX4_pop_0 : decode cX4_pop 0 = .ok (.aload_n 0, 1) := by decide +kernel
theorem dX4_pop_1 : decode cX4_pop 1 = .ok (.getfield 70, 3) := by decide +kernel
theorem dX4_pop_4 : decode cX4_pop 4 = .ok (.ifCond .gt 5, 3) := by decide +kernel
theorem dX4_pop_7 : decode cX4_pop 7 = .ok (.iconst 0, 1) := by decide +kernel
theorem dX4_pop_8 : decode cX4_pop 8 = .ok (.ireturn, 1) := by decide +kernel
theorem dX4_pop_9 : decode cX4_pop 9 = .ok (.aload_n 0, 1) := by decide +kernel
theorem dX4_pop_10 : decode cX4_pop 10 = .ok (.dup, 1) := by decide +kernel
theorem dX4_pop_11 : decode cX4_pop 11 = .ok (.getfield 70, 3) := by decide +kernel
theorem dX4_pop_14 : decode cX4_pop 14 = .ok (.iconst 1, 1) := by decide +kernel
theorem dX4_pop_15 : decode cX4_pop 15 = .ok (.isub, 1) := by decide +kernel
theorem dX4_pop_16 : decode cX4_pop 16 = .ok (.putfield 70, 3) := by decide +kernel
theorem dX4_pop_19 : decode cX4_pop 19 = .ok (.aload_n 0, 1) := by decide +kernel
theorem dX4_pop_20 : decode cX4_pop 20 = .ok (.getfield 22, 3) := by decide +kernel
theorem dX4_pop_23 : decode cX4_pop 23 = .ok (.aload_n 0, 1) := by decide +kernel
theorem dX4_pop_24 : decode cX4_pop 24 = .ok (.getfield 70, 3) := by decide +kernel
theorem dX4_pop_27 : decode cX4_pop 27 = .ok (.iaload, 1) := by decide +kernel
theorem dX4_pop_28 : decode cX4_pop 28 = .ok (.ireturn, 1) := by decide +kernel
theorem dX5_init_0 : decode cX5_init 0 = .ok (.aload_n 0, 1) := by decide +kernel
theorem dX5_init_1 : decode cX5_init 1 = .ok (.invokespecial 3, 3) := by decide +kernel
theorem dX5_init_4 : decode cX5_init 4 = .ok (.aload_n 0, 1) := by decide +kernel
theorem dX5_init_5 : decode cX5_init 5 = .ok (.bipush 20, 2) := by decide +kernel
theorem dX5_init_7 : decode cX5_init 7 = .ok (.newarray .int, 2) := by decide +kernel
theorem dX5_init_9 : decode cX5_init 9 = .ok (.putfield 11, 3) := by decide +kernel
theorem dX5_init_12 : decode cX5_init 12 = .ok (.aload_n 0, 1) := by decide +kernel
theorem dX5_init_13 : decode cX5_init 13 = .ok (.bipush 20, 2) := by decide +kernel
theorem dX5_init_15 : decode cX5_init 15 = .ok (.newarray .int, 2) := by decide +kernel
theorem dX5_init_17 : decode cX5_init 17 = .ok (.putfield 15, 3) := by decide +kernel
theorem dX5_init_20 : decode cX5_init 20 = .ok (.return_, 1) := by decide +kernel
theorem dX5_isFull_0 : decode cX5_isFull 0 = .ok (.aload_n 0, 1) := by decide +kernel
theorem dX5_isFull_1 : decode cX5_isFull 1 = .ok (.getfield 18, 3) := by decide +kernel
theorem dX5_isFull_4 : decode cX5_isFull 4 = .ok (.bipush 20, 2) := by decide +kernel
theorem dX5_isFull_6 : decode cX5_isFull 6 = .ok (.if_icmp .lt 7, 3) := by decide +kernel
theorem dX5_isFull_9 : decode cX5_isFull 9 = .ok (.iconst 1, 1) := by decide +kernel
theorem dX5_isFull_10 : decode cX5_isFull 10 = .ok (.goto 4, 3) := by decide +kernel
theorem dX5_isFull_13 : decode cX5_isFull 13 = .ok (.iconst 0, 1) := by decide +kernel
theorem dX5_isFull_14 : decode cX5_isFull 14 = .ok (.ireturn, 1) := by decide +kernel
theorem dX5_mayCome_0 : decode cX5_mayCome 0 = .ok (.aload_n 0, 1) := by decide +kernel
theorem dX5_mayCome_1 : decode cX5_mayCome 1 = .ok (.getfield 18, 3) := by decide +kernel
theorem dX5_mayCome_4 : decode cX5_mayCome 4 = .ok (.ifCond .le 18, 3) := by decide +kernel
theorem dX5_mayCome_7 : decode cX5_mayCome 7 = .ok (.iload_n 1, 1) := by decide +kernel
theorem dX5_mayCome_8 : decode cX5_mayCome 8 = .ok (.aload_n 0, 1) := by decide +kernel
theorem dX5_mayCome_9 : decode cX5_mayCome 9 = .ok (.getfield 11, 3) := by decide +kernel
theorem dX5_mayCome_12 : decode cX5_mayCome 12 = .ok (.aload_n 0, 1) := by decide +kernel
theorem dX5_mayCome_13 : decode cX5_mayCome 13 = .ok (.getfield 18, 3) := by decide +kernel
theorem dX5_mayCome_16 : decode cX5_mayCome 16 = .ok (.iconst 1, 1) := by decide +kernel
theorem dX5_mayCome_17 : decode cX5_mayCome 17 = .ok (.isub, 1) := by decide +kernel
theorem dX5_mayCome_18 : decode cX5_mayCome 18 = .ok (.iaload, 1) := by decide +kernel
theorem dX5_mayCome_19 : decode cX5_mayCome 19 = .ok (.if_icmp .le 7, 3) := by decide +kernel
theorem dX5_mayCome_22 : decode cX5_mayCome 22 = .ok (.iconst 1, 1) := by decide +kernel
theorem dX5_mayCome_23 : decode cX5_mayCome 23 = .ok (.goto 4, 3) := by decide +kernel
theorem dX5_mayCome_26 : decode cX5_mayCome 26 = .ok (.iconst 0, 1) := by decide +kernel
theorem dX5_mayCome_27 : decode cX5_mayCome 27 = .ok (.istore_n 3, 1) := by decide +kernel
theorem dX5_mayCome_28 : decode cX5_mayCome 28 = .ok (.iload_n 3, 1) := by decide +kernel
theorem dX5_mayCome_29 : decode cX5_mayCome 29 = .ok (.ifCond .eq 25, 3) := by decide +kernel
theorem dX5_mayCome_32 : decode cX5_mayCome 32 = .ok (.iload_n 1, 1) := by decide +kernel
theorem dX5_mayCome_33 : decode cX5_mayCome 33 = .ok (.invokestatic 22, 3) := by decide +kernel
theorem dX5_mayCome_36 : decode cX5_mayCome 36 = .ok (.ifCond .eq 18, 3) := by decide +kernel
theorem dX5_mayCome_39 : decode cX5_mayCome 39 = .ok (.iload_n 2, 1) := by decide +kernel
theorem dX5_mayCome_40 : decode cX5_mayCome 40 = .ok (.bipush (-20), 2) := by decide +kernel
theorem dX5_mayCome_42 : decode cX5_mayCome 42 = .ok (.bipush 60, 2) := by decide +kernel
theorem dX5_mayCome_44 : decode cX5_mayCome 44 = .ok (.invokestatic 26, 3) := by decide +kernel
theorem dX5_mayCome_47 : decode cX5_mayCome 47 = .ok (.ifCond .eq 7, 3) := by decide +kernel
theorem dX5_mayCome_50 : decode cX5_mayCome 50 = .ok (.iconst 1, 1) := by decide +kernel
theorem dX5_mayCome_51 : decode cX5_mayCome 51 = .ok (.goto 4, 3) := by decide +kernel
theorem dX5_mayCome_54 : decode cX5_mayCome 54 = .ok (.iconst 0, 1) := by decide +kernel
theorem dX5_mayCome_55 : decode cX5_mayCome 55 = .ok (.ireturn, 1) := by decide +kernel
theorem dX5_add_0 : decode cX5_add 0 = .ok (.aload_n 0, 1) := by decide +kernel
theorem dX5_add_1 : decode cX5_add 1 = .ok (.invokevirtual 30, 3) := by decide +kernel
theorem dX5_add_4 : decode cX5_add 4 = .ok (.ifCond .eq 6, 3) := by decide +kernel
theorem dX5_add_7 : decode cX5_add 7 = .ok (.bipush (-3), 2) := by decide +kernel
theorem dX5_add_9 : decode cX5_add 9 = .ok (.ireturn, 1) := by decide +kernel
theorem dX5_add_10 : decode cX5_add 10 = .ok (.aload_n 0, 1) := by decide +kernel
theorem dX5_add_11 : decode cX5_add 11 = .ok (.getfield 11, 3) := by decide +kernel
theorem dX5_add_14 : decode cX5_add 14 = .ok (.aload_n 0, 1) := by decide +kernel
theorem dX5_add_15 : decode cX5_add 15 = .ok (.getfield 18, 3) := by decide +kernel
theorem dX5_add_18 : decode cX5_add 18 = .ok (.iload_n 1, 1) := by decide +kernel
theorem dX5_add_19 : decode cX5_add 19 = .ok (.iastore, 1) := by decide +kernel
theorem dX5_add_20 : decode cX5_add 20 = .ok (.aload_n 0, 1) := by decide +kernel
theorem dX5_add_21 : decode cX5_add 21 = .ok (.getfield 15, 3) := by decide +kernel
theorem dX5_add_24 : decode cX5_add 24 = .ok (.aload_n 0, 1) := by decide +kernel
theorem dX5_add_25 : decode cX5_add 25 = .ok (.getfield 18, 3) := by decide +kernel
theorem dX5_add_28 : decode cX5_add 28 = .ok (.iload_n 2, 1) := by decide +kernel
theorem dX5_add_29 : decode cX5_add 29 = .ok (.iastore, 1) := by decide +kernel
theorem dX5_add_30 : decode cX5_add 30 = .ok (.aload_n 0, 1) := by decide +kernel
theorem dX5_add_31 : decode cX5_add 31 = .ok (.dup, 1) := by decide +kernel
theorem dX5_add_32 : decode cX5_add 32 = .ok (.getfield 18, 3) := by decide +kernel
theorem dX5_add_35 : decode cX5_add 35 = .ok (.iconst 1, 1) := by decide +kernel
theorem dX5_add_36 : decode cX5_add 36 = .ok (.iadd, 1) := by decide +kernel
theorem dX5_add_37 : decode cX5_add 37 = .ok (.putfield 18, 3) := by decide +kernel
theorem dX5_add_40 : decode cX5_add 40 = .ok (.aload_n 0, 1) := by decide +kernel
theorem dX5_add_41 : decode cX5_add 41 = .ok (.getfield 18, 3) := by decide +kernel
theorem dX5_add_44 : decode cX5_add 44 = .ok (.iconst 1, 1) := by decide +kernel
theorem dX5_add_45 : decode cX5_add 45 = .ok (.isub, 1) := by decide +kernel
theorem dX5_add_46 : decode cX5_add 46 = .ok (.ireturn, 1) := by decide +kernel
theorem dX5_differenceFrom_0 : decode cX5_differenceFrom 0 = .ok (.iconst 0, 1) := by decide +kernel
theorem dX5_differenceFrom_1 : decode cX5_differenceFrom 1 = .ok (.istore_n 3, 1) := by decide +kernel
theorem dX5_differenceFrom_2 : decode cX5_differenceFrom 2 = .ok (.iconst 0, 1) := by decide +kernel
theorem dX5_differenceFrom_3 : decode cX5_differenceFrom 3 = .ok (.istore 4, 2) := by decide +kernel
theorem dX5_differenceFrom_5 : decode cX5_differenceFrom 5 = .ok (.iload 4, 2) := by decide +kernel
theorem dX5_differenceFrom_7 : decode cX5_differenceFrom 7 = .ok (.aload_n 0, 1) := by decide +kernel
theorem dX5_differenceFrom_8 : decode cX5_differenceFrom 8 = .ok (.getfield 18, 3) := by decide +kernel
theorem dX5_differenceFrom_11 : decode cX5_differenceFrom 11 = .ok (.if_icmp .ge 35, 3) := by decide +kernel
theorem dX5_differenceFrom_14 : decode cX5_differenceFrom 14 = .ok (.iload_n 3, 1) := by decide +kernel
theorem dX5_differenceFrom_15 : decode cX5_differenceFrom 15 = .ok (.aload_n 1, 1) := by decide +kernel
theorem dX5_differenceFrom_16 : decode cX5_differenceFrom 16 = .ok (.iload_n 2, 1) := by decide +kernel
theorem dX5_differenceFrom_17 : decode cX5_differenceFrom 17 = .ok (.aload_n 0, 1) := by decide +kernel
theorem dX5_differenceFrom_18 : decode cX5_differenceFrom 18 = .ok (.getfield 11, 3) := by decide +kernel
theorem dX5_differenceFrom_21 : decode cX5_differenceFrom 21 = .ok (.iload 4, 2) := by decide +kernel
theorem dX5_differenceFrom_23 : decode cX5_differenceFrom 23 = .ok (.iaload, 1) := by decide +kernel
theorem dX5_differenceFrom_24 : decode cX5_differenceFrom 24 = .ok (.invokevirtual 34, 3) := by decide +kernel
theorem dX5_differenceFrom_27 : decode cX5_differenceFrom 27 = .ok (.aload_n 0, 1) := by decide +kernel
theorem dX5_differenceFrom_28 : decode cX5_differenceFrom 28 = .ok (.getfield 15, 3) := by decide +kernel
theorem dX5_differenceFrom_31 : decode cX5_differenceFrom 31 = .ok (.iload 4, 2) := by decide +kernel
theorem dX5_differenceFrom_33 : decode cX5_differenceFrom 33 = .ok (.iaload, 1) := by decide +kernel
theorem dX5_differenceFrom_34 : decode cX5_differenceFrom 34 = .ok (.isub, 1) := by decide +kernel
theorem dX5_differenceFrom_35 : decode cX5_differenceFrom 35 = .ok (.invokestatic 40, 3) := by decide +kernel
theorem dX5_differenceFrom_38 : decode cX5_differenceFrom 38 = .ok (.iadd, 1) := by decide +kernel
theorem dX5_differenceFrom_39 : decode cX5_differenceFrom 39 = .ok (.istore_n 3, 1) := by decide +kernel
theorem dX5_differenceFrom_40 : decode cX5_differenceFrom 40 = .ok (.iinc 4 1, 3) := by decide +kernel
theorem dX5_differenceFrom_43 : decode cX5_differenceFrom 43 = .ok (.goto (-38), 3) := by decide +kernel
theorem dX5_differenceFrom_46 : decode cX5_differenceFrom 46 = .ok (.iload_n 3, 1) := by decide +kernel
theorem dX5_differenceFrom_47 : decode cX5_differenceFrom 47 = .ok (.ireturn, 1) := by decide +kernel
theorem dX5_nearestOf_0 : decode cX5_nearestOf 0 = .ok (.iconst 0, 1) := by decide +kernel
theorem dX5_nearestOf_1 : decode cX5_nearestOf 1 = .ok (.istore_n 2, 1) := by decide +kernel
theorem dX5_nearestOf_2 : decode cX5_nearestOf 2 = .ok (.iconst 1, 1) := by decide +kernel
theorem dX5_nearestOf_3 : decode cX5_nearestOf 3 = .ok (.istore_n 3, 1) := by decide +kernel
theorem dX5_nearestOf_4 : decode cX5_nearestOf 4 = .ok (.iload_n 3, 1) := by decide +kernel
theorem dX5_nearestOf_5 : decode cX5_nearestOf 5 = .ok (.aload_n 1, 1) := by decide +kernel
theorem dX5_nearestOf_6 : decode cX5_nearestOf 6 = .ok (.getfield 46, 3) := by decide +kernel
theorem dX5_nearestOf_9 : decode cX5_nearestOf 9 = .ok (.if_icmp .ge 26, 3) := by decide +kernel
theorem dX5_nearestOf_12 : decode cX5_nearestOf 12 = .ok (.aload_n 0, 1) := by decide +kernel
theorem dX5_nearestOf_13 : decode cX5_nearestOf 13 = .ok (.aload_n 1, 1) := by decide +kernel
theorem dX5_nearestOf_14 : decode cX5_nearestOf 14 = .ok (.iload_n 3, 1) := by decide +kernel
theorem dX5_nearestOf_15 : decode cX5_nearestOf 15 = .ok (.invokevirtual 47, 3) := by decide +kernel
theorem dX5_nearestOf_18 : decode cX5_nearestOf 18 = .ok (.aload_n 0, 1) := by decide +kernel
theorem dX5_nearestOf_19 : decode cX5_nearestOf 19 = .ok (.aload_n 1, 1) := by decide +kernel
theorem dX5_nearestOf_20 : decode cX5_nearestOf 20 = .ok (.iload_n 2, 1) := by decide +kernel
theorem dX5_nearestOf_21 : decode cX5_nearestOf 21 = .ok (.invokevirtual 47, 3) := by decide +kernel
theorem dX5_nearestOf_24 : decode cX5_nearestOf 24 = .ok (.if_icmp .ge 5, 3) := by decide +kernel
theorem dX5_nearestOf_27 : decode cX5_nearestOf 27 = .ok (.iload_n 3, 1) := by decide +kernel
theorem dX5_nearestOf_28 : decode cX5_nearestOf 28 = .ok (.istore_n 2, 1) := by decide +kernel
theorem dX5_nearestOf_29 : decode cX5_nearestOf 29 = .ok (.iinc 3 1, 3) := by decide +kernel
theorem dX5_nearestOf_32 : decode cX5_nearestOf 32 = .ok (.goto (-28), 3) := by decide +kernel
theorem dX5_nearestOf_35 : decode cX5_nearestOf 35 = .ok (.iload_n 2, 1) := by decide +kernel
theorem dX5_nearestOf_36 : decode cX5_nearestOf 36 = .ok (.ireturn, 1) := by decide +kernel
theorem dX6_init_0 : decode cX6_init 0 = .ok (.aload_n 0, 1) := by decide +kernel
theorem dX6_init_1 : decode cX6_init 1 = .ok (.invokespecial 3, 3) := by decide +kernel
theorem dX6_init_4 : decode cX6_init 4 = .ok (.aload_n 0, 1) := by decide +kernel
theorem dX6_init_5 : decode cX6_init 5 = .ok (.bipush 8, 2) := by decide +kernel
theorem dX6_init_7 : decode cX6_init 7 = .ok (.newarray .int, 2) := by decide +kernel
theorem dX6_init_9 : decode cX6_init 9 = .ok (.putfield 11, 3) := by decide +kernel
theorem dX6_init_12 : decode cX6_init 12 = .ok (.aload_n 0, 1) := by decide +kernel
theorem dX6_init_13 : decode cX6_init 13 = .ok (.bipush 8, 2) := by decide +kernel
theorem dX6_init_15 : decode cX6_init 15 = .ok (.newarray .int, 2) := by decide +kernel
theorem dX6_init_17 : decode cX6_init 17 = .ok (.putfield 17, 3) := by decide +kernel
theorem dX6_init_20 : decode cX6_init 20 = .ok (.aload_n 0, 1) := by decide +kernel
theorem dX6_init_21 : decode cX6_init 21 = .ok (.bipush 8, 2) := by decide +kernel
theorem dX6_init_23 : decode cX6_init 23 = .ok (.newarray .int, 2) := by decide +kernel
theorem dX6_init_25 : decode cX6_init 25 = .ok (.putfield 20, 3) := by decide +kernel
theorem dX6_init_28 : decode cX6_init 28 = .ok (.aload_n 0, 1) := by decide +kernel
theorem dX6_init_29 : decode cX6_init 29 = .ok (.bipush 8, 2) := by decide +kernel
theorem dX6_init_31 : decode cX6_init 31 = .ok (.newarray .int, 2) := by decide +kernel
theorem dX6_init_33 : decode cX6_init 33 = .ok (.putfield 23, 3) := by decide +kernel
theorem dX6_init_36 : decode cX6_init 36 = .ok (.aload_n 0, 1) := by decide +kernel
theorem dX6_init_37 : decode cX6_init 37 = .ok (.aload_n 1, 1) := by decide +kernel
theorem dX6_init_38 : decode cX6_init 38 = .ok (.putfield 26, 3) := by decide +kernel
theorem dX6_init_41 : decode cX6_init 41 = .ok (.return_, 1) := by decide +kernel
theorem dX6_take_0 : decode cX6_take 0 = .ok (.aload_n 0, 1) := by decide +kernel
theorem dX6_take_1 : decode cX6_take 1 = .ok (.iconst 0, 1) := by decide +kernel
theorem dX6_take_2 : decode cX6_take 2 = .ok (.putfield 30, 3) := by decide +kernel
theorem dX6_take_5 : decode cX6_take 5 = .ok (.aload_n 0, 1) := by decide +kernel
theorem dX6_take_6 : decode cX6_take 6 = .ok (.iload_n 2, 1) := by decide +kernel
theorem dX6_take_7 : decode cX6_take 7 = .ok (.putfield 34, 3) := by decide +kernel
theorem dX6_take_10 : decode cX6_take 10 = .ok (.iload_n 1, 1) := by decide +kernel
theorem dX6_take_11 : decode cX6_take 11 = .ok (.iconst 1, 1) := by decide +kernel
theorem dX6_take_12 : decode cX6_take 12 = .ok (.ldc 37, 2) := by decide +kernel
theorem dX6_take_14 : decode cX6_take 14 = .ok (.invokestatic 38, 3) := by decide +kernel
theorem dX6_take_17 : decode cX6_take 17 = .ok (.ifCond .ne 5, 3) := by decide +kernel
theorem dX6_take_20 : decode cX6_take 20 = .ok (.iconst 0, 1) := by decide +kernel
theorem dX6_take_21 : decode cX6_take 21 = .ok (.ireturn, 1) := by decide +kernel
theorem dX6_take_22 : decode cX6_take 22 = .ok (.iconst 0, 1) := by decide +kernel
theorem dX6_take_23 : decode cX6_take 23 = .ok (.istore_n 3, 1) := by decide +kernel
theorem dX6_take_24 : decode cX6_take 24 = .ok (.iconst 0, 1) := by decide +kernel
theorem dX6_take_25 : decode cX6_take 25 = .ok (.istore 4, 2) := by decide +kernel
theorem dX6_take_27 : decode cX6_take 27 = .ok (.iload_n 1, 1) := by decide +kernel
theorem dX6_take_28 : decode cX6_take 28 = .ok (.istore 5, 2) := by decide +kernel
theorem dX6_take_30 : decode cX6_take 30 = .ok (.iload 4, 2) := by decide +kernel
theorem dX6_take_32 : decode cX6_take 32 = .ok (.iconst 5, 1) := by decide +kernel
theorem dX6_take_33 : decode cX6_take 33 = .ok (.if_icmp .ge 69, 3) := by decide +kernel
theorem dX6_take_36 : decode cX6_take 36 = .ok (.iload 5, 2) := by decide +kernel
theorem dX6_take_38 : decode cX6_take 38 = .ok (.ifCond .le 64, 3) := by decide +kernel
theorem dX6_take_41 : decode cX6_take 41 = .ok (.iload 5, 2) := by decide +kernel
theorem dX6_take_43 : decode cX6_take 43 = .ok (.bipush 10, 2) := by decide +kernel
theorem dX6_take_45 : decode cX6_take 45 = .ok (.irem, 1) := by decide +kernel
theorem dX6_take_46 : decode cX6_take 46 = .ok (.iconst 1, 1) := by decide +kernel
theorem dX6_take_47 : decode cX6_take 47 = .ok (.isub, 1) := by decide +kernel
theorem dX6_take_48 : decode cX6_take 48 = .ok (.istore 6, 2) := by decide +kernel
theorem dX6_take_50 : decode cX6_take 50 = .ok (.aload_n 0, 1) := by decide +kernel
theorem dX6_take_51 : decode cX6_take 51 = .ok (.getfield 26, 3) := by decide +kernel
theorem dX6_take_54 : decode cX6_take 54 = .ok (.iload 6, 2) := by decide +kernel
theorem dX6_take_56 : decode cX6_take 56 = .ok (.invokevirtual 42, 3) := by decide +kernel
theorem dX6_take_59 : decode cX6_take 59 = .ok (.ifCond .eq 12, 3) := by decide +kernel
theorem dX6_take_62 : decode cX6_take 62 = .ok (.iload_n 3, 1) := by decide +kernel
theorem dX6_take_63 : decode cX6_take 63 = .ok (.iload 6, 2) := by decide +kernel
theorem dX6_take_65 : decode cX6_take 65 = .ok (.invokestatic 46, 3) := by decide +kernel
theorem dX6_take_68 : decode cX6_take 68 = .ok (.ifCond .eq 5, 3) := by decide +kernel
theorem dX6_take_71 : decode cX6_take 71 = .ok (.iconst 0, 1) := by decide +kernel
theorem dX6_take_72 : decode cX6_take 72 = .ok (.ireturn, 1) := by decide +kernel
theorem dX6_take_73 : decode cX6_take 73 = .ok (.iload_n 3, 1) := by decide +kernel
theorem dX6_take_74 : decode cX6_take 74 = .ok (.iconst 1, 1) := by decide +kernel
theorem dX6_take_75 : decode cX6_take 75 = .ok (.iload 6, 2) := by decide +kernel
theorem dX6_take_77 : decode cX6_take 77 = .ok (.ishl, 1) := by decide +kernel
theorem dX6_take_78 : decode cX6_take 78 = .ok (.ior, 1) := by decide +kernel
theorem dX6_take_79 : decode cX6_take 79 = .ok (.istore_n 3, 1) := by decide +kernel
theorem dX6_take_80 : decode cX6_take 80 = .ok (.aload_n 0, 1) := by decide +kernel
theorem dX6_take_81 : decode cX6_take 81 = .ok (.getfield 11, 3) := by decide +kernel
theorem dX6_take_84 : decode cX6_take 84 = .ok (.iload 4, 2) := by decide +kernel
theorem dX6_take_86 : decode cX6_take 86 = .ok (.iload 6, 2) := by decide +kernel
theorem dX6_take_88 : decode cX6_take 88 = .ok (.iastore, 1) := by decide +kernel
theorem dX6_take_89 : decode cX6_take 89 = .ok (.iinc 4 1, 3) := by decide +kernel
theorem dX6_take_92 : decode cX6_take 92 = .ok (.iload 5, 2) := by decide +kernel
theorem dX6_take_94 : decode cX6_take 94 = .ok (.bipush 10, 2) := by decide +kernel
theorem dX6_take_96 : decode cX6_take 96 = .ok (.idiv, 1) := by decide +kernel
theorem dX6_take_97 : decode cX6_take 97 = .ok (.istore 5, 2) := by decide +kernel
theorem dX6_take_99 : decode cX6_take 99 = .ok (.goto (-69), 3) := by decide +kernel
theorem dX6_take_102 : decode cX6_take 102 = .ok (.aload_n 0, 1) := by decide +kernel
theorem dX6_take_103 : decode cX6_take 103 = .ok (.iload 4, 2) := by decide +kernel
theorem dX6_take_105 : decode cX6_take 105 = .ok (.putfield 30, 3) := by decide +kernel
theorem dX6_take_108 : decode cX6_take 108 = .ok (.aload_n 0, 1) := by decide +kernel
theorem dX6_take_109 : decode cX6_take 109 = .ok (.iconst 0, 1) := by decide +kernel
theorem dX6_take_110 : decode cX6_take 110 = .ok (.iload 4, 2) := by decide +kernel
theorem dX6_take_112 : decode cX6_take 112 = .ok (.iconst 1, 1) := by decide +kernel
theorem dX6_take_113 : decode cX6_take 113 = .ok (.isub, 1) := by decide +kernel
theorem dX6_take_114 : decode cX6_take 114 = .ok (.invokevirtual 50, 3) := by decide +kernel
theorem dX6_take_117 : decode cX6_take 117 = .ok (.iconst 1, 1) := by decide +kernel
theorem dX6_take_118 : decode cX6_take 118 = .ok (.ireturn, 1) := by decide +kernel
theorem dX6_takeEachAsLast_0 : decode cX6_takeEachAsLast 0 = .ok (.aload_n 0, 1) := by decide +kernel
theorem dX6_takeEachAsLast_1 : decode cX6_takeEachAsLast 1 = .ok (.aload_n 0, 1) := by decide +kernel
theorem dX6_takeEachAsLast_2 : decode cX6_takeEachAsLast 2 = .ok (.getfield 26, 3) := by decide +kernel
theorem dX6_takeEachAsLast_5 : decode cX6_takeEachAsLast 5 = .ok (.getfield 54, 3) := by decide +kernel
theorem dX6_takeEachAsLast_8 : decode cX6_takeEachAsLast 8 = .ok (.putfield 30, 3) := by decide +kernel
theorem dX6_takeEachAsLast_11 : decode cX6_takeEachAsLast 11 = .ok (.aload_n 0, 1) := by decide +kernel
theorem dX6_takeEachAsLast_12 : decode cX6_takeEachAsLast 12 = .ok (.iconst 4, 1) := by decide +kernel
theorem dX6_takeEachAsLast_13 : decode cX6_takeEachAsLast 13 = .ok (.putfield 34, 3) := by decide +kernel
theorem dX6_takeEachAsLast_16 : decode cX6_takeEachAsLast 16 = .ok (.iconst 0, 1) := by decide +kernel
theorem dX6_takeEachAsLast_17 : decode cX6_takeEachAsLast 17 = .ok (.istore_n 1, 1) := by decide +kernel
theorem dX6_takeEachAsLast_18 : decode cX6_takeEachAsLast 18 = .ok (.iload_n 1, 1) := by decide +kernel
theorem dX6_takeEachAsLast_19 : decode cX6_takeEachAsLast 19 = .ok (.aload_n 0, 1) := by decide +kernel
theorem dX6_takeEachAsLast_20 : decode cX6_takeEachAsLast 20 = .ok (.getfield 30, 3) := by decide +kernel
theorem dX6_takeEachAsLast_23 : decode cX6_takeEachAsLast 23 = .ok (.if_icmp .ge 16, 3) := by decide +kernel
theorem dX6_takeEachAsLast_26 : decode cX6_takeEachAsLast 26 = .ok (.aload_n 0, 1) := by decide +kernel
theorem dX6_takeEachAsLast_27 : decode cX6_takeEachAsLast 27 = .ok (.getfield 11, 3) := by decide +kernel
theorem dX6_takeEachAsLast_30 : decode cX6_takeEachAsLast 30 = .ok (.iload_n 1, 1) := by decide +kernel
theorem dX6_takeEachAsLast_31 : decode cX6_takeEachAsLast 31 = .ok (.iload_n 1, 1) := by decide +kernel
theorem dX6_takeEachAsLast_32 : decode cX6_takeEachAsLast 32 = .ok (.iastore, 1) := by decide +kernel
theorem dX6_takeEachAsLast_33 : decode cX6_takeEachAsLast 33 = .ok (.iinc 1 1, 3) := by decide +kernel
theorem dX6_takeEachAsLast_36 : decode cX6_takeEachAsLast 36 = .ok (.goto (-18), 3) := by decide +kernel
theorem dX6_takeEachAsLast_39 : decode cX6_takeEachAsLast 39 = .ok (.return_, 1) := by decide +kernel
theorem dX6_enter_0 : decode cX6_enter 0 = .ok (.iconst 0, 1) := by decide +kernel
theorem dX6_enter_1 : decode cX6_enter 1 = .ok (.istore 4, 2) := by decide +kernel
theorem dX6_enter_3 : decode cX6_enter 3 = .ok (.iconst 0, 1) := by decide +kernel
theorem dX6_enter_4 : decode cX6_enter 4 = .ok (.istore 5, 2) := by decide +kernel
theorem dX6_enter_6 : decode cX6_enter 6 = .ok (.iload 5, 2) := by decide +kernel
theorem dX6_enter_8 : decode cX6_enter 8 = .ok (.aload_n 0, 1) := by decide +kernel
theorem dX6_enter_9 : decode cX6_enter 9 = .ok (.getfield 30, 3) := by decide +kernel
theorem dX6_enter_12 : decode cX6_enter 12 = .ok (.if_icmp .ge 41, 3) := by decide +kernel
theorem dX6_enter_15 : decode cX6_enter 15 = .ok (.aload_n 0, 1) := by decide +kernel
theorem dX6_enter_16 : decode cX6_enter 16 = .ok (.getfield 17, 3) := by decide +kernel
theorem dX6_enter_19 : decode cX6_enter 19 = .ok (.iload 5, 2) := by decide +kernel
theorem dX6_enter_21 : decode cX6_enter 21 = .ok (.aload_n 0, 1) := by decide +kernel
theorem dX6_enter_22 : decode cX6_enter 22 = .ok (.aload_n 0, 1) := by decide +kernel
theorem dX6_enter_23 : decode cX6_enter 23 = .ok (.getfield 11, 3) := by decide +kernel
theorem dX6_enter_26 : decode cX6_enter 26 = .ok (.iload 5, 2) := by decide +kernel
theorem dX6_enter_28 : decode cX6_enter 28 = .ok (.iaload, 1) := by decide +kernel
theorem dX6_enter_29 : decode cX6_enter 29 = .ok (.iload_n 1, 1) := by decide +kernel
theorem dX6_enter_30 : decode cX6_enter 30 = .ok (.iload_n 3, 1) := by decide +kernel
theorem dX6_enter_31 : decode cX6_enter 31 = .ok (.invokevirtual 57, 3) := by decide +kernel
theorem dX6_enter_34 : decode cX6_enter 34 = .ok (.iastore, 1) := by decide +kernel
theorem dX6_enter_35 : decode cX6_enter 35 = .ok (.iload 4, 2) := by decide +kernel
theorem dX6_enter_37 : decode cX6_enter 37 = .ok (.aload_n 0, 1) := by decide +kernel
theorem dX6_enter_38 : decode cX6_enter 38 = .ok (.getfield 17, 3) := by decide +kernel
theorem dX6_enter_41 : decode cX6_enter 41 = .ok (.iload 5, 2) := by decide +kernel
theorem dX6_enter_43 : decode cX6_enter 43 = .ok (.iaload, 1) := by decide +kernel
theorem dX6_enter_44 : decode cX6_enter 44 = .ok (.iadd, 1) := by decide +kernel
theorem dX6_enter_45 : decode cX6_enter 45 = .ok (.istore 4, 2) := by decide +kernel
theorem dX6_enter_47 : decode cX6_enter 47 = .ok (.iinc 5 1, 3) := by decide +kernel
theorem dX6_enter_50 : decode cX6_enter 50 = .ok (.goto (-44), 3) := by decide +kernel
theorem dX6_enter_53 : decode cX6_enter 53 = .ok (.iload 4, 2) := by decide +kernel
theorem dX6_enter_55 : decode cX6_enter 55 = .ok (.aload_n 0, 1) := by decide +kernel
theorem dX6_enter_56 : decode cX6_enter 56 = .ok (.getfield 30, 3) := by decide +kernel
theorem dX6_enter_59 : decode cX6_enter 59 = .ok (.invokestatic 61, 3) := by decide +kernel
theorem dX6_enter_62 : decode cX6_enter 62 = .ok (.istore 5, 2) := by decide +kernel
theorem dX6_enter_64 : decode cX6_enter 64 = .ok (.iconst 0, 1) := by decide +kernel
theorem dX6_enter_65 : decode cX6_enter 65 = .ok (.istore 6, 2) := by decide +kernel
theorem dX6_enter_67 : decode cX6_enter 67 = .ok (.iload 6, 2) := by decide +kernel
theorem dX6_enter_69 : decode cX6_enter 69 = .ok (.aload_n 0, 1) := by decide +kernel
theorem dX6_enter_70 : decode cX6_enter 70 = .ok (.getfield 30, 3) := by decide +kernel
theorem dX6_enter_73 : decode cX6_enter 73 = .ok (.if_icmp .ge 108, 3) := by decide +kernel
theorem dX6_enter_76 : decode cX6_enter 76 = .ok (.aload_n 0, 1) := by decide +kernel
theorem dX6_enter_77 : decode cX6_enter 77 = .ok (.getfield 26, 3) := by decide +kernel
theorem dX6_enter_80 : decode cX6_enter 80 = .ok (.aload_n 0, 1) := by decide +kernel
theorem dX6_enter_81 : decode cX6_enter 81 = .ok (.getfield 11, 3) := by decide +kernel
theorem dX6_enter_84 : decode cX6_enter 84 = .ok (.iload 6, 2) := by decide +kernel
theorem dX6_enter_86 : decode cX6_enter 86 = .ok (.iaload, 1) := by decide +kernel
theorem dX6_enter_87 : decode cX6_enter 87 = .ok (.iconst 1, 1) := by decide +kernel
theorem dX6_enter_88 : decode cX6_enter 88 = .ok (.invokevirtual 65, 3) := by decide +kernel
theorem dX6_enter_91 : decode cX6_enter 91 = .ok (.istore 7, 2) := by decide +kernel
theorem dX6_enter_93 : decode cX6_enter 93 = .ok (.aload_n 0, 1) := by decide +kernel
theorem dX6_enter_94 : decode cX6_enter 94 = .ok (.getfield 17, 3) := by decide +kernel
theorem dX6_enter_97 : decode cX6_enter 97 = .ok (.iload 6, 2) := by decide +kernel
theorem dX6_enter_99 : decode cX6_enter 99 = .ok (.aload_n 0, 1) := by decide +kernel
theorem dX6_enter_100 : decode cX6_enter 100 = .ok (.aload_n 0, 1) := by decide +kernel
theorem dX6_enter_101 : decode cX6_enter 101 = .ok (.getfield 17, 3) := by decide +kernel
theorem dX6_enter_104 : decode cX6_enter 104 = .ok (.iload 6, 2) := by decide +kernel
theorem dX6_enter_106 : decode cX6_enter 106 = .ok (.iaload, 1) := by decide +kernel
theorem dX6_enter_107 : decode cX6_enter 107 = .ok (.iload 5, 2) := by decide +kernel
theorem dX6_enter_109 : decode cX6_enter 109 = .ok (.invokevirtual 68, 3) := by decide +kernel
theorem dX6_enter_112 : decode cX6_enter 112 = .ok (.iastore, 1) := by decide +kernel
theorem dX6_enter_113 : decode cX6_enter 113 = .ok (.aload_n 0, 1) := by decide +kernel
theorem dX6_enter_114 : decode cX6_enter 114 = .ok (.getfield 20, 3) := by decide +kernel
theorem dX6_enter_117 : decode cX6_enter 117 = .ok (.iload 6, 2) := by decide +kernel
theorem dX6_enter_119 : decode cX6_enter 119 = .ok (.iload_n 1, 1) := by decide +kernel
theorem dX6_enter_120 : decode cX6_enter 120 = .ok (.iload 7, 2) := by decide +kernel
theorem dX6_enter_122 : decode cX6_enter 122 = .ok (.invokestatic 71, 3) := by decide +kernel
theorem dX6_enter_125 : decode cX6_enter 125 = .ok (.iload_n 2, 1) := by decide +kernel
theorem dX6_enter_126 : decode cX6_enter 126 = .ok (.imul, 1) := by decide +kernel
theorem dX6_enter_127 : decode cX6_enter 127 = .ok (.iload_n 2, 1) := by decide +kernel
theorem dX6_enter_128 : decode cX6_enter 128 = .ok (.imul, 1) := by decide +kernel
theorem dX6_enter_129 : decode cX6_enter 129 = .ok (.aload_n 0, 1) := by decide +kernel
theorem dX6_enter_130 : decode cX6_enter 130 = .ok (.iload 6, 2) := by decide +kernel
theorem dX6_enter_132 : decode cX6_enter 132 = .ok (.invokevirtual 76, 3) := by decide +kernel
theorem dX6_enter_135 : decode cX6_enter 135 = .ok (.imul, 1) := by decide +kernel
theorem dX6_enter_136 : decode cX6_enter 136 = .ok (.sipush 1000, 3) := by decide +kernel
theorem dX6_enter_139 : decode cX6_enter 139 = .ok (.idiv, 1) := by decide +kernel
theorem dX6_enter_140 : decode cX6_enter 140 = .ok (.iastore, 1) := by decide +kernel
theorem dX6_enter_141 : decode cX6_enter 141 = .ok (.aload_n 0, 1) := by decide +kernel
theorem dX6_enter_142 : decode cX6_enter 142 = .ok (.getfield 23, 3) := by decide +kernel
theorem dX6_enter_145 : decode cX6_enter 145 = .ok (.iload 6, 2) := by decide +kernel
theorem dX6_enter_147 : decode cX6_enter 147 = .ok (.iload_n 1, 1) := by decide +kernel
theorem dX6_enter_148 : decode cX6_enter 148 = .ok (.iload 7, 2) := by decide +kernel
theorem dX6_enter_150 : decode cX6_enter 150 = .ok (.if_icmp .ge 21, 3) := by decide +kernel
theorem dX6_enter_153 : decode cX6_enter 153 = .ok (.aload_n 0, 1) := by decide +kernel
theorem dX6_enter_154 : decode cX6_enter 154 = .ok (.getfield 17, 3) := by decide +kernel
theorem dX6_enter_157 : decode cX6_enter 157 = .ok (.iload 6, 2) := by decide +kernel
theorem dX6_enter_159 : decode cX6_enter 159 = .ok (.iaload, 1) := by decide +kernel
theorem dX6_enter_160 : decode cX6_enter 160 = .ok (.aload_n 0, 1) := by decide +kernel
theorem dX6_enter_161 : decode cX6_enter 161 = .ok (.getfield 20, 3) := by decide +kernel
theorem dX6_enter_164 : decode cX6_enter 164 = .ok (.iload 6, 2) := by decide +kernel
theorem dX6_enter_166 : decode cX6_enter 166 = .ok (.iaload, 1) := by decide +kernel
theorem dX6_enter_167 : decode cX6_enter 167 = .ok (.isub, 1) := by decide +kernel
theorem dX6_enter_168 : decode cX6_enter 168 = .ok (.goto 6, 3) := by decide +kernel
theorem dX6_enter_171 : decode cX6_enter 171 = .ok (.sipush (-9999), 3) := by decide +kernel
theorem dX6_enter_174 : decode cX6_enter 174 = .ok (.iastore, 1) := by decide +kernel
theorem dX6_enter_175 : decode cX6_enter 175 = .ok (.iinc 6 1, 3) := by decide +kernel
theorem dX6_enter_178 : decode cX6_enter 178 = .ok (.goto (-111), 3) := by decide +kernel
theorem dX6_enter_181 : decode cX6_enter 181 = .ok (.return_, 1) := by decide +kernel
theorem dX6_holdOf_0 : decode cX6_holdOf 0 = .ok (.aload_n 0, 1) := by decide +kernel
theorem dX6_holdOf_1 : decode cX6_holdOf 1 = .ok (.iload_n 1, 1) := by decide +kernel
theorem dX6_holdOf_2 : decode cX6_holdOf 2 = .ok (.invokevirtual 80, 3) := by decide +kernel
theorem dX6_holdOf_5 : decode cX6_holdOf 5 = .ok (.ifCond .eq 12, 3) := by decide +kernel
theorem dX6_holdOf_8 : decode cX6_holdOf 8 = .ok (.aload_n 0, 1) := by decide +kernel
theorem dX6_holdOf_9 : decode cX6_holdOf 9 = .ok (.getfield 17, 3) := by decide +kernel
theorem dX6_holdOf_12 : decode cX6_holdOf 12 = .ok (.iload_n 1, 1) := by decide +kernel
theorem dX6_holdOf_13 : decode cX6_holdOf 13 = .ok (.iaload, 1) := by decide +kernel
theorem dX6_holdOf_14 : decode cX6_holdOf 14 = .ok (.goto 4, 3) := by decide +kernel
theorem dX6_holdOf_17 : decode cX6_holdOf 17 = .ok (.iconst 0, 1) := by decide +kernel
theorem dX6_holdOf_18 : decode cX6_holdOf 18 = .ok (.ireturn, 1) := by decide +kernel
theorem dX6_pushOn_0 : decode cX6_pushOn 0 = .ok (.aload_n 0, 1) := by decide +kernel
theorem dX6_pushOn_1 : decode cX6_pushOn 1 = .ok (.iload_n 1, 1) := by decide +kernel
theorem dX6_pushOn_2 : decode cX6_pushOn 2 = .ok (.invokevirtual 80, 3) := by decide +kernel
theorem dX6_pushOn_5 : decode cX6_pushOn 5 = .ok (.ifCond .eq 12, 3) := by decide +kernel
theorem dX6_pushOn_8 : decode cX6_pushOn 8 = .ok (.aload_n 0, 1) := by decide +kernel
theorem dX6_pushOn_9 : decode cX6_pushOn 9 = .ok (.getfield 20, 3) := by decide +kernel
theorem dX6_pushOn_12 : decode cX6_pushOn 12 = .ok (.iload_n 1, 1) := by decide +kernel
theorem dX6_pushOn_13 : decode cX6_pushOn 13 = .ok (.iaload, 1) := by decide +kernel
theorem dX6_pushOn_14 : decode cX6_pushOn 14 = .ok (.goto 4, 3) := by decide +kernel
theorem dX6_pushOn_17 : decode cX6_pushOn 17 = .ok (.iconst 0, 1) := by decide +kernel
theorem dX6_pushOn_18 : decode cX6_pushOn 18 = .ok (.ireturn, 1) := by decide +kernel
theorem dX6_marginOf_0 : decode cX6_marginOf 0 = .ok (.aload_n 0, 1) := by decide +kernel
theorem dX6_marginOf_1 : decode cX6_marginOf 1 = .ok (.iload_n 1, 1) := by decide +kernel
theorem dX6_marginOf_2 : decode cX6_marginOf 2 = .ok (.invokevirtual 80, 3) := by decide +kernel
theorem dX6_marginOf_5 : decode cX6_marginOf 5 = .ok (.ifCond .eq 12, 3) := by decide +kernel
theorem dX6_marginOf_8 : decode cX6_marginOf 8 = .ok (.aload_n 0, 1) := by decide +kernel
theorem dX6_marginOf_9 : decode cX6_marginOf 9 = .ok (.getfield 23, 3) := by decide +kernel
theorem dX6_marginOf_12 : decode cX6_marginOf 12 = .ok (.iload_n 1, 1) := by decide +kernel
theorem dX6_marginOf_13 : decode cX6_marginOf 13 = .ok (.iaload, 1) := by decide +kernel
theorem dX6_marginOf_14 : decode cX6_marginOf 14 = .ok (.goto 4, 3) := by decide +kernel
theorem dX6_marginOf_17 : decode cX6_marginOf 17 = .ok (.iconst 0, 1) := by decide +kernel
theorem dX6_marginOf_18 : decode cX6_marginOf 18 = .ok (.ireturn, 1) := by decide +kernel
theorem dX6_leastMargin_0 : decode cX6_leastMargin 0 = .ok (.ldc 85, 2) := by decide +kernel
theorem dX6_leastMargin_2 : decode cX6_leastMargin 2 = .ok (.istore_n 1, 1) := by decide +kernel
theorem dX6_leastMargin_3 : decode cX6_leastMargin 3 = .ok (.iconst 0, 1) := by decide +kernel
theorem dX6_leastMargin_4 : decode cX6_leastMargin 4 = .ok (.istore_n 2, 1) := by decide +kernel
theorem dX6_leastMargin_5 : decode cX6_leastMargin 5 = .ok (.iload_n 2, 1) := by decide +kernel
theorem dX6_leastMargin_6 : decode cX6_leastMargin 6 = .ok (.aload_n 0, 1) := by decide +kernel
theorem dX6_leastMargin_7 : decode cX6_leastMargin 7 = .ok (.getfield 30, 3) := by decide +kernel
theorem dX6_leastMargin_10 : decode cX6_leastMargin 10 = .ok (.if_icmp .ge 20, 3) := by decide +kernel
theorem dX6_leastMargin_13 : decode cX6_leastMargin 13 = .ok (.iload_n 1, 1) := by decide +kernel
theorem dX6_leastMargin_14 : decode cX6_leastMargin 14 = .ok (.aload_n 0, 1) := by decide +kernel
theorem dX6_leastMargin_15 : decode cX6_leastMargin 15 = .ok (.getfield 23, 3) := by decide +kernel
theorem dX6_leastMargin_18 : decode cX6_leastMargin 18 = .ok (.iload_n 2, 1) := by decide +kernel
theorem dX6_leastMargin_19 : decode cX6_leastMargin 19 = .ok (.iaload, 1) := by decide +kernel
theorem dX6_leastMargin_20 : decode cX6_leastMargin 20 = .ok (.invokestatic 71, 3) := by decide +kernel
theorem dX6_leastMargin_23 : decode cX6_leastMargin 23 = .ok (.istore_n 1, 1) := by decide +kernel
theorem dX6_leastMargin_24 : decode cX6_leastMargin 24 = .ok (.iinc 2 1, 3) := by decide +kernel
theorem dX6_leastMargin_27 : decode cX6_leastMargin 27 = .ok (.goto (-22), 3) := by decide +kernel
theorem dX6_leastMargin_30 : decode cX6_leastMargin 30 = .ok (.iload_n 1, 1) := by decide +kernel
theorem dX6_leastMargin_31 : decode cX6_leastMargin 31 = .ok (.ireturn, 1) := by decide +kernel
theorem dX6_firstFaller_0 : decode cX6_firstFaller 0 = .ok (.iconst 0, 1) := by decide +kernel
theorem dX6_firstFaller_1 : decode cX6_firstFaller 1 = .ok (.istore_n 1, 1) := by decide +kernel
theorem dX6_firstFaller_2 : decode cX6_firstFaller 2 = .ok (.iload_n 1, 1) := by decide +kernel
theorem dX6_firstFaller_3 : decode cX6_firstFaller 3 = .ok (.aload_n 0, 1) := by decide +kernel
theorem dX6_firstFaller_4 : decode cX6_firstFaller 4 = .ok (.getfield 30, 3) := by decide +kernel
theorem dX6_firstFaller_7 : decode cX6_firstFaller 7 = .ok (.if_icmp .ge 20, 3) := by decide +kernel
theorem dX6_firstFaller_10 : decode cX6_firstFaller 10 = .ok (.aload_n 0, 1) := by decide +kernel
theorem dX6_firstFaller_11 : decode cX6_firstFaller 11 = .ok (.getfield 23, 3) := by decide +kernel
theorem dX6_firstFaller_14 : decode cX6_firstFaller 14 = .ok (.iload_n 1, 1) := by decide +kernel
theorem dX6_firstFaller_15 : decode cX6_firstFaller 15 = .ok (.iaload, 1) := by decide +kernel
theorem dX6_firstFaller_16 : decode cX6_firstFaller 16 = .ok (.ifCond .ge 5, 3) := by decide +kernel
theorem dX6_firstFaller_19 : decode cX6_firstFaller 19 = .ok (.iload_n 1, 1) := by decide +kernel
theorem dX6_firstFaller_20 : decode cX6_firstFaller 20 = .ok (.ireturn, 1) := by decide +kernel
theorem dX6_firstFaller_21 : decode cX6_firstFaller 21 = .ok (.iinc 1 1, 3) := by decide +kernel
theorem dX6_firstFaller_24 : decode cX6_firstFaller 24 = .ok (.goto (-22), 3) := by decide +kernel
theorem dX6_firstFaller_27 : decode cX6_firstFaller 27 = .ok (.bipush (-2), 2) := by decide +kernel
theorem dX6_firstFaller_29 : decode cX6_firstFaller 29 = .ok (.ireturn, 1) := by decide +kernel
theorem dX6_fallers_0 : decode cX6_fallers 0 = .ok (.iconst 0, 1) := by decide +kernel
theorem dX6_fallers_1 : decode cX6_fallers 1 = .ok (.istore_n 1, 1) := by decide +kernel
theorem dX6_fallers_2 : decode cX6_fallers 2 = .ok (.iconst 0, 1) := by decide +kernel
theorem dX6_fallers_3 : decode cX6_fallers 3 = .ok (.istore_n 2, 1) := by decide +kernel
theorem dX6_fallers_4 : decode cX6_fallers 4 = .ok (.iload_n 2, 1) := by decide +kernel
theorem dX6_fallers_5 : decode cX6_fallers 5 = .ok (.aload_n 0, 1) := by decide +kernel
theorem dX6_fallers_6 : decode cX6_fallers 6 = .ok (.getfield 30, 3) := by decide +kernel
theorem dX6_fallers_9 : decode cX6_fallers 9 = .ok (.if_icmp .ge 24, 3) := by decide +kernel
theorem dX6_fallers_12 : decode cX6_fallers 12 = .ok (.aload_n 0, 1) := by decide +kernel
theorem dX6_fallers_13 : decode cX6_fallers 13 = .ok (.getfield 23, 3) := by decide +kernel
theorem dX6_fallers_16 : decode cX6_fallers 16 = .ok (.iload_n 2, 1) := by decide +kernel
theorem dX6_fallers_17 : decode cX6_fallers 17 = .ok (.iaload, 1) := by decide +kernel
theorem dX6_fallers_18 : decode cX6_fallers 18 = .ok (.ifCond .ge 9, 3) := by decide +kernel
theorem dX6_fallers_21 : decode cX6_fallers 21 = .ok (.iload_n 1, 1) := by decide +kernel
theorem dX6_fallers_22 : decode cX6_fallers 22 = .ok (.iconst 1, 1) := by decide +kernel
theorem dX6_fallers_23 : decode cX6_fallers 23 = .ok (.iload_n 2, 1) := by decide +kernel
theorem dX6_fallers_24 : decode cX6_fallers 24 = .ok (.ishl, 1) := by decide +kernel
theorem dX6_fallers_25 : decode cX6_fallers 25 = .ok (.ior, 1) := by decide +kernel
theorem dX6_fallers_26 : decode cX6_fallers 26 = .ok (.istore_n 1, 1) := by decide +kernel
theorem dX6_fallers_27 : decode cX6_fallers 27 = .ok (.iinc 2 1, 3) := by decide +kernel
theorem dX6_fallers_30 : decode cX6_fallers 30 = .ok (.goto (-26), 3) := by decide +kernel
theorem dX6_fallers_33 : decode cX6_fallers 33 = .ok (.iload_n 1, 1) := by decide +kernel
theorem dX6_fallers_34 : decode cX6_fallers 34 = .ok (.ireturn, 1) := by decide +kernel
theorem dX6_pulledInBy_0 : decode cX6_pulledInBy 0 = .ok (.iconst 1, 1) := by decide +kernel
theorem dX6_pulledInBy_1 : decode cX6_pulledInBy 1 = .ok (.iload_n 1, 1) := by decide +kernel
theorem dX6_pulledInBy_2 : decode cX6_pulledInBy 2 = .ok (.ishl, 1) := by decide +kernel
theorem dX6_pulledInBy_3 : decode cX6_pulledInBy 3 = .ok (.istore_n 2, 1) := by decide +kernel
theorem dX6_pulledInBy_4 : decode cX6_pulledInBy 4 = .ok (.iconst 0, 1) := by decide +kernel
theorem dX6_pulledInBy_5 : decode cX6_pulledInBy 5 = .ok (.istore_n 3, 1) := by decide +kernel
theorem dX6_pulledInBy_6 : decode cX6_pulledInBy 6 = .ok (.iload_n 3, 1) := by decide +kernel
theorem dX6_pulledInBy_7 : decode cX6_pulledInBy 7 = .ok (.aload_n 0, 1) := by decide +kernel
theorem dX6_pulledInBy_8 : decode cX6_pulledInBy 8 = .ok (.getfield 30, 3) := by decide +kernel
theorem dX6_pulledInBy_11 : decode cX6_pulledInBy 11 = .ok (.if_icmp .ge 71, 3) := by decide +kernel
theorem dX6_pulledInBy_14 : decode cX6_pulledInBy 14 = .ok (.iload_n 2, 1) := by decide +kernel
theorem dX6_pulledInBy_15 : decode cX6_pulledInBy 15 = .ok (.istore 4, 2) := by decide +kernel
theorem dX6_pulledInBy_17 : decode cX6_pulledInBy 17 = .ok (.iconst 0, 1) := by decide +kernel
theorem dX6_pulledInBy_18 : decode cX6_pulledInBy 18 = .ok (.istore 5, 2) := by decide +kernel
theorem dX6_pulledInBy_20 : decode cX6_pulledInBy 20 = .ok (.iload 5, 2) := by decide +kernel
theorem dX6_pulledInBy_22 : decode cX6_pulledInBy 22 = .ok (.aload_n 0, 1) := by decide +kernel
theorem dX6_pulledInBy_23 : decode cX6_pulledInBy 23 = .ok (.getfield 30, 3) := by decide +kernel
theorem dX6_pulledInBy_26 : decode cX6_pulledInBy 26 = .ok (.if_icmp .ge 47, 3) := by decide +kernel
theorem dX6_pulledInBy_29 : decode cX6_pulledInBy 29 = .ok (.aload_n 0, 1) := by decide +kernel
theorem dX6_pulledInBy_30 : decode cX6_pulledInBy 30 = .ok (.getfield 23, 3) := by decide +kernel
theorem dX6_pulledInBy_33 : decode cX6_pulledInBy 33 = .ok (.iload 5, 2) := by decide +kernel
theorem dX6_pulledInBy_35 : decode cX6_pulledInBy 35 = .ok (.iaload, 1) := by decide +kernel
theorem dX6_pulledInBy_36 : decode cX6_pulledInBy 36 = .ok (.aload_n 0, 1) := by decide +kernel
theorem dX6_pulledInBy_37 : decode cX6_pulledInBy 37 = .ok (.iload 5, 2) := by decide +kernel
theorem dX6_pulledInBy_39 : decode cX6_pulledInBy 39 = .ok (.iconst 1, 1) := by decide +kernel
theorem dX6_pulledInBy_40 : decode cX6_pulledInBy 40 = .ok (.isub, 1) := by decide +kernel
theorem dX6_pulledInBy_41 : decode cX6_pulledInBy 41 = .ok (.iload_n 2, 1) := by decide +kernel
theorem dX6_pulledInBy_42 : decode cX6_pulledInBy 42 = .ok (.invokevirtual 86, 3) := by decide +kernel
theorem dX6_pulledInBy_45 : decode cX6_pulledInBy 45 = .ok (.aload_n 0, 1) := by decide +kernel
theorem dX6_pulledInBy_46 : decode cX6_pulledInBy 46 = .ok (.iload 5, 2) := by decide +kernel
theorem dX6_pulledInBy_48 : decode cX6_pulledInBy 48 = .ok (.iconst 1, 1) := by decide +kernel
theorem dX6_pulledInBy_49 : decode cX6_pulledInBy 49 = .ok (.iadd, 1) := by decide +kernel
theorem dX6_pulledInBy_50 : decode cX6_pulledInBy 50 = .ok (.iload_n 2, 1) := by decide +kernel
theorem dX6_pulledInBy_51 : decode cX6_pulledInBy 51 = .ok (.invokevirtual 86, 3) := by decide +kernel
theorem dX6_pulledInBy_54 : decode cX6_pulledInBy 54 = .ok (.iadd, 1) := by decide +kernel
theorem dX6_pulledInBy_55 : decode cX6_pulledInBy 55 = .ok (.if_icmp .ge 12, 3) := by decide +kernel
theorem dX6_pulledInBy_58 : decode cX6_pulledInBy 58 = .ok (.iload 4, 2) := by decide +kernel
theorem dX6_pulledInBy_60 : decode cX6_pulledInBy 60 = .ok (.iconst 1, 1) := by decide +kernel
theorem dX6_pulledInBy_61 : decode cX6_pulledInBy 61 = .ok (.iload 5, 2) := by decide +kernel
theorem dX6_pulledInBy_63 : decode cX6_pulledInBy 63 = .ok (.ishl, 1) := by decide +kernel
theorem dX6_pulledInBy_64 : decode cX6_pulledInBy 64 = .ok (.ior, 1) := by decide +kernel
theorem dX6_pulledInBy_65 : decode cX6_pulledInBy 65 = .ok (.istore 4, 2) := by decide +kernel
theorem dX6_pulledInBy_67 : decode cX6_pulledInBy 67 = .ok (.iinc 5 1, 3) := by decide +kernel
theorem dX6_pulledInBy_70 : decode cX6_pulledInBy 70 = .ok (.goto (-50), 3) := by decide +kernel
theorem dX6_pulledInBy_73 : decode cX6_pulledInBy 73 = .ok (.iload 4, 2) := by decide +kernel
theorem dX6_pulledInBy_75 : decode cX6_pulledInBy 75 = .ok (.istore_n 2, 1) := by decide +kernel
theorem dX6_pulledInBy_76 : decode cX6_pulledInBy 76 = .ok (.iinc 3 1, 3) := by decide +kernel
theorem dX6_pulledInBy_79 : decode cX6_pulledInBy 79 = .ok (.goto (-73), 3) := by decide +kernel
theorem dX6_pulledInBy_82 : decode cX6_pulledInBy 82 = .ok (.iload_n 2, 1) := by decide +kernel
theorem dX6_pulledInBy_83 : decode cX6_pulledInBy 83 = .ok (.ireturn, 1) := by decide +kernel
theorem dX6_putInOrder_0 : decode cX6_putInOrder 0 = .ok (.iconst 1, 1) := by decide +kernel
theorem dX6_putInOrder_1 : decode cX6_putInOrder 1 = .ok (.istore_n 1, 1) := by decide +kernel
theorem dX6_putInOrder_2 : decode cX6_putInOrder 2 = .ok (.iload_n 1, 1) := by decide +kernel
theorem dX6_putInOrder_3 : decode cX6_putInOrder 3 = .ok (.aload_n 0, 1) := by decide +kernel
theorem dX6_putInOrder_4 : decode cX6_putInOrder 4 = .ok (.getfield 30, 3) := by decide +kernel
theorem dX6_putInOrder_7 : decode cX6_putInOrder 7 = .ok (.if_icmp .ge 46, 3) := by decide +kernel
theorem dX6_putInOrder_10 : decode cX6_putInOrder 10 = .ok (.iload_n 1, 1) := by decide +kernel
theorem dX6_putInOrder_11 : decode cX6_putInOrder 11 = .ok (.istore_n 2, 1) := by decide +kernel
theorem dX6_putInOrder_12 : decode cX6_putInOrder 12 = .ok (.iload_n 2, 1) := by decide +kernel
theorem dX6_putInOrder_13 : decode cX6_putInOrder 13 = .ok (.ifCond .le 34, 3) := by decide +kernel
theorem dX6_putInOrder_16 : decode cX6_putInOrder 16 = .ok (.aload_n 0, 1) := by decide +kernel
theorem dX6_putInOrder_17 : decode cX6_putInOrder 17 = .ok (.getfield 11, 3) := by decide +kernel
theorem dX6_putInOrder_20 : decode cX6_putInOrder 20 = .ok (.iload_n 2, 1) := by decide +kernel
theorem dX6_putInOrder_21 : decode cX6_putInOrder 21 = .ok (.iconst 1, 1) := by decide +kernel
theorem dX6_putInOrder_22 : decode cX6_putInOrder 22 = .ok (.isub, 1) := by decide +kernel
theorem dX6_putInOrder_23 : decode cX6_putInOrder 23 = .ok (.iaload, 1) := by decide +kernel
theorem dX6_putInOrder_24 : decode cX6_putInOrder 24 = .ok (.aload_n 0, 1) := by decide +kernel
theorem dX6_putInOrder_25 : decode cX6_putInOrder 25 = .ok (.getfield 11, 3) := by decide +kernel
theorem dX6_putInOrder_28 : decode cX6_putInOrder 28 = .ok (.iload_n 2, 1) := by decide +kernel
theorem dX6_putInOrder_29 : decode cX6_putInOrder 29 = .ok (.iaload, 1) := by decide +kernel
theorem dX6_putInOrder_30 : decode cX6_putInOrder 30 = .ok (.if_icmp .le 17, 3) := by decide +kernel
theorem dX6_putInOrder_33 : decode cX6_putInOrder 33 = .ok (.aload_n 0, 1) := by decide +kernel
theorem dX6_putInOrder_34 : decode cX6_putInOrder 34 = .ok (.iload_n 2, 1) := by decide +kernel
theorem dX6_putInOrder_35 : decode cX6_putInOrder 35 = .ok (.iconst 1, 1) := by decide +kernel
theorem dX6_putInOrder_36 : decode cX6_putInOrder 36 = .ok (.isub, 1) := by decide +kernel
theorem dX6_putInOrder_37 : decode cX6_putInOrder 37 = .ok (.iload_n 2, 1) := by decide +kernel
theorem dX6_putInOrder_38 : decode cX6_putInOrder 38 = .ok (.invokevirtual 89, 3) := by decide +kernel
theorem dX6_putInOrder_41 : decode cX6_putInOrder 41 = .ok (.iinc 2 (-1), 3) := by decide +kernel
theorem dX6_putInOrder_44 : decode cX6_putInOrder 44 = .ok (.goto (-32), 3) := by decide +kernel
theorem dX6_putInOrder_47 : decode cX6_putInOrder 47 = .ok (.iinc 1 1, 3) := by decide +kernel
theorem dX6_putInOrder_50 : decode cX6_putInOrder 50 = .ok (.goto (-48), 3) := by decide +kernel
theorem dX6_putInOrder_53 : decode cX6_putInOrder 53 = .ok (.return_, 1) := by decide +kernel
theorem dX6_goOnToNextOrder_0 : decode cX6_goOnToNextOrder 0 = .ok (.aload_n 0, 1) := by decide +kernel
theorem dX6_goOnToNextOrder_1 : decode cX6_goOnToNextOrder 1 = .ok (.getfield 30, 3) := by decide +kernel
theorem dX6_goOnToNextOrder_4 : decode cX6_goOnToNextOrder 4 = .ok (.iconst 2, 1) := by decide +kernel
theorem dX6_goOnToNextOrder_5 : decode cX6_goOnToNextOrder 5 = .ok (.isub, 1) := by decide +kernel
theorem dX6_goOnToNextOrder_6 : decode cX6_goOnToNextOrder 6 = .ok (.istore_n 1, 1) := by decide +kernel
theorem dX6_goOnToNextOrder_7 : decode cX6_goOnToNextOrder 7 = .ok (.iload_n 1, 1) := by decide +kernel
theorem dX6_goOnToNextOrder_8 : decode cX6_goOnToNextOrder 8 = .ok (.ifCond .lt 26, 3) := by decide +kernel
theorem dX6_goOnToNextOrder_11 : decode cX6_goOnToNextOrder 11 = .ok (.aload_n 0, 1) := by decide +kernel
theorem dX6_goOnToNextOrder_12 : decode cX6_goOnToNextOrder 12 = .ok (.getfield 11, 3) := by decide +kernel
theorem dX6_goOnToNextOrder_15 : decode cX6_goOnToNextOrder 15 = .ok (.iload_n 1, 1) := by decide +kernel
theorem dX6_goOnToNextOrder_16 : decode cX6_goOnToNextOrder 16 = .ok (.iaload, 1) := by decide +kernel
theorem dX6_goOnToNextOrder_17 : decode cX6_goOnToNextOrder 17 = .ok (.aload_n 0, 1) := by decide +kernel
theorem dX6_goOnToNextOrder_18 : decode cX6_goOnToNextOrder 18 = .ok (.getfield 11, 3) := by decide +kernel
theorem dX6_goOnToNextOrder_21 : decode cX6_goOnToNextOrder 21 = .ok (.iload_n 1, 1) := by decide +kernel
theorem dX6_goOnToNextOrder_22 : decode cX6_goOnToNextOrder 22 = .ok (.iconst 1, 1) := by decide +kernel
theorem dX6_goOnToNextOrder_23 : decode cX6_goOnToNextOrder 23 = .ok (.iadd, 1) := by decide +kernel
theorem dX6_goOnToNextOrder_24 : decode cX6_goOnToNextOrder 24 = .ok (.iaload, 1) := by decide +kernel
theorem dX6_goOnToNextOrder_25 : decode cX6_goOnToNextOrder 25 = .ok (.if_icmp .le 9, 3) := by decide +kernel
theorem dX6_goOnToNextOrder_28 : decode cX6_goOnToNextOrder 28 = .ok (.iinc 1 (-1), 3) := by decide +kernel
theorem dX6_goOnToNextOrder_31 : decode cX6_goOnToNextOrder 31 = .ok (.goto (-24), 3) := by decide +kernel
theorem dX6_goOnToNextOrder_34 : decode cX6_goOnToNextOrder 34 = .ok (.iload_n 1, 1) := by decide +kernel
theorem dX6_goOnToNextOrder_35 : decode cX6_goOnToNextOrder 35 = .ok (.ifCond .ge 5, 3) := by decide +kernel
theorem dX6_goOnToNextOrder_38 : decode cX6_goOnToNextOrder 38 = .ok (.iconst 0, 1) := by decide +kernel
theorem dX6_goOnToNextOrder_39 : decode cX6_goOnToNextOrder 39 = .ok (.ireturn, 1) := by decide +kernel
theorem dX6_goOnToNextOrder_40 : decode cX6_goOnToNextOrder 40 = .ok (.aload_n 0, 1) := by decide +kernel
theorem dX6_goOnToNextOrder_41 : decode cX6_goOnToNextOrder 41 = .ok (.getfield 30, 3) := by decide +kernel
theorem dX6_goOnToNextOrder_44 : decode cX6_goOnToNextOrder 44 = .ok (.iconst 1, 1) := by decide +kernel
theorem dX6_goOnToNextOrder_45 : decode cX6_goOnToNextOrder 45 = .ok (.isub, 1) := by decide +kernel
theorem dX6_goOnToNextOrder_46 : decode cX6_goOnToNextOrder 46 = .ok (.istore_n 2, 1) := by decide +kernel
theorem dX6_goOnToNextOrder_47 : decode cX6_goOnToNextOrder 47 = .ok (.iload_n 2, 1) := by decide +kernel
theorem dX6_goOnToNextOrder_48 : decode cX6_goOnToNextOrder 48 = .ok (.iload_n 1, 1) := by decide +kernel
theorem dX6_goOnToNextOrder_49 : decode cX6_goOnToNextOrder 49 = .ok (.if_icmp .le 24, 3) := by decide +kernel
theorem dX6_goOnToNextOrder_52 : decode cX6_goOnToNextOrder 52 = .ok (.aload_n 0, 1) := by decide +kernel
theorem dX6_goOnToNextOrder_53 : decode cX6_goOnToNextOrder 53 = .ok (.getfield 11, 3) := by decide +kernel
theorem dX6_goOnToNextOrder_56 : decode cX6_goOnToNextOrder 56 = .ok (.iload_n 2, 1) := by decide +kernel
theorem dX6_goOnToNextOrder_57 : decode cX6_goOnToNextOrder 57 = .ok (.iaload, 1) := by decide +kernel
theorem dX6_goOnToNextOrder_58 : decode cX6_goOnToNextOrder 58 = .ok (.aload_n 0, 1) := by decide +kernel
theorem dX6_goOnToNextOrder_59 : decode cX6_goOnToNextOrder 59 = .ok (.getfield 11, 3) := by decide +kernel
theorem dX6_goOnToNextOrder_62 : decode cX6_goOnToNextOrder 62 = .ok (.iload_n 1, 1) := by decide +kernel
theorem dX6_goOnToNextOrder_63 : decode cX6_goOnToNextOrder 63 = .ok (.iaload, 1) := by decide +kernel
theorem dX6_goOnToNextOrder_64 : decode cX6_goOnToNextOrder 64 = .ok (.if_icmp .ge 9, 3) := by decide +kernel
theorem dX6_goOnToNextOrder_67 : decode cX6_goOnToNextOrder 67 = .ok (.iinc 2 (-1), 3) := by decide +kernel
theorem dX6_goOnToNextOrder_70 : decode cX6_goOnToNextOrder 70 = .ok (.goto (-23), 3) := by decide +kernel
theorem dX6_goOnToNextOrder_73 : decode cX6_goOnToNextOrder 73 = .ok (.aload_n 0, 1) := by decide +kernel
theorem dX6_goOnToNextOrder_74 : decode cX6_goOnToNextOrder 74 = .ok (.iload_n 1, 1) := by decide +kernel
theorem dX6_goOnToNextOrder_75 : decode cX6_goOnToNextOrder 75 = .ok (.iload_n 2, 1) := by decide +kernel
theorem dX6_goOnToNextOrder_76 : decode cX6_goOnToNextOrder 76 = .ok (.invokevirtual 89, 3) := by decide +kernel
theorem dX6_goOnToNextOrder_79 : decode cX6_goOnToNextOrder 79 = .ok (.aload_n 0, 1) := by decide +kernel
theorem dX6_goOnToNextOrder_80 : decode cX6_goOnToNextOrder 80 = .ok (.iload_n 1, 1) := by decide +kernel
theorem dX6_goOnToNextOrder_81 : decode cX6_goOnToNextOrder 81 = .ok (.iconst 1, 1) := by decide +kernel
theorem dX6_goOnToNextOrder_82 : decode cX6_goOnToNextOrder 82 = .ok (.iadd, 1) := by decide +kernel
theorem dX6_goOnToNextOrder_83 : decode cX6_goOnToNextOrder 83 = .ok (.aload_n 0, 1) := by decide +kernel
theorem dX6_goOnToNextOrder_84 : decode cX6_goOnToNextOrder 84 = .ok (.getfield 30, 3) := by decide +kernel
theorem dX6_goOnToNextOrder_87 : decode cX6_goOnToNextOrder 87 = .ok (.iconst 1, 1) := by decide +kernel
theorem dX6_goOnToNextOrder_88 : decode cX6_goOnToNextOrder 88 = .ok (.isub, 1) := by decide +kernel
theorem dX6_goOnToNextOrder_89 : decode cX6_goOnToNextOrder 89 = .ok (.invokevirtual 50, 3) := by decide +kernel
theorem dX6_goOnToNextOrder_92 : decode cX6_goOnToNextOrder 92 = .ok (.iconst 1, 1) := by decide +kernel
theorem dX6_goOnToNextOrder_93 : decode cX6_goOnToNextOrder 93 = .ok (.ireturn, 1) := by decide +kernel
theorem dX6_asDigits_0 : decode cX6_asDigits 0 = .ok (.iconst 0, 1) := by decide +kernel
theorem dX6_asDigits_1 : decode cX6_asDigits 1 = .ok (.istore_n 1, 1) := by decide +kernel
theorem dX6_asDigits_2 : decode cX6_asDigits 2 = .ok (.iconst 0, 1) := by decide +kernel
theorem dX6_asDigits_3 : decode cX6_asDigits 3 = .ok (.istore_n 2, 1) := by decide +kernel
theorem dX6_asDigits_4 : decode cX6_asDigits 4 = .ok (.iload_n 2, 1) := by decide +kernel
theorem dX6_asDigits_5 : decode cX6_asDigits 5 = .ok (.aload_n 0, 1) := by decide +kernel
theorem dX6_asDigits_6 : decode cX6_asDigits 6 = .ok (.getfield 30, 3) := by decide +kernel
theorem dX6_asDigits_9 : decode cX6_asDigits 9 = .ok (.if_icmp .ge 23, 3) := by decide +kernel
theorem dX6_asDigits_12 : decode cX6_asDigits 12 = .ok (.bipush 10, 2) := by decide +kernel
theorem dX6_asDigits_14 : decode cX6_asDigits 14 = .ok (.iload_n 1, 1) := by decide +kernel
theorem dX6_asDigits_15 : decode cX6_asDigits 15 = .ok (.imul, 1) := by decide +kernel
theorem dX6_asDigits_16 : decode cX6_asDigits 16 = .ok (.aload_n 0, 1) := by decide +kernel
theorem dX6_asDigits_17 : decode cX6_asDigits 17 = .ok (.getfield 11, 3) := by decide +kernel
theorem dX6_asDigits_20 : decode cX6_asDigits 20 = .ok (.iload_n 2, 1) := by decide +kernel
theorem dX6_asDigits_21 : decode cX6_asDigits 21 = .ok (.iaload, 1) := by decide +kernel
theorem dX6_asDigits_22 : decode cX6_asDigits 22 = .ok (.iadd, 1) := by decide +kernel
theorem dX6_asDigits_23 : decode cX6_asDigits 23 = .ok (.iconst 1, 1) := by decide +kernel
theorem dX6_asDigits_24 : decode cX6_asDigits 24 = .ok (.iadd, 1) := by decide +kernel
theorem dX6_asDigits_25 : decode cX6_asDigits 25 = .ok (.istore_n 1, 1) := by decide +kernel
theorem dX6_asDigits_26 : decode cX6_asDigits 26 = .ok (.iinc 2 1, 3) := by decide +kernel
theorem dX6_asDigits_29 : decode cX6_asDigits 29 = .ok (.goto (-25), 3) := by decide +kernel
theorem dX6_asDigits_32 : decode cX6_asDigits 32 = .ok (.iload_n 1, 1) := by decide +kernel
theorem dX6_asDigits_33 : decode cX6_asDigits 33 = .ok (.ireturn, 1) := by decide +kernel
theorem dX6_isRank_0 : decode cX6_isRank 0 = .ok (.iload_n 1, 1) := by decide +kernel
theorem dX6_isRank_1 : decode cX6_isRank 1 = .ok (.ifCond .lt 15, 3) := by decide +kernel
theorem dX6_isRank_4 : decode cX6_isRank 4 = .ok (.iload_n 1, 1) := by decide +kernel
theorem dX6_isRank_5 : decode cX6_isRank 5 = .ok (.aload_n 0, 1) := by decide +kernel
theorem dX6_isRank_6 : decode cX6_isRank 6 = .ok (.getfield 30, 3) := by decide +kernel
theorem dX6_isRank_9 : decode cX6_isRank 9 = .ok (.if_icmp .ge 7, 3) := by decide +kernel
theorem dX6_isRank_12 : decode cX6_isRank 12 = .ok (.iconst 1, 1) := by decide +kernel
theorem dX6_isRank_13 : decode cX6_isRank 13 = .ok (.goto 4, 3) := by decide +kernel
theorem dX6_isRank_16 : decode cX6_isRank 16 = .ok (.iconst 0, 1) := by decide +kernel
theorem dX6_isRank_17 : decode cX6_isRank 17 = .ok (.ireturn, 1) := by decide +kernel
theorem dX6_holdAlike_0 : decode cX6_holdAlike 0 = .ok (.aload_n 0, 1) := by decide +kernel
theorem dX6_holdAlike_1 : decode cX6_holdAlike 1 = .ok (.getfield 26, 3) := by decide +kernel
theorem dX6_holdAlike_4 : decode cX6_holdAlike 4 = .ok (.iload_n 1, 1) := by decide +kernel
theorem dX6_holdAlike_5 : decode cX6_holdAlike 5 = .ok (.iconst 0, 1) := by decide +kernel
theorem dX6_holdAlike_6 : decode cX6_holdAlike 6 = .ok (.invokevirtual 65, 3) := by decide +kernel
theorem dX6_holdAlike_9 : decode cX6_holdAlike 9 = .ok (.istore 4, 2) := by decide +kernel
theorem dX6_holdAlike_11 : decode cX6_holdAlike 11 = .ok (.aload_n 0, 1) := by decide +kernel
theorem dX6_holdAlike_12 : decode cX6_holdAlike 12 = .ok (.getfield 26, 3) := by decide +kernel
theorem dX6_holdAlike_15 : decode cX6_holdAlike 15 = .ok (.iload_n 1, 1) := by decide +kernel
theorem dX6_holdAlike_16 : decode cX6_holdAlike 16 = .ok (.iconst 1, 1) := by decide +kernel
theorem dX6_holdAlike_17 : decode cX6_holdAlike 17 = .ok (.invokevirtual 65, 3) := by decide +kernel
theorem dX6_holdAlike_20 : decode cX6_holdAlike 20 = .ok (.istore 5, 2) := by decide +kernel
theorem dX6_holdAlike_22 : decode cX6_holdAlike 22 = .ok (.iload 4, 2) := by decide +kernel
theorem dX6_holdAlike_24 : decode cX6_holdAlike 24 = .ok (.iload_n 2, 1) := by decide +kernel
theorem dX6_holdAlike_25 : decode cX6_holdAlike 25 = .ok (.iload 5, 2) := by decide +kernel
theorem dX6_holdAlike_27 : decode cX6_holdAlike 27 = .ok (.invokestatic 71, 3) := by decide +kernel
theorem dX6_holdAlike_30 : decode cX6_holdAlike 30 = .ok (.imul, 1) := by decide +kernel
theorem dX6_holdAlike_31 : decode cX6_holdAlike 31 = .ok (.iload 5, 2) := by decide +kernel
theorem dX6_holdAlike_33 : decode cX6_holdAlike 33 = .ok (.invokestatic 61, 3) := by decide +kernel
theorem dX6_holdAlike_36 : decode cX6_holdAlike 36 = .ok (.istore 6, 2) := by decide +kernel
theorem dX6_holdAlike_38 : decode cX6_holdAlike 38 = .ok (.iload 4, 2) := by decide +kernel
theorem dX6_holdAlike_40 : decode cX6_holdAlike 40 = .ok (.aload_n 0, 1) := by decide +kernel
theorem dX6_holdAlike_41 : decode cX6_holdAlike 41 = .ok (.getfield 26, 3) := by decide +kernel
theorem dX6_holdAlike_44 : decode cX6_holdAlike 44 = .ok (.iload_n 1, 1) := by decide +kernel
theorem dX6_holdAlike_45 : decode cX6_holdAlike 45 = .ok (.iconst 3, 1) := by decide +kernel
theorem dX6_holdAlike_46 : decode cX6_holdAlike 46 = .ok (.invokevirtual 65, 3) := by decide +kernel
theorem dX6_holdAlike_49 : decode cX6_holdAlike 49 = .ok (.iadd, 1) := by decide +kernel
theorem dX6_holdAlike_50 : decode cX6_holdAlike 50 = .ok (.iload 6, 2) := by decide +kernel
theorem dX6_holdAlike_52 : decode cX6_holdAlike 52 = .ok (.isub, 1) := by decide +kernel
theorem dX6_holdAlike_53 : decode cX6_holdAlike 53 = .ok (.iload_n 3, 1) := by decide +kernel
theorem dX6_holdAlike_54 : decode cX6_holdAlike 54 = .ok (.aload_n 0, 1) := by decide +kernel
theorem dX6_holdAlike_55 : decode cX6_holdAlike 55 = .ok (.getfield 26, 3) := by decide +kernel
theorem dX6_holdAlike_58 : decode cX6_holdAlike 58 = .ok (.iload_n 1, 1) := by decide +kernel
theorem dX6_holdAlike_59 : decode cX6_holdAlike 59 = .ok (.iconst 2, 1) := by decide +kernel
theorem dX6_holdAlike_60 : decode cX6_holdAlike 60 = .ok (.invokevirtual 65, 3) := by decide +kernel
theorem dX6_holdAlike_63 : decode cX6_holdAlike 63 = .ok (.iadd, 1) := by decide +kernel
theorem dX6_holdAlike_64 : decode cX6_holdAlike 64 = .ok (.imul, 1) := by decide +kernel
theorem dX6_holdAlike_65 : decode cX6_holdAlike 65 = .ok (.ireturn, 1) := by decide +kernel
theorem dX6_holdInForm_0 : decode cX6_holdInForm 0 = .ok (.aload_n 0, 1) := by decide +kernel
theorem dX6_holdInForm_1 : decode cX6_holdInForm 1 = .ok (.getfield 34, 3) := by decide +kernel
theorem dX6_holdInForm_4 : decode cX6_holdInForm 4 = .ok (.ifCond .ne 12, 3) := by decide +kernel
theorem dX6_holdInForm_7 : decode cX6_holdInForm 7 = .ok (.iload_n 1, 1) := by decide +kernel
theorem dX6_holdInForm_8 : decode cX6_holdInForm 8 = .ok (.iload_n 1, 1) := by decide +kernel
theorem dX6_holdInForm_9 : decode cX6_holdInForm 9 = .ok (.bipush 10, 2) := by decide +kernel
theorem dX6_holdInForm_11 : decode cX6_holdInForm 11 = .ok (.idiv, 1) := by decide +kernel
theorem dX6_holdInForm_12 : decode cX6_holdInForm 12 = .ok (.iadd, 1) := by decide +kernel
theorem dX6_holdInForm_13 : decode cX6_holdInForm 13 = .ok (.goto 20, 3) := by decide +kernel
theorem dX6_holdInForm_16 : decode cX6_holdInForm 16 = .ok (.aload_n 0, 1) := by decide +kernel
theorem dX6_holdInForm_17 : decode cX6_holdInForm 17 = .ok (.getfield 34, 3) := by decide +kernel
theorem dX6_holdInForm_20 : decode cX6_holdInForm 20 = .ok (.iconst 3, 1) := by decide +kernel
theorem dX6_holdInForm_21 : decode cX6_holdInForm 21 = .ok (.if_icmp .ne 11, 3) := by decide +kernel
theorem dX6_holdInForm_24 : decode cX6_holdInForm 24 = .ok (.iload_n 1, 1) := by decide +kernel
theorem dX6_holdInForm_25 : decode cX6_holdInForm 25 = .ok (.iload_n 2, 1) := by decide +kernel
theorem dX6_holdInForm_26 : decode cX6_holdInForm 26 = .ok (.iadd, 1) := by decide +kernel
theorem dX6_holdInForm_27 : decode cX6_holdInForm 27 = .ok (.iconst 2, 1) := by decide +kernel
theorem dX6_holdInForm_28 : decode cX6_holdInForm 28 = .ok (.idiv, 1) := by decide +kernel
theorem dX6_holdInForm_29 : decode cX6_holdInForm 29 = .ok (.goto 4, 3) := by decide +kernel
theorem dX6_holdInForm_32 : decode cX6_holdInForm 32 = .ok (.iload_n 1, 1) := by decide +kernel
theorem dX6_holdInForm_33 : decode cX6_holdInForm 33 = .ok (.ireturn, 1) := by decide +kernel
theorem dX6_leeOf_0 : decode cX6_leeOf 0 = .ok (.aload_n 0, 1) := by decide +kernel
theorem dX6_leeOf_1 : decode cX6_leeOf 1 = .ok (.getfield 34, 3) := by decide +kernel
theorem dX6_leeOf_4 : decode cX6_leeOf 4 = .ok (.tableswitch 66 1 4 #[32, 40, 66, 63], 32) := by decide +kernel
theorem dX6_leeOf_36 : decode cX6_leeOf 36 = .ok (.bipush 100, 2) := by decide +kernel
theorem dX6_leeOf_38 : decode cX6_leeOf 38 = .ok (.bipush 15, 2) := by decide +kernel
theorem dX6_leeOf_40 : decode cX6_leeOf 40 = .ok (.iload_n 1, 1) := by decide +kernel
theorem dX6_leeOf_41 : decode cX6_leeOf 41 = .ok (.imul, 1) := by decide +kernel
theorem dX6_leeOf_42 : decode cX6_leeOf 42 = .ok (.isub, 1) := by decide +kernel
theorem dX6_leeOf_43 : decode cX6_leeOf 43 = .ok (.ireturn, 1) := by decide +kernel
theorem dX6_leeOf_44 : decode cX6_leeOf 44 = .ok (.iload_n 1, 1) := by decide +kernel
theorem dX6_leeOf_45 : decode cX6_leeOf 45 = .ok (.ifCond .lt 19, 3) := by decide +kernel
theorem dX6_leeOf_48 : decode cX6_leeOf 48 = .ok (.iload_n 1, 1) := by decide +kernel
theorem dX6_leeOf_49 : decode cX6_leeOf 49 = .ok (.getstatic 92, 3) := by decide +kernel
theorem dX6_leeOf_52 : decode cX6_leeOf 52 = .ok (.arraylength, 1) := by decide +kernel
theorem dX6_leeOf_53 : decode cX6_leeOf 53 = .ok (.if_icmp .ge 11, 3) := by decide +kernel
theorem dX6_leeOf_56 : decode cX6_leeOf 56 = .ok (.getstatic 92, 3) := by decide +kernel
theorem dX6_leeOf_59 : decode cX6_leeOf 59 = .ok (.iload_n 1, 1) := by decide +kernel
theorem dX6_leeOf_60 : decode cX6_leeOf 60 = .ok (.iaload, 1) := by decide +kernel
theorem dX6_leeOf_61 : decode cX6_leeOf 61 = .ok (.goto 5, 3) := by decide +kernel
theorem dX6_leeOf_64 : decode cX6_leeOf 64 = .ok (.bipush 100, 2) := by decide +kernel
theorem dX6_leeOf_66 : decode cX6_leeOf 66 = .ok (.ireturn, 1) := by decide +kernel
theorem dX6_leeOf_67 : decode cX6_leeOf 67 = .ok (.bipush 40, 2) := by decide +kernel
theorem dX6_leeOf_69 : decode cX6_leeOf 69 = .ok (.ireturn, 1) := by decide +kernel
theorem dX6_leeOf_70 : decode cX6_leeOf 70 = .ok (.bipush 100, 2) := by decide +kernel
theorem dX6_leeOf_72 : decode cX6_leeOf 72 = .ok (.ireturn, 1) := by decide +kernel
theorem dX6_pullOf_0 : decode cX6_pullOf 0 = .ok (.aload_n 0, 1) := by decide +kernel
theorem dX6_pullOf_1 : decode cX6_pullOf 1 = .ok (.iload_n 1, 1) := by decide +kernel
theorem dX6_pullOf_2 : decode cX6_pullOf 2 = .ok (.invokevirtual 80, 3) := by decide +kernel
theorem dX6_pullOf_5 : decode cX6_pullOf 5 = .ok (.ifCond .eq 22, 3) := by decide +kernel
theorem dX6_pullOf_8 : decode cX6_pullOf 8 = .ok (.iload_n 2, 1) := by decide +kernel
theorem dX6_pullOf_9 : decode cX6_pullOf 9 = .ok (.iload_n 1, 1) := by decide +kernel
theorem dX6_pullOf_10 : decode cX6_pullOf 10 = .ok (.invokestatic 46, 3) := by decide +kernel
theorem dX6_pullOf_13 : decode cX6_pullOf 13 = .ok (.ifCond .eq 14, 3) := by decide +kernel
theorem dX6_pullOf_16 : decode cX6_pullOf 16 = .ok (.aload_n 0, 1) := by decide +kernel
theorem dX6_pullOf_17 : decode cX6_pullOf 17 = .ok (.getfield 20, 3) := by decide +kernel
theorem dX6_pullOf_20 : decode cX6_pullOf 20 = .ok (.iload_n 1, 1) := by decide +kernel
theorem dX6_pullOf_21 : decode cX6_pullOf 21 = .ok (.iaload, 1) := by decide +kernel
theorem dX6_pullOf_22 : decode cX6_pullOf 22 = .ok (.iconst 2, 1) := by decide +kernel
theorem dX6_pullOf_23 : decode cX6_pullOf 23 = .ok (.idiv, 1) := by decide +kernel
theorem dX6_pullOf_24 : decode cX6_pullOf 24 = .ok (.goto 4, 3) := by decide +kernel
theorem dX6_pullOf_27 : decode cX6_pullOf 27 = .ok (.iconst 0, 1) := by decide +kernel
theorem dX6_pullOf_28 : decode cX6_pullOf 28 = .ok (.ireturn, 1) := by decide +kernel
theorem dX6_swap_0 : decode cX6_swap 0 = .ok (.aload_n 0, 1) := by decide +kernel
theorem dX6_swap_1 : decode cX6_swap 1 = .ok (.getfield 11, 3) := by decide +kernel
theorem dX6_swap_4 : decode cX6_swap 4 = .ok (.iload_n 1, 1) := by decide +kernel
theorem dX6_swap_5 : decode cX6_swap 5 = .ok (.iaload, 1) := by decide +kernel
theorem dX6_swap_6 : decode cX6_swap 6 = .ok (.istore_n 3, 1) := by decide +kernel
theorem dX6_swap_7 : decode cX6_swap 7 = .ok (.aload_n 0, 1) := by decide +kernel
theorem dX6_swap_8 : decode cX6_swap 8 = .ok (.getfield 11, 3) := by decide +kernel
theorem dX6_swap_11 : decode cX6_swap 11 = .ok (.iload_n 1, 1) := by decide +kernel
theorem dX6_swap_12 : decode cX6_swap 12 = .ok (.aload_n 0, 1) := by decide +kernel
theorem dX6_swap_13 : decode cX6_swap 13 = .ok (.getfield 11, 3) := by decide +kernel
theorem dX6_swap_16 : decode cX6_swap 16 = .ok (.iload_n 2, 1) := by decide +kernel
theorem dX6_swap_17 : decode cX6_swap 17 = .ok (.iaload, 1) := by decide +kernel
theorem dX6_swap_18 : decode cX6_swap 18 = .ok (.iastore, 1) := by decide +kernel
theorem dX6_swap_19 : decode cX6_swap 19 = .ok (.aload_n 0, 1) := by decide +kernel
theorem dX6_swap_20 : decode cX6_swap 20 = .ok (.getfield 11, 3) := by decide +kernel
theorem dX6_swap_23 : decode cX6_swap 23 = .ok (.iload_n 2, 1) := by decide +kernel
theorem dX6_swap_24 : decode cX6_swap 24 = .ok (.iload_n 3, 1) := by decide +kernel
theorem dX6_swap_25 : decode cX6_swap 25 = .ok (.iastore, 1) := by decide +kernel
theorem dX6_swap_26 : decode cX6_swap 26 = .ok (.return_, 1) := by decide +kernel
theorem dX6_turnAround_0 : decode cX6_turnAround 0 = .ok (.iload_n 2, 1) := by decide +kernel
theorem dX6_turnAround_1 : decode cX6_turnAround 1 = .ok (.istore_n 3, 1) := by decide +kernel
theorem dX6_turnAround_2 : decode cX6_turnAround 2 = .ok (.iload_n 1, 1) := by decide +kernel
theorem dX6_turnAround_3 : decode cX6_turnAround 3 = .ok (.istore 4, 2) := by decide +kernel
theorem dX6_turnAround_5 : decode cX6_turnAround 5 = .ok (.iload 4, 2) := by decide +kernel
theorem dX6_turnAround_7 : decode cX6_turnAround 7 = .ok (.iload_n 3, 1) := by decide +kernel
theorem dX6_turnAround_8 : decode cX6_turnAround 8 = .ok (.if_icmp .ge 19, 3) := by decide +kernel
theorem dX6_turnAround_11 : decode cX6_turnAround 11 = .ok (.aload_n 0, 1) := by decide +kernel
theorem dX6_turnAround_12 : decode cX6_turnAround 12 = .ok (.iload 4, 2) := by decide +kernel
theorem dX6_turnAround_14 : decode cX6_turnAround 14 = .ok (.iload_n 3, 1) := by decide +kernel
theorem dX6_turnAround_15 : decode cX6_turnAround 15 = .ok (.invokevirtual 89, 3) := by decide +kernel
theorem dX6_turnAround_18 : decode cX6_turnAround 18 = .ok (.iinc 3 (-1), 3) := by decide +kernel
theorem dX6_turnAround_21 : decode cX6_turnAround 21 = .ok (.iinc 4 1, 3) := by decide +kernel
theorem dX6_turnAround_24 : decode cX6_turnAround 24 = .ok (.goto (-19), 3) := by decide +kernel
theorem dX6_turnAround_27 : decode cX6_turnAround 27 = .ok (.return_, 1) := by decide +kernel
theorem dX7_init_0 : decode cX7_init 0 = .ok (.aload_n 0, 1) := by decide +kernel
theorem dX7_init_1 : decode cX7_init 1 = .ok (.invokespecial 1, 3) := by decide +kernel
theorem dX7_init_4 : decode cX7_init 4 = .ok (.aload_n 0, 1) := by decide +kernel
theorem dX7_init_5 : decode cX7_init 5 = .ok (.bipush 32, 2) := by decide +kernel
theorem dX7_init_7 : decode cX7_init 7 = .ok (.newarray .int, 2) := by decide +kernel
theorem dX7_init_9 : decode cX7_init 9 = .ok (.putfield 9, 3) := by decide +kernel
theorem dX7_init_12 : decode cX7_init 12 = .ok (.return_, 1) := by decide +kernel
theorem dX7_slot_0 : decode cX7_slot 0 = .ok (.iload_n 0, 1) := by decide +kernel
theorem dX7_slot_1 : decode cX7_slot 1 = .ok (.iconst 4, 1) := by decide +kernel
theorem dX7_slot_2 : decode cX7_slot 2 = .ok (.imul, 1) := by decide +kernel
theorem dX7_slot_3 : decode cX7_slot 3 = .ok (.ireturn, 1) := by decide +kernel
theorem dX7_mayBe_0 : decode cX7_mayBe 0 = .ok (.iload_n 0, 1) := by decide +kernel
theorem dX7_mayBe_1 : decode cX7_mayBe 1 = .ok (.ifCond .lt 57, 3) := by decide +kernel
theorem dX7_mayBe_4 : decode cX7_mayBe 4 = .ok (.iload_n 1, 1) := by decide +kernel
theorem dX7_mayBe_5 : decode cX7_mayBe 5 = .ok (.ifCond .lt 53, 3) := by decide +kernel
theorem dX7_mayBe_8 : decode cX7_mayBe 8 = .ok (.iload_n 0, 1) := by decide +kernel
theorem dX7_mayBe_9 : decode cX7_mayBe 9 = .ok (.bipush 100, 2) := by decide +kernel
theorem dX7_mayBe_11 : decode cX7_mayBe 11 = .ok (.idiv, 1) := by decide +kernel
theorem dX7_mayBe_12 : decode cX7_mayBe 12 = .ok (.bipush 30, 2) := by decide +kernel
theorem dX7_mayBe_14 : decode cX7_mayBe 14 = .ok (.bipush 120, 2) := by decide +kernel
theorem dX7_mayBe_16 : decode cX7_mayBe 16 = .ok (.invokestatic 13, 3) := by decide +kernel
theorem dX7_mayBe_19 : decode cX7_mayBe 19 = .ok (.ifCond .eq 39, 3) := by decide +kernel
theorem dX7_mayBe_22 : decode cX7_mayBe 22 = .ok (.iload_n 0, 1) := by decide +kernel
theorem dX7_mayBe_23 : decode cX7_mayBe 23 = .ok (.bipush 100, 2) := by decide +kernel
theorem dX7_mayBe_25 : decode cX7_mayBe 25 = .ok (.irem, 1) := by decide +kernel
theorem dX7_mayBe_26 : decode cX7_mayBe 26 = .ok (.bipush 10, 2) := by decide +kernel
theorem dX7_mayBe_28 : decode cX7_mayBe 28 = .ok (.bipush 22, 2) := by decide +kernel
theorem dX7_mayBe_30 : decode cX7_mayBe 30 = .ok (.invokestatic 13, 3) := by decide +kernel
theorem dX7_mayBe_33 : decode cX7_mayBe 33 = .ok (.ifCond .eq 25, 3) := by decide +kernel
theorem dX7_mayBe_36 : decode cX7_mayBe 36 = .ok (.iload_n 1, 1) := by decide +kernel
theorem dX7_mayBe_37 : decode cX7_mayBe 37 = .ok (.bipush 100, 2) := by decide +kernel
theorem dX7_mayBe_39 : decode cX7_mayBe 39 = .ok (.idiv, 1) := by decide +kernel
theorem dX7_mayBe_40 : decode cX7_mayBe 40 = .ok (.bipush 9, 2) := by decide +kernel
theorem dX7_mayBe_42 : decode cX7_mayBe 42 = .ok (.if_icmp .gt 16, 3) := by decide +kernel
theorem dX7_mayBe_45 : decode cX7_mayBe 45 = .ok (.iload_n 1, 1) := by decide +kernel
theorem dX7_mayBe_46 : decode cX7_mayBe 46 = .ok (.bipush 100, 2) := by decide +kernel
theorem dX7_mayBe_48 : decode cX7_mayBe 48 = .ok (.irem, 1) := by decide +kernel
theorem dX7_mayBe_49 : decode cX7_mayBe 49 = .ok (.bipush 40, 2) := by decide +kernel
theorem dX7_mayBe_51 : decode cX7_mayBe 51 = .ok (.if_icmp .gt 7, 3) := by decide +kernel
theorem dX7_mayBe_54 : decode cX7_mayBe 54 = .ok (.iconst 1, 1) := by decide +kernel
theorem dX7_mayBe_55 : decode cX7_mayBe 55 = .ok (.goto 4, 3) := by decide +kernel
theorem dX7_mayBe_58 : decode cX7_mayBe 58 = .ok (.iconst 0, 1) := by decide +kernel
theorem dX7_mayBe_59 : decode cX7_mayBe 59 = .ok (.ireturn, 1) := by decide +kernel
theorem dX7_isFull_0 : decode cX7_isFull 0 = .ok (.aload_n 0, 1) := by decide +kernel
theorem dX7_isFull_1 : decode cX7_isFull 1 = .ok (.getfield 19, 3) := by decide +kernel
theorem dX7_isFull_4 : decode cX7_isFull 4 = .ok (.bipush 8, 2) := by decide +kernel
theorem dX7_isFull_6 : decode cX7_isFull 6 = .ok (.if_icmp .lt 7, 3) := by decide +kernel
theorem dX7_isFull_9 : decode cX7_isFull 9 = .ok (.iconst 1, 1) := by decide +kernel
theorem dX7_isFull_10 : decode cX7_isFull 10 = .ok (.goto 4, 3) := by decide +kernel
theorem dX7_isFull_13 : decode cX7_isFull 13 = .ok (.iconst 0, 1) := by decide +kernel
theorem dX7_isFull_14 : decode cX7_isFull 14 = .ok (.ireturn, 1) := by decide +kernel
theorem dX7_has_0 : decode cX7_has 0 = .ok (.iload_n 1, 1) := by decide +kernel
theorem dX7_has_1 : decode cX7_has 1 = .ok (.ifCond .lt 15, 3) := by decide +kernel
theorem dX7_has_4 : decode cX7_has 4 = .ok (.iload_n 1, 1) := by decide +kernel
theorem dX7_has_5 : decode cX7_has 5 = .ok (.aload_n 0, 1) := by decide +kernel
theorem dX7_has_6 : decode cX7_has 6 = .ok (.getfield 19, 3) := by decide +kernel
theorem dX7_has_9 : decode cX7_has 9 = .ok (.if_icmp .ge 7, 3) := by decide +kernel
theorem dX7_has_12 : decode cX7_has 12 = .ok (.iconst 1, 1) := by decide +kernel
theorem dX7_has_13 : decode cX7_has 13 = .ok (.goto 4, 3) := by decide +kernel
theorem dX7_has_16 : decode cX7_has 16 = .ok (.iconst 0, 1) := by decide +kernel
theorem dX7_has_17 : decode cX7_has 17 = .ok (.ireturn, 1) := by decide +kernel
theorem dX7_add_0 : decode cX7_add 0 = .ok (.aload_n 0, 1) := by decide +kernel
theorem dX7_add_1 : decode cX7_add 1 = .ok (.getfield 19, 3) := by decide +kernel
theorem dX7_add_4 : decode cX7_add 4 = .ok (.invokestatic 23, 3) := by decide +kernel
theorem dX7_add_7 : decode cX7_add 7 = .ok (.istore_n 3, 1) := by decide +kernel
theorem dX7_add_8 : decode cX7_add 8 = .ok (.aload_n 0, 1) := by decide +kernel
theorem dX7_add_9 : decode cX7_add 9 = .ok (.iload_n 3, 1) := by decide +kernel
theorem dX7_add_10 : decode cX7_add 10 = .ok (.iconst 0, 1) := by decide +kernel
theorem dX7_add_11 : decode cX7_add 11 = .ok (.iadd, 1) := by decide +kernel
theorem dX7_add_12 : decode cX7_add 12 = .ok (.iload_n 1, 1) := by decide +kernel
theorem dX7_add_13 : decode cX7_add 13 = .ok (.bipush 100, 2) := by decide +kernel
theorem dX7_add_15 : decode cX7_add 15 = .ok (.idiv, 1) := by decide +kernel
theorem dX7_add_16 : decode cX7_add 16 = .ok (.invokevirtual 27, 3) := by decide +kernel
theorem dX7_add_19 : decode cX7_add 19 = .ok (.aload_n 0, 1) := by decide +kernel
theorem dX7_add_20 : decode cX7_add 20 = .ok (.iload_n 3, 1) := by decide +kernel
theorem dX7_add_21 : decode cX7_add 21 = .ok (.iconst 1, 1) := by decide +kernel
theorem dX7_add_22 : decode cX7_add 22 = .ok (.iadd, 1) := by decide +kernel
theorem dX7_add_23 : decode cX7_add 23 = .ok (.iload_n 1, 1) := by decide +kernel
theorem dX7_add_24 : decode cX7_add 24 = .ok (.bipush 100, 2) := by decide +kernel
theorem dX7_add_26 : decode cX7_add 26 = .ok (.irem, 1) := by decide +kernel
theorem dX7_add_27 : decode cX7_add 27 = .ok (.invokevirtual 27, 3) := by decide +kernel
theorem dX7_add_30 : decode cX7_add 30 = .ok (.aload_n 0, 1) := by decide +kernel
theorem dX7_add_31 : decode cX7_add 31 = .ok (.iload_n 3, 1) := by decide +kernel
theorem dX7_add_32 : decode cX7_add 32 = .ok (.iconst 2, 1) := by decide +kernel
theorem dX7_add_33 : decode cX7_add 33 = .ok (.iadd, 1) := by decide +kernel
theorem dX7_add_34 : decode cX7_add 34 = .ok (.iload_n 2, 1) := by decide +kernel
theorem dX7_add_35 : decode cX7_add 35 = .ok (.bipush 100, 2) := by decide +kernel
theorem dX7_add_37 : decode cX7_add 37 = .ok (.idiv, 1) := by decide +kernel
theorem dX7_add_38 : decode cX7_add 38 = .ok (.invokevirtual 27, 3) := by decide +kernel
theorem dX7_add_41 : decode cX7_add 41 = .ok (.aload_n 0, 1) := by decide +kernel
theorem dX7_add_42 : decode cX7_add 42 = .ok (.iload_n 3, 1) := by decide +kernel
theorem dX7_add_43 : decode cX7_add 43 = .ok (.iconst 3, 1) := by decide +kernel
theorem dX7_add_44 : decode cX7_add 44 = .ok (.iadd, 1) := by decide +kernel
theorem dX7_add_45 : decode cX7_add 45 = .ok (.iload_n 2, 1) := by decide +kernel
theorem dX7_add_46 : decode cX7_add 46 = .ok (.bipush 100, 2) := by decide +kernel
theorem dX7_add_48 : decode cX7_add 48 = .ok (.irem, 1) := by decide +kernel
theorem dX7_add_49 : decode cX7_add 49 = .ok (.invokevirtual 27, 3) := by decide +kernel
theorem dX7_add_52 : decode cX7_add 52 = .ok (.aload_n 0, 1) := by decide +kernel
theorem dX7_add_53 : decode cX7_add 53 = .ok (.dup, 1) := by decide +kernel
theorem dX7_add_54 : decode cX7_add 54 = .ok (.getfield 19, 3) := by decide +kernel
theorem dX7_add_57 : decode cX7_add 57 = .ok (.iconst 1, 1) := by decide +kernel
theorem dX7_add_58 : decode cX7_add 58 = .ok (.iadd, 1) := by decide +kernel
theorem dX7_add_59 : decode cX7_add 59 = .ok (.putfield 19, 3) := by decide +kernel
theorem dX7_add_62 : decode cX7_add 62 = .ok (.aload_n 0, 1) := by decide +kernel
theorem dX7_add_63 : decode cX7_add 63 = .ok (.getfield 19, 3) := by decide +kernel
theorem dX7_add_66 : decode cX7_add 66 = .ok (.iconst 1, 1) := by decide +kernel
theorem dX7_add_67 : decode cX7_add 67 = .ok (.isub, 1) := by decide +kernel
theorem dX7_add_68 : decode cX7_add 68 = .ok (.ireturn, 1) := by decide +kernel
theorem dX7_trait_0 : decode cX7_trait 0 = .ok (.iload_n 1, 1) := by decide +kernel
theorem dX7_trait_1 : decode cX7_trait 1 = .ok (.iconst 4, 1) := by decide +kernel
theorem dX7_trait_2 : decode cX7_trait 2 = .ok (.imul, 1) := by decide +kernel
theorem dX7_trait_3 : decode cX7_trait 3 = .ok (.iload_n 2, 1) := by decide +kernel
theorem dX7_trait_4 : decode cX7_trait 4 = .ok (.iadd, 1) := by decide +kernel
theorem dX7_trait_5 : decode cX7_trait 5 = .ok (.istore_n 3, 1) := by decide +kernel
theorem dX7_trait_6 : decode cX7_trait 6 = .ok (.iload_n 3, 1) := by decide +kernel
theorem dX7_trait_7 : decode cX7_trait 7 = .ok (.ifCond .lt 21, 3) := by decide +kernel
theorem dX7_trait_10 : decode cX7_trait 10 = .ok (.iload_n 3, 1) := by decide +kernel
theorem dX7_trait_11 : decode cX7_trait 11 = .ok (.aload_n 0, 1) := by decide +kernel
theorem dX7_trait_12 : decode cX7_trait 12 = .ok (.getfield 9, 3) := by decide +kernel
theorem dX7_trait_15 : decode cX7_trait 15 = .ok (.arraylength, 1) := by decide +kernel
theorem dX7_trait_16 : decode cX7_trait 16 = .ok (.if_icmp .ge 12, 3) := by decide +kernel
theorem dX7_trait_19 : decode cX7_trait 19 = .ok (.aload_n 0, 1) := by decide +kernel
theorem dX7_trait_20 : decode cX7_trait 20 = .ok (.getfield 9, 3) := by decide +kernel
theorem dX7_trait_23 : decode cX7_trait 23 = .ok (.iload_n 3, 1) := by decide +kernel
theorem dX7_trait_24 : decode cX7_trait 24 = .ok (.iaload, 1) := by decide +kernel
theorem dX7_trait_25 : decode cX7_trait 25 = .ok (.goto 4, 3) := by decide +kernel
theorem dX7_trait_28 : decode cX7_trait 28 = .ok (.iconst 0, 1) := by decide +kernel
theorem dX7_trait_29 : decode cX7_trait 29 = .ok (.ireturn, 1) := by decide +kernel
theorem dX7_valueAt_0 : decode cX7_valueAt 0 = .ok (.iload_n 1, 1) := by decide +kernel
theorem dX7_valueAt_1 : decode cX7_valueAt 1 = .ok (.ifCond .lt 21, 3) := by decide +kernel
theorem dX7_valueAt_4 : decode cX7_valueAt 4 = .ok (.iload_n 1, 1) := by decide +kernel
theorem dX7_valueAt_5 : decode cX7_valueAt 5 = .ok (.aload_n 0, 1) := by decide +kernel
theorem dX7_valueAt_6 : decode cX7_valueAt 6 = .ok (.getfield 9, 3) := by decide +kernel
theorem dX7_valueAt_9 : decode cX7_valueAt 9 = .ok (.arraylength, 1) := by decide +kernel
theorem dX7_valueAt_10 : decode cX7_valueAt 10 = .ok (.if_icmp .ge 12, 3) := by decide +kernel
theorem dX7_valueAt_13 : decode cX7_valueAt 13 = .ok (.aload_n 0, 1) := by decide +kernel
theorem dX7_valueAt_14 : decode cX7_valueAt 14 = .ok (.getfield 9, 3) := by decide +kernel
theorem dX7_valueAt_17 : decode cX7_valueAt 17 = .ok (.iload_n 1, 1) := by decide +kernel
theorem dX7_valueAt_18 : decode cX7_valueAt 18 = .ok (.iaload, 1) := by decide +kernel
theorem dX7_valueAt_19 : decode cX7_valueAt 19 = .ok (.goto 4, 3) := by decide +kernel
theorem dX7_valueAt_22 : decode cX7_valueAt 22 = .ok (.iconst 0, 1) := by decide +kernel
theorem dX7_valueAt_23 : decode cX7_valueAt 23 = .ok (.ireturn, 1) := by decide +kernel
theorem dX7_putValue_0 : decode cX7_putValue 0 = .ok (.iload_n 1, 1) := by decide +kernel
theorem dX7_putValue_1 : decode cX7_putValue 1 = .ok (.ifCond .lt 19, 3) := by decide +kernel
theorem dX7_putValue_4 : decode cX7_putValue 4 = .ok (.iload_n 1, 1) := by decide +kernel
theorem dX7_putValue_5 : decode cX7_putValue 5 = .ok (.aload_n 0, 1) := by decide +kernel
theorem dX7_putValue_6 : decode cX7_putValue 6 = .ok (.getfield 9, 3) := by decide +kernel
theorem dX7_putValue_9 : decode cX7_putValue 9 = .ok (.arraylength, 1) := by decide +kernel
theorem dX7_putValue_10 : decode cX7_putValue 10 = .ok (.if_icmp .ge 10, 3) := by decide +kernel
theorem dX7_putValue_13 : decode cX7_putValue 13 = .ok (.aload_n 0, 1) := by decide +kernel
theorem dX7_putValue_14 : decode cX7_putValue 14 = .ok (.getfield 9, 3) := by decide +kernel
theorem dX7_putValue_17 : decode cX7_putValue 17 = .ok (.iload_n 1, 1) := by decide +kernel
theorem dX7_putValue_18 : decode cX7_putValue 18 = .ok (.iload_n 2, 1) := by decide +kernel
theorem dX7_putValue_19 : decode cX7_putValue 19 = .ok (.iastore, 1) := by decide +kernel
theorem dX7_putValue_20 : decode cX7_putValue 20 = .ok (.return_, 1) := by decide +kernel
theorem dX8_init_0 : decode cX8_init 0 = .ok (.aload_n 0, 1) := by decide +kernel
theorem dX8_init_1 : decode cX8_init 1 = .ok (.invokespecial 3, 3) := by decide +kernel
theorem dX8_init_4 : decode cX8_init 4 = .ok (.aload_n 0, 1) := by decide +kernel
theorem dX8_init_5 : decode cX8_init 5 = .ok (.sipush 216, 3) := by decide +kernel
theorem dX8_init_8 : decode cX8_init 8 = .ok (.newarray .int, 2) := by decide +kernel
theorem dX8_init_10 : decode cX8_init 10 = .ok (.putfield 9, 3) := by decide +kernel
theorem dX8_init_13 : decode cX8_init 13 = .ok (.aload_n 0, 1) := by decide +kernel
theorem dX8_init_14 : decode cX8_init 14 = .ok (.bipush 6, 2) := by decide +kernel
theorem dX8_init_16 : decode cX8_init 16 = .ok (.newarray .int, 2) := by decide +kernel
theorem dX8_init_18 : decode cX8_init 18 = .ok (.putfield 13, 3) := by decide +kernel
theorem dX8_init_21 : decode cX8_init 21 = .ok (.aload_n 0, 1) := by decide +kernel
theorem dX8_init_22 : decode cX8_init 22 = .ok (.bipush 6, 2) := by decide +kernel
theorem dX8_init_24 : decode cX8_init 24 = .ok (.newarray .int, 2) := by decide +kernel
theorem dX8_init_26 : decode cX8_init 26 = .ok (.putfield 16, 3) := by decide +kernel
theorem dX8_init_29 : decode cX8_init 29 = .ok (.aload_n 0, 1) := by decide +kernel
theorem dX8_init_30 : decode cX8_init 30 = .ok (.aload_n 1, 1) := by decide +kernel
theorem dX8_init_31 : decode cX8_init 31 = .ok (.putfield 19, 3) := by decide +kernel
theorem dX8_init_34 : decode cX8_init 34 = .ok (.return_, 1) := by decide +kernel
theorem dX8_slot_0 : decode cX8_slot 0 = .ok (.iload_n 0, 1) := by decide +kernel
theorem dX8_slot_1 : decode cX8_slot 1 = .ok (.bipush 12, 2) := by decide +kernel
theorem dX8_slot_3 : decode cX8_slot 3 = .ok (.imul, 1) := by decide +kernel
theorem dX8_slot_4 : decode cX8_slot 4 = .ok (.iload_n 1, 1) := by decide +kernel
theorem dX8_slot_5 : decode cX8_slot 5 = .ok (.iadd, 1) := by decide +kernel
theorem dX8_slot_6 : decode cX8_slot 6 = .ok (.iconst 3, 1) := by decide +kernel
theorem dX8_slot_7 : decode cX8_slot 7 = .ok (.imul, 1) := by decide +kernel
theorem dX8_slot_8 : decode cX8_slot 8 = .ok (.ireturn, 1) := by decide +kernel
theorem dX8_mostOf_0 : decode cX8_mostOf 0 = .ok (.iload_n 0, 1) := by decide +kernel
theorem dX8_mostOf_1 : decode cX8_mostOf 1 = .ok (.iconst 2, 1) := by decide +kernel
theorem dX8_mostOf_2 : decode cX8_mostOf 2 = .ok (.if_icmp .ne 8, 3) := by decide +kernel
theorem dX8_mostOf_5 : decode cX8_mostOf 5 = .ok (.bipush 9, 2) := by decide +kernel
theorem dX8_mostOf_7 : decode cX8_mostOf 7 = .ok (.goto 5, 3) := by decide +kernel
theorem dX8_mostOf_10 : decode cX8_mostOf 10 = .ok (.bipush 30, 2) := by decide +kernel
theorem dX8_mostOf_12 : decode cX8_mostOf 12 = .ok (.ireturn, 1) := by decide +kernel
theorem dX8_isFull_0 : decode cX8_isFull 0 = .ok (.aload_n 0, 1) := by decide +kernel
theorem dX8_isFull_1 : decode cX8_isFull 1 = .ok (.getfield 23, 3) := by decide +kernel
theorem dX8_isFull_4 : decode cX8_isFull 4 = .ok (.bipush 6, 2) := by decide +kernel
theorem dX8_isFull_6 : decode cX8_isFull 6 = .ok (.if_icmp .lt 7, 3) := by decide +kernel
theorem dX8_isFull_9 : decode cX8_isFull 9 = .ok (.iconst 1, 1) := by decide +kernel
theorem dX8_isFull_10 : decode cX8_isFull 10 = .ok (.goto 4, 3) := by decide +kernel
theorem dX8_isFull_13 : decode cX8_isFull 13 = .ok (.iconst 0, 1) := by decide +kernel
theorem dX8_isFull_14 : decode cX8_isFull 14 = .ok (.ireturn, 1) := by decide +kernel
theorem dX8_has_0 : decode cX8_has 0 = .ok (.iload_n 1, 1) := by decide +kernel
theorem dX8_has_1 : decode cX8_has 1 = .ok (.ifCond .lt 15, 3) := by decide +kernel
theorem dX8_has_4 : decode cX8_has 4 = .ok (.iload_n 1, 1) := by decide +kernel
theorem dX8_has_5 : decode cX8_has 5 = .ok (.aload_n 0, 1) := by decide +kernel
theorem dX8_has_6 : decode cX8_has 6 = .ok (.getfield 23, 3) := by decide +kernel
theorem dX8_has_9 : decode cX8_has 9 = .ok (.if_icmp .ge 7, 3) := by decide +kernel
theorem dX8_has_12 : decode cX8_has 12 = .ok (.iconst 1, 1) := by decide +kernel
theorem dX8_has_13 : decode cX8_has 13 = .ok (.goto 4, 3) := by decide +kernel
theorem dX8_has_16 : decode cX8_has 16 = .ok (.iconst 0, 1) := by decide +kernel
theorem dX8_has_17 : decode cX8_has 17 = .ok (.ireturn, 1) := by decide +kernel
theorem dX8_hasCell_0 : decode cX8_hasCell 0 = .ok (.aload_n 0, 1) := by decide +kernel
theorem dX8_hasCell_1 : decode cX8_hasCell 1 = .ok (.iload_n 1, 1) := by decide +kernel
theorem dX8_hasCell_2 : decode cX8_hasCell 2 = .ok (.invokevirtual 27, 3) := by decide +kernel
theorem dX8_hasCell_5 : decode cX8_hasCell 5 = .ok (.ifCond .eq 21, 3) := by decide +kernel
theorem dX8_hasCell_8 : decode cX8_hasCell 8 = .ok (.iload_n 2, 1) := by decide +kernel
theorem dX8_hasCell_9 : decode cX8_hasCell 9 = .ok (.ifCond .lt 17, 3) := by decide +kernel
theorem dX8_hasCell_12 : decode cX8_hasCell 12 = .ok (.iload_n 2, 1) := by decide +kernel
theorem dX8_hasCell_13 : decode cX8_hasCell 13 = .ok (.aload_n 0, 1) := by decide +kernel
theorem dX8_hasCell_14 : decode cX8_hasCell 14 = .ok (.getfield 13, 3) := by decide +kernel
theorem dX8_hasCell_17 : decode cX8_hasCell 17 = .ok (.iload_n 1, 1) := by decide +kernel
theorem dX8_hasCell_18 : decode cX8_hasCell 18 = .ok (.iaload, 1) := by decide +kernel
theorem dX8_hasCell_19 : decode cX8_hasCell 19 = .ok (.if_icmp .ge 7, 3) := by decide +kernel
theorem dX8_hasCell_22 : decode cX8_hasCell 22 = .ok (.iconst 1, 1) := by decide +kernel
theorem dX8_hasCell_23 : decode cX8_hasCell 23 = .ok (.goto 4, 3) := by decide +kernel
theorem dX8_hasCell_26 : decode cX8_hasCell 26 = .ok (.iconst 0, 1) := by decide +kernel
theorem dX8_hasCell_27 : decode cX8_hasCell 27 = .ok (.ireturn, 1) := by decide +kernel
theorem dX8_cellsOf_0 : decode cX8_cellsOf 0 = .ok (.aload_n 0, 1) := by decide +kernel
theorem dX8_cellsOf_1 : decode cX8_cellsOf 1 = .ok (.iload_n 1, 1) := by decide +kernel
theorem dX8_cellsOf_2 : decode cX8_cellsOf 2 = .ok (.invokevirtual 27, 3) := by decide +kernel
theorem dX8_cellsOf_5 : decode cX8_cellsOf 5 = .ok (.ifCond .eq 12, 3) := by decide +kernel
theorem dX8_cellsOf_8 : decode cX8_cellsOf 8 = .ok (.aload_n 0, 1) := by decide +kernel
theorem dX8_cellsOf_9 : decode cX8_cellsOf 9 = .ok (.getfield 13, 3) := by decide +kernel
theorem dX8_cellsOf_12 : decode cX8_cellsOf 12 = .ok (.iload_n 1, 1) := by decide +kernel
theorem dX8_cellsOf_13 : decode cX8_cellsOf 13 = .ok (.iaload, 1) := by decide +kernel
theorem dX8_cellsOf_14 : decode cX8_cellsOf 14 = .ok (.goto 4, 3) := by decide +kernel
theorem dX8_cellsOf_17 : decode cX8_cellsOf 17 = .ok (.iconst 0, 1) := by decide +kernel
theorem dX8_cellsOf_18 : decode cX8_cellsOf 18 = .ok (.ireturn, 1) := by decide +kernel
theorem dX8_belowOf_0 : decode cX8_belowOf 0 = .ok (.aload_n 0, 1) := by decide +kernel
theorem dX8_belowOf_1 : decode cX8_belowOf 1 = .ok (.iload_n 1, 1) := by decide +kernel
theorem dX8_belowOf_2 : decode cX8_belowOf 2 = .ok (.invokevirtual 27, 3) := by decide +kernel
theorem dX8_belowOf_5 : decode cX8_belowOf 5 = .ok (.ifCond .eq 12, 3) := by decide +kernel
theorem dX8_belowOf_8 : decode cX8_belowOf 8 = .ok (.aload_n 0, 1) := by decide +kernel
theorem dX8_belowOf_9 : decode cX8_belowOf 9 = .ok (.getfield 16, 3) := by decide +kernel
theorem dX8_belowOf_12 : decode cX8_belowOf 12 = .ok (.iload_n 1, 1) := by decide +kernel
theorem dX8_belowOf_13 : decode cX8_belowOf 13 = .ok (.iaload, 1) := by decide +kernel
theorem dX8_belowOf_14 : decode cX8_belowOf 14 = .ok (.goto 4, 3) := by decide +kernel
theorem dX8_belowOf_17 : decode cX8_belowOf 17 = .ok (.iconst 0, 1) := by decide +kernel
theorem dX8_belowOf_18 : decode cX8_belowOf 18 = .ok (.ireturn, 1) := by decide +kernel
theorem dX8_told_0 : decode cX8_told 0 = .ok (.aload_n 0, 1) := by decide +kernel
theorem dX8_told_1 : decode cX8_told 1 = .ok (.iload_n 1, 1) := by decide +kernel
theorem dX8_told_2 : decode cX8_told 2 = .ok (.iload_n 2, 1) := by decide +kernel
theorem dX8_told_3 : decode cX8_told 3 = .ok (.invokestatic 31, 3) := by decide +kernel
theorem dX8_told_6 : decode cX8_told 6 = .ok (.iload_n 3, 1) := by decide +kernel
theorem dX8_told_7 : decode cX8_told 7 = .ok (.iadd, 1) := by decide +kernel
theorem dX8_told_8 : decode cX8_told 8 = .ok (.invokevirtual 35, 3) := by decide +kernel
theorem dX8_told_11 : decode cX8_told 11 = .ok (.ireturn, 1) := by decide +kernel
theorem dX8_valueAt_0 : decode cX8_valueAt 0 = .ok (.iload_n 1, 1) := by decide +kernel
theorem dX8_valueAt_1 : decode cX8_valueAt 1 = .ok (.ifCond .lt 19, 3) := by decide +kernel
theorem dX8_valueAt_4 : decode cX8_valueAt 4 = .ok (.iload_n 1, 1) := by decide +kernel
theorem dX8_valueAt_5 : decode cX8_valueAt 5 = .ok (.sipush 216, 3) := by decide +kernel
theorem dX8_valueAt_8 : decode cX8_valueAt 8 = .ok (.if_icmp .ge 12, 3) := by decide +kernel
theorem dX8_valueAt_11 : decode cX8_valueAt 11 = .ok (.aload_n 0, 1) := by decide +kernel
theorem dX8_valueAt_12 : decode cX8_valueAt 12 = .ok (.getfield 9, 3) := by decide +kernel
theorem dX8_valueAt_15 : decode cX8_valueAt 15 = .ok (.iload_n 1, 1) := by decide +kernel
theorem dX8_valueAt_16 : decode cX8_valueAt 16 = .ok (.iaload, 1) := by decide +kernel
theorem dX8_valueAt_17 : decode cX8_valueAt 17 = .ok (.goto 4, 3) := by decide +kernel
theorem dX8_valueAt_20 : decode cX8_valueAt 20 = .ok (.iconst 0, 1) := by decide +kernel
theorem dX8_valueAt_21 : decode cX8_valueAt 21 = .ok (.ireturn, 1) := by decide +kernel
theorem dX8_putValue_0 : decode cX8_putValue 0 = .ok (.iload_n 1, 1) := by decide +kernel
theorem dX8_putValue_1 : decode cX8_putValue 1 = .ok (.ifCond .lt 17, 3) := by decide +kernel
theorem dX8_putValue_4 : decode cX8_putValue 4 = .ok (.iload_n 1, 1) := by decide +kernel
theorem dX8_putValue_5 : decode cX8_putValue 5 = .ok (.sipush 216, 3) := by decide +kernel
theorem dX8_putValue_8 : decode cX8_putValue 8 = .ok (.if_icmp .ge 10, 3) := by decide +kernel
theorem dX8_putValue_11 : decode cX8_putValue 11 = .ok (.aload_n 0, 1) := by decide +kernel
theorem dX8_putValue_12 : decode cX8_putValue 12 = .ok (.getfield 9, 3) := by decide +kernel
theorem dX8_putValue_15 : decode cX8_putValue 15 = .ok (.iload_n 1, 1) := by decide +kernel
theorem dX8_putValue_16 : decode cX8_putValue 16 = .ok (.iload_n 2, 1) := by decide +kernel
theorem dX8_putValue_17 : decode cX8_putValue 17 = .ok (.iastore, 1) := by decide +kernel
theorem dX8_putValue_18 : decode cX8_putValue 18 = .ok (.return_, 1) := by decide +kernel
theorem dX8_depthAt_0 : decode cX8_depthAt 0 = .ok (.iconst 0, 1) := by decide +kernel
theorem dX8_depthAt_1 : decode cX8_depthAt 1 = .ok (.aload_n 0, 1) := by decide +kernel
theorem dX8_depthAt_2 : decode cX8_depthAt 2 = .ok (.iload_n 1, 1) := by decide +kernel
theorem dX8_depthAt_3 : decode cX8_depthAt 3 = .ok (.iload_n 2, 1) := by decide +kernel
theorem dX8_depthAt_4 : decode cX8_depthAt 4 = .ok (.iconst 0, 1) := by decide +kernel
theorem dX8_depthAt_5 : decode cX8_depthAt 5 = .ok (.invokevirtual 39, 3) := by decide +kernel
theorem dX8_depthAt_8 : decode cX8_depthAt 8 = .ok (.iload_n 3, 1) := by decide +kernel
theorem dX8_depthAt_9 : decode cX8_depthAt 9 = .ok (.iadd, 1) := by decide +kernel
theorem dX8_depthAt_10 : decode cX8_depthAt 10 = .ok (.invokestatic 43, 3) := by decide +kernel
theorem dX8_depthAt_13 : decode cX8_depthAt 13 = .ok (.ireturn, 1) := by decide +kernel
theorem dX8_paceAt_0 : decode cX8_paceAt 0 = .ok (.aload_n 0, 1) := by decide +kernel
theorem dX8_paceAt_1 : decode cX8_paceAt 1 = .ok (.iload_n 1, 1) := by decide +kernel
theorem dX8_paceAt_2 : decode cX8_paceAt 2 = .ok (.iload_n 2, 1) := by decide +kernel
theorem dX8_paceAt_3 : decode cX8_paceAt 3 = .ok (.iconst 1, 1) := by decide +kernel
theorem dX8_paceAt_4 : decode cX8_paceAt 4 = .ok (.invokevirtual 39, 3) := by decide +kernel
theorem dX8_paceAt_7 : decode cX8_paceAt 7 = .ok (.bipush 20, 2) := by decide +kernel
theorem dX8_paceAt_9 : decode cX8_paceAt 9 = .ok (.iload_n 3, 1) := by decide +kernel
theorem dX8_paceAt_10 : decode cX8_paceAt 10 = .ok (.iadd, 1) := by decide +kernel
theorem dX8_paceAt_11 : decode cX8_paceAt 11 = .ok (.imul, 1) := by decide +kernel
theorem dX8_paceAt_12 : decode cX8_paceAt 12 = .ok (.bipush 20, 2) := by decide +kernel
theorem dX8_paceAt_14 : decode cX8_paceAt 14 = .ok (.idiv, 1) := by decide +kernel
theorem dX8_paceAt_15 : decode cX8_paceAt 15 = .ok (.ireturn, 1) := by decide +kernel
theorem dX8_cellsNearPace_0 : decode cX8_cellsNearPace 0 = .ok (.iconst 0, 1) := by decide +kernel
theorem dX8_cellsNearPace_1 : decode cX8_cellsNearPace 1 = .ok (.istore 4, 2) := by decide +kernel
theorem dX8_cellsNearPace_3 : decode cX8_cellsNearPace 3 = .ok (.iconst 0, 1) := by decide +kernel
theorem dX8_cellsNearPace_4 : decode cX8_cellsNearPace 4 = .ok (.istore 5, 2) := by decide +kernel
theorem dX8_cellsNearPace_6 : decode cX8_cellsNearPace 6 = .ok (.iload 5, 2) := by decide +kernel
theorem dX8_cellsNearPace_8 : decode cX8_cellsNearPace 8 = .ok (.aload_n 0, 1) := by decide +kernel
theorem dX8_cellsNearPace_9 : decode cX8_cellsNearPace 9 = .ok (.iload_n 1, 1) := by decide +kernel
theorem dX8_cellsNearPace_10 : decode cX8_cellsNearPace 10 = .ok (.invokevirtual 48, 3) := by decide +kernel
theorem dX8_cellsNearPace_13 : decode cX8_cellsNearPace 13 = .ok (.if_icmp .ge 35, 3) := by decide +kernel
theorem dX8_cellsNearPace_16 : decode cX8_cellsNearPace 16 = .ok (.aload_n 0, 1) := by decide +kernel
theorem dX8_cellsNearPace_17 : decode cX8_cellsNearPace 17 = .ok (.iload_n 1, 1) := by decide +kernel
theorem dX8_cellsNearPace_18 : decode cX8_cellsNearPace 18 = .ok (.iload 5, 2) := by decide +kernel
theorem dX8_cellsNearPace_20 : decode cX8_cellsNearPace 20 = .ok (.iload_n 2, 1) := by decide +kernel
theorem dX8_cellsNearPace_21 : decode cX8_cellsNearPace 21 = .ok (.invokevirtual 51, 3) := by decide +kernel
theorem dX8_cellsNearPace_24 : decode cX8_cellsNearPace 24 = .ok (.iload_n 3, 1) := by decide +kernel
theorem dX8_cellsNearPace_25 : decode cX8_cellsNearPace 25 = .ok (.isub, 1) := by decide +kernel
theorem dX8_cellsNearPace_26 : decode cX8_cellsNearPace 26 = .ok (.invokestatic 54, 3) := by decide +kernel
theorem dX8_cellsNearPace_29 : decode cX8_cellsNearPace 29 = .ok (.iconst 2, 1) := by decide +kernel
theorem dX8_cellsNearPace_30 : decode cX8_cellsNearPace 30 = .ok (.if_icmp .gt 12, 3) := by decide +kernel
theorem dX8_cellsNearPace_33 : decode cX8_cellsNearPace 33 = .ok (.iload 4, 2) := by decide +kernel
theorem dX8_cellsNearPace_35 : decode cX8_cellsNearPace 35 = .ok (.iconst 1, 1) := by decide +kernel
theorem dX8_cellsNearPace_36 : decode cX8_cellsNearPace 36 = .ok (.iload 5, 2) := by decide +kernel
theorem dX8_cellsNearPace_38 : decode cX8_cellsNearPace 38 = .ok (.ishl, 1) := by decide +kernel
theorem dX8_cellsNearPace_39 : decode cX8_cellsNearPace 39 = .ok (.ior, 1) := by decide +kernel
theorem dX8_cellsNearPace_40 : decode cX8_cellsNearPace 40 = .ok (.istore 4, 2) := by decide +kernel
theorem dX8_cellsNearPace_42 : decode cX8_cellsNearPace 42 = .ok (.iinc 5 1, 3) := by decide +kernel
theorem dX8_cellsNearPace_45 : decode cX8_cellsNearPace 45 = .ok (.goto (-39), 3) := by decide +kernel
theorem dX8_cellsNearPace_48 : decode cX8_cellsNearPace 48 = .ok (.iload 4, 2) := by decide +kernel
theorem dX8_cellsNearPace_50 : decode cX8_cellsNearPace 50 = .ok (.ireturn, 1) := by decide +kernel
theorem dX8_read_0 : decode cX8_read 0 = .ok (.aload_n 0, 1) := by decide +kernel
theorem dX8_read_1 : decode cX8_read 1 = .ok (.invokevirtual 57, 3) := by decide +kernel
theorem dX8_read_4 : decode cX8_read 4 = .ok (.ifCond .eq 5, 3) := by decide +kernel
theorem dX8_read_7 : decode cX8_read 7 = .ok (.iconst 0, 1) := by decide +kernel
theorem dX8_read_8 : decode cX8_read 8 = .ok (.ireturn, 1) := by decide +kernel
theorem dX8_read_9 : decode cX8_read 9 = .ok (.iconst 0, 1) := by decide +kernel
theorem dX8_read_10 : decode cX8_read 10 = .ok (.istore_n 1, 1) := by decide +kernel
theorem dX8_read_11 : decode cX8_read 11 = .ok (.iload_n 1, 1) := by decide +kernel
theorem dX8_read_12 : decode cX8_read 12 = .ok (.bipush 12, 2) := by decide +kernel
theorem dX8_read_14 : decode cX8_read 14 = .ok (.if_icmp .ge 68, 3) := by decide +kernel
theorem dX8_read_17 : decode cX8_read 17 = .ok (.aload_n 0, 1) := by decide +kernel
theorem dX8_read_18 : decode cX8_read 18 = .ok (.aload_n 0, 1) := by decide +kernel
theorem dX8_read_19 : decode cX8_read 19 = .ok (.getfield 23, 3) := by decide +kernel
theorem dX8_read_22 : decode cX8_read 22 = .ok (.iload_n 1, 1) := by decide +kernel
theorem dX8_read_23 : decode cX8_read 23 = .ok (.invokestatic 31, 3) := by decide +kernel
theorem dX8_read_26 : decode cX8_read 26 = .ok (.invokevirtual 61, 3) := by decide +kernel
theorem dX8_read_29 : decode cX8_read 29 = .ok (.ifCond .ne 5, 3) := by decide +kernel
theorem dX8_read_32 : decode cX8_read 32 = .ok (.iconst 0, 1) := by decide +kernel
theorem dX8_read_33 : decode cX8_read 33 = .ok (.ireturn, 1) := by decide +kernel
theorem dX8_read_34 : decode cX8_read 34 = .ok (.aload_n 0, 1) := by decide +kernel
theorem dX8_read_35 : decode cX8_read 35 = .ok (.getfield 19, 3) := by decide +kernel
theorem dX8_read_38 : decode cX8_read 38 = .ok (.bipush 47, 2) := by decide +kernel
theorem dX8_read_40 : decode cX8_read 40 = .ok (.invokevirtual 64, 3) := by decide +kernel
theorem dX8_read_43 : decode cX8_read 43 = .ok (.ifCond .eq 11, 3) := by decide +kernel
theorem dX8_read_46 : decode cX8_read 46 = .ok (.aload_n 0, 1) := by decide +kernel
theorem dX8_read_47 : decode cX8_read 47 = .ok (.iload_n 1, 1) := by decide +kernel
theorem dX8_read_48 : decode cX8_read 48 = .ok (.iconst 1, 1) := by decide +kernel
theorem dX8_read_49 : decode cX8_read 49 = .ok (.iadd, 1) := by decide +kernel
theorem dX8_read_50 : decode cX8_read 50 = .ok (.invokevirtual 69, 3) := by decide +kernel
theorem dX8_read_53 : decode cX8_read 53 = .ok (.ireturn, 1) := by decide +kernel
theorem dX8_read_54 : decode cX8_read 54 = .ok (.iload_n 1, 1) := by decide +kernel
theorem dX8_read_55 : decode cX8_read 55 = .ok (.iconst 1, 1) := by decide +kernel
theorem dX8_read_56 : decode cX8_read 56 = .ok (.iadd, 1) := by decide +kernel
theorem dX8_read_57 : decode cX8_read 57 = .ok (.bipush 12, 2) := by decide +kernel
theorem dX8_read_59 : decode cX8_read 59 = .ok (.if_icmp .eq 15, 3) := by decide +kernel
theorem dX8_read_62 : decode cX8_read 62 = .ok (.aload_n 0, 1) := by decide +kernel
theorem dX8_read_63 : decode cX8_read 63 = .ok (.getfield 19, 3) := by decide +kernel
theorem dX8_read_66 : decode cX8_read 66 = .ok (.bipush 59, 2) := by decide +kernel
theorem dX8_read_68 : decode cX8_read 68 = .ok (.invokevirtual 64, 3) := by decide +kernel
theorem dX8_read_71 : decode cX8_read 71 = .ok (.ifCond .ne 5, 3) := by decide +kernel
theorem dX8_read_74 : decode cX8_read 74 = .ok (.iconst 0, 1) := by decide +kernel
theorem dX8_read_75 : decode cX8_read 75 = .ok (.ireturn, 1) := by decide +kernel
theorem dX8_read_76 : decode cX8_read 76 = .ok (.iinc 1 1, 3) := by decide +kernel
theorem dX8_read_79 : decode cX8_read 79 = .ok (.goto (-68), 3) := by decide +kernel
theorem dX8_read_82 : decode cX8_read 82 = .ok (.iconst 0, 1) := by decide +kernel
theorem dX8_read_83 : decode cX8_read 83 = .ok (.ireturn, 1) := by decide +kernel
theorem dX8_readCell_0 : decode cX8_readCell 0 = .ok (.aload_n 0, 1) := by decide +kernel
theorem dX8_readCell_1 : decode cX8_readCell 1 = .ok (.iload_n 1, 1) := by decide +kernel
theorem dX8_readCell_2 : decode cX8_readCell 2 = .ok (.iconst 0, 1) := by decide +kernel
theorem dX8_readCell_3 : decode cX8_readCell 3 = .ok (.iadd, 1) := by decide +kernel
theorem dX8_readCell_4 : decode cX8_readCell 4 = .ok (.invokevirtual 72, 3) := by decide +kernel
theorem dX8_readCell_7 : decode cX8_readCell 7 = .ok (.ifCond .eq 51, 3) := by decide +kernel
theorem dX8_readCell_10 : decode cX8_readCell 10 = .ok (.aload_n 0, 1) := by decide +kernel
theorem dX8_readCell_11 : decode cX8_readCell 11 = .ok (.getfield 19, 3) := by decide +kernel
theorem dX8_readCell_14 : decode cX8_readCell 14 = .ok (.bipush 44, 2) := by decide +kernel
theorem dX8_readCell_16 : decode cX8_readCell 16 = .ok (.invokevirtual 64, 3) := by decide +kernel
theorem dX8_readCell_19 : decode cX8_readCell 19 = .ok (.ifCond .eq 39, 3) := by decide +kernel
theorem dX8_readCell_22 : decode cX8_readCell 22 = .ok (.aload_n 0, 1) := by decide +kernel
theorem dX8_readCell_23 : decode cX8_readCell 23 = .ok (.iload_n 1, 1) := by decide +kernel
theorem dX8_readCell_24 : decode cX8_readCell 24 = .ok (.iconst 1, 1) := by decide +kernel
theorem dX8_readCell_25 : decode cX8_readCell 25 = .ok (.iadd, 1) := by decide +kernel
theorem dX8_readCell_26 : decode cX8_readCell 26 = .ok (.invokevirtual 72, 3) := by decide +kernel
theorem dX8_readCell_29 : decode cX8_readCell 29 = .ok (.ifCond .eq 29, 3) := by decide +kernel
theorem dX8_readCell_32 : decode cX8_readCell 32 = .ok (.aload_n 0, 1) := by decide +kernel
theorem dX8_readCell_33 : decode cX8_readCell 33 = .ok (.getfield 19, 3) := by decide +kernel
theorem dX8_readCell_36 : decode cX8_readCell 36 = .ok (.bipush 44, 2) := by decide +kernel
theorem dX8_readCell_38 : decode cX8_readCell 38 = .ok (.invokevirtual 64, 3) := by decide +kernel
theorem dX8_readCell_41 : decode cX8_readCell 41 = .ok (.ifCond .eq 17, 3) := by decide +kernel
theorem dX8_readCell_44 : decode cX8_readCell 44 = .ok (.aload_n 0, 1) := by decide +kernel
theorem dX8_readCell_45 : decode cX8_readCell 45 = .ok (.iload_n 1, 1) := by decide +kernel
theorem dX8_readCell_46 : decode cX8_readCell 46 = .ok (.iconst 2, 1) := by decide +kernel
theorem dX8_readCell_47 : decode cX8_readCell 47 = .ok (.iadd, 1) := by decide +kernel
theorem dX8_readCell_48 : decode cX8_readCell 48 = .ok (.invokevirtual 75, 3) := by decide +kernel
theorem dX8_readCell_51 : decode cX8_readCell 51 = .ok (.ifCond .eq 7, 3) := by decide +kernel
theorem dX8_readCell_54 : decode cX8_readCell 54 = .ok (.iconst 1, 1) := by decide +kernel
theorem dX8_readCell_55 : decode cX8_readCell 55 = .ok (.goto 4, 3) := by decide +kernel
theorem dX8_readCell_58 : decode cX8_readCell 58 = .ok (.iconst 0, 1) := by decide +kernel
theorem dX8_readCell_59 : decode cX8_readCell 59 = .ok (.ireturn, 1) := by decide +kernel
theorem dX8_readMeasure_0 : decode cX8_readMeasure 0 = .ok (.aload_n 0, 1) := by decide +kernel
theorem dX8_readMeasure_1 : decode cX8_readMeasure 1 = .ok (.getfield 19, 3) := by decide +kernel
theorem dX8_readMeasure_4 : decode cX8_readMeasure 4 = .ok (.invokevirtual 78, 3) := by decide +kernel
theorem dX8_readMeasure_7 : decode cX8_readMeasure 7 = .ok (.istore_n 2, 1) := by decide +kernel
theorem dX8_readMeasure_8 : decode cX8_readMeasure 8 = .ok (.iload_n 2, 1) := by decide +kernel
theorem dX8_readMeasure_9 : decode cX8_readMeasure 9 = .ok (.ifCond .ge 5, 3) := by decide +kernel
theorem dX8_readMeasure_12 : decode cX8_readMeasure 12 = .ok (.iconst 0, 1) := by decide +kernel
theorem dX8_readMeasure_13 : decode cX8_readMeasure 13 = .ok (.ireturn, 1) := by decide +kernel
theorem dX8_readMeasure_14 : decode cX8_readMeasure 14 = .ok (.aload_n 0, 1) := by decide +kernel
theorem dX8_readMeasure_15 : decode cX8_readMeasure 15 = .ok (.getfield 19, 3) := by decide +kernel
theorem dX8_readMeasure_18 : decode cX8_readMeasure 18 = .ok (.invokevirtual 78, 3) := by decide +kernel
theorem dX8_readMeasure_21 : decode cX8_readMeasure 21 = .ok (.istore_n 3, 1) := by decide +kernel
theorem dX8_readMeasure_22 : decode cX8_readMeasure 22 = .ok (.iload_n 3, 1) := by decide +kernel
theorem dX8_readMeasure_23 : decode cX8_readMeasure 23 = .ok (.ifCond .ge 7, 3) := by decide +kernel
theorem dX8_readMeasure_26 : decode cX8_readMeasure 26 = .ok (.iload_n 2, 1) := by decide +kernel
theorem dX8_readMeasure_27 : decode cX8_readMeasure 27 = .ok (.goto 9, 3) := by decide +kernel
theorem dX8_readMeasure_30 : decode cX8_readMeasure 30 = .ok (.bipush 10, 2) := by decide +kernel
theorem dX8_readMeasure_32 : decode cX8_readMeasure 32 = .ok (.iload_n 2, 1) := by decide +kernel
theorem dX8_readMeasure_33 : decode cX8_readMeasure 33 = .ok (.imul, 1) := by decide +kernel
theorem dX8_readMeasure_34 : decode cX8_readMeasure 34 = .ok (.iload_n 3, 1) := by decide +kernel
theorem dX8_readMeasure_35 : decode cX8_readMeasure 35 = .ok (.iadd, 1) := by decide +kernel
theorem dX8_readMeasure_36 : decode cX8_readMeasure 36 = .ok (.istore 4, 2) := by decide +kernel
theorem dX8_readMeasure_38 : decode cX8_readMeasure 38 = .ok (.iload 4, 2) := by decide +kernel
theorem dX8_readMeasure_40 : decode cX8_readMeasure 40 = .ok (.bipush 30, 2) := by decide +kernel
theorem dX8_readMeasure_42 : decode cX8_readMeasure 42 = .ok (.if_icmp .le 13, 3) := by decide +kernel
theorem dX8_readMeasure_45 : decode cX8_readMeasure 45 = .ok (.aload_n 0, 1) := by decide +kernel
theorem dX8_readMeasure_46 : decode cX8_readMeasure 46 = .ok (.getfield 19, 3) := by decide +kernel
theorem dX8_readMeasure_49 : decode cX8_readMeasure 49 = .ok (.iconst 2, 1) := by decide +kernel
theorem dX8_readMeasure_50 : decode cX8_readMeasure 50 = .ok (.invokevirtual 82, 3) := by decide +kernel
theorem dX8_readMeasure_53 : decode cX8_readMeasure 53 = .ok (.iconst 0, 1) := by decide +kernel
theorem dX8_readMeasure_54 : decode cX8_readMeasure 54 = .ok (.ireturn, 1) := by decide +kernel
theorem dX8_readMeasure_55 : decode cX8_readMeasure 55 = .ok (.aload_n 0, 1) := by decide +kernel
theorem dX8_readMeasure_56 : decode cX8_readMeasure 56 = .ok (.iload_n 1, 1) := by decide +kernel
theorem dX8_readMeasure_57 : decode cX8_readMeasure 57 = .ok (.iload 4, 2) := by decide +kernel
theorem dX8_readMeasure_59 : decode cX8_readMeasure 59 = .ok (.invokevirtual 86, 3) := by decide +kernel
theorem dX8_readMeasure_62 : decode cX8_readMeasure 62 = .ok (.iconst 1, 1) := by decide +kernel
theorem dX8_readMeasure_63 : decode cX8_readMeasure 63 = .ok (.ireturn, 1) := by decide +kernel
theorem dX8_readBed_0 : decode cX8_readBed 0 = .ok (.aload_n 0, 1) := by decide +kernel
theorem dX8_readBed_1 : decode cX8_readBed 1 = .ok (.getfield 19, 3) := by decide +kernel
theorem dX8_readBed_4 : decode cX8_readBed 4 = .ok (.invokevirtual 78, 3) := by decide +kernel
theorem dX8_readBed_7 : decode cX8_readBed 7 = .ok (.istore_n 2, 1) := by decide +kernel
theorem dX8_readBed_8 : decode cX8_readBed 8 = .ok (.aload_n 0, 1) := by decide +kernel
theorem dX8_readBed_9 : decode cX8_readBed 9 = .ok (.iload_n 1, 1) := by decide +kernel
theorem dX8_readBed_10 : decode cX8_readBed 10 = .ok (.iload_n 2, 1) := by decide +kernel
theorem dX8_readBed_11 : decode cX8_readBed 11 = .ok (.invokevirtual 86, 3) := by decide +kernel
theorem dX8_readBed_14 : decode cX8_readBed 14 = .ok (.iload_n 2, 1) := by decide +kernel
theorem dX8_readBed_15 : decode cX8_readBed 15 = .ok (.ifCond .lt 7, 3) := by decide +kernel
theorem dX8_readBed_18 : decode cX8_readBed 18 = .ok (.iconst 1, 1) := by decide +kernel
theorem dX8_readBed_19 : decode cX8_readBed 19 = .ok (.goto 4, 3) := by decide +kernel
theorem dX8_readBed_22 : decode cX8_readBed 22 = .ok (.iconst 0, 1) := by decide +kernel
theorem dX8_readBed_23 : decode cX8_readBed 23 = .ok (.ireturn, 1) := by decide +kernel
theorem dX8_readBelow_0 : decode cX8_readBelow 0 = .ok (.aload_n 0, 1) := by decide +kernel
theorem dX8_readBelow_1 : decode cX8_readBelow 1 = .ok (.getfield 19, 3) := by decide +kernel
theorem dX8_readBelow_4 : decode cX8_readBelow 4 = .ok (.invokevirtual 78, 3) := by decide +kernel
theorem dX8_readBelow_7 : decode cX8_readBelow 7 = .ok (.istore_n 2, 1) := by decide +kernel
theorem dX8_readBelow_8 : decode cX8_readBelow 8 = .ok (.iload_n 2, 1) := by decide +kernel
theorem dX8_readBelow_9 : decode cX8_readBelow 9 = .ok (.ifCond .lt 13, 3) := by decide +kernel
theorem dX8_readBelow_12 : decode cX8_readBelow 12 = .ok (.aload_n 0, 1) := by decide +kernel
theorem dX8_readBelow_13 : decode cX8_readBelow 13 = .ok (.getfield 19, 3) := by decide +kernel
theorem dX8_readBelow_16 : decode cX8_readBelow 16 = .ok (.invokevirtual 90, 3) := by decide +kernel
theorem dX8_readBelow_19 : decode cX8_readBelow 19 = .ok (.ifCond .ne 5, 3) := by decide +kernel
theorem dX8_readBelow_22 : decode cX8_readBelow 22 = .ok (.iconst 0, 1) := by decide +kernel
theorem dX8_readBelow_23 : decode cX8_readBelow 23 = .ok (.ireturn, 1) := by decide +kernel
theorem dX8_readBelow_24 : decode cX8_readBelow 24 = .ok (.aload_n 0, 1) := by decide +kernel
theorem dX8_readBelow_25 : decode cX8_readBelow 25 = .ok (.getfield 13, 3) := by decide +kernel
theorem dX8_readBelow_28 : decode cX8_readBelow 28 = .ok (.aload_n 0, 1) := by decide +kernel
theorem dX8_readBelow_29 : decode cX8_readBelow 29 = .ok (.getfield 23, 3) := by decide +kernel
theorem dX8_readBelow_32 : decode cX8_readBelow 32 = .ok (.iload_n 1, 1) := by decide +kernel
theorem dX8_readBelow_33 : decode cX8_readBelow 33 = .ok (.iastore, 1) := by decide +kernel
theorem dX8_readBelow_34 : decode cX8_readBelow 34 = .ok (.aload_n 0, 1) := by decide +kernel
theorem dX8_readBelow_35 : decode cX8_readBelow 35 = .ok (.getfield 16, 3) := by decide +kernel
theorem dX8_readBelow_38 : decode cX8_readBelow 38 = .ok (.aload_n 0, 1) := by decide +kernel
theorem dX8_readBelow_39 : decode cX8_readBelow 39 = .ok (.getfield 23, 3) := by decide +kernel
theorem dX8_readBelow_42 : decode cX8_readBelow 42 = .ok (.iload_n 2, 1) := by decide +kernel
theorem dX8_readBelow_43 : decode cX8_readBelow 43 = .ok (.iastore, 1) := by decide +kernel
theorem dX8_readBelow_44 : decode cX8_readBelow 44 = .ok (.aload_n 0, 1) := by decide +kernel
theorem dX8_readBelow_45 : decode cX8_readBelow 45 = .ok (.dup, 1) := by decide +kernel
theorem dX8_readBelow_46 : decode cX8_readBelow 46 = .ok (.getfield 23, 3) := by decide +kernel
theorem dX8_readBelow_49 : decode cX8_readBelow 49 = .ok (.iconst 1, 1) := by decide +kernel
theorem dX8_readBelow_50 : decode cX8_readBelow 50 = .ok (.iadd, 1) := by decide +kernel
theorem dX8_readBelow_51 : decode cX8_readBelow 51 = .ok (.putfield 23, 3) := by decide +kernel
theorem dX8_readBelow_54 : decode cX8_readBelow 54 = .ok (.iconst 1, 1) := by decide +kernel
theorem dX8_readBelow_55 : decode cX8_readBelow 55 = .ok (.ireturn, 1) := by decide +kernel
theorem dX9_init_0 : decode cX9_init 0 = .ok (.aload_n 0, 1) := by decide +kernel
theorem dX9_init_1 : decode cX9_init 1 = .ok (.invokespecial 3, 3) := by decide +kernel
theorem dX9_init_4 : decode cX9_init 4 = .ok (.aload_n 0, 1) := by decide +kernel
theorem dX9_init_5 : decode cX9_init 5 = .ok (.bipush 6, 2) := by decide +kernel
theorem dX9_init_7 : decode cX9_init 7 = .ok (.newarray .int, 2) := by decide +kernel
theorem dX9_init_9 : decode cX9_init 9 = .ok (.putfield 11, 3) := by decide +kernel
theorem dX9_init_12 : decode cX9_init 12 = .ok (.aload_n 0, 1) := by decide +kernel
theorem dX9_init_13 : decode cX9_init 13 = .ok (.bipush 6, 2) := by decide +kernel
theorem dX9_init_15 : decode cX9_init 15 = .ok (.newarray .int, 2) := by decide +kernel
theorem dX9_init_17 : decode cX9_init 17 = .ok (.putfield 15, 3) := by decide +kernel
theorem dX9_init_20 : decode cX9_init 20 = .ok (.aload_n 0, 1) := by decide +kernel
theorem dX9_init_21 : decode cX9_init 21 = .ok (.bipush 6, 2) := by decide +kernel
theorem dX9_init_23 : decode cX9_init 23 = .ok (.newarray .int, 2) := by decide +kernel
theorem dX9_init_25 : decode cX9_init 25 = .ok (.putfield 18, 3) := by decide +kernel
theorem dX9_init_28 : decode cX9_init 28 = .ok (.aload_n 0, 1) := by decide +kernel
theorem dX9_init_29 : decode cX9_init 29 = .ok (.bipush 6, 2) := by decide +kernel
theorem dX9_init_31 : decode cX9_init 31 = .ok (.bipush 60, 2) := by decide +kernel
theorem dX9_init_33 : decode cX9_init 33 = .ok (.multianewarray 21 2, 4) := by decide +kernel
theorem dX9_init_37 : decode cX9_init 37 = .ok (.putfield 23, 3) := by decide +kernel
theorem dX9_init_40 : decode cX9_init 40 = .ok (.aload_n 0, 1) := by decide +kernel
theorem dX9_init_41 : decode cX9_init 41 = .ok (.getfield 11, 3) := by decide +kernel
theorem dX9_init_44 : decode cX9_init 44 = .ok (.bipush (-2), 2) := by decide +kernel
theorem dX9_init_46 : decode cX9_init 46 = .ok (.invokestatic 26, 3) := by decide +kernel
theorem dX9_init_49 : decode cX9_init 49 = .ok (.return_, 1) := by decide +kernel
theorem dX9_has_0 : decode cX9_has 0 = .ok (.iload_n 0, 1) := by decide +kernel
theorem dX9_has_1 : decode cX9_has 1 = .ok (.ifCond .lt 13, 3) := by decide +kernel
theorem dX9_has_4 : decode cX9_has 4 = .ok (.iload_n 0, 1) := by decide +kernel
theorem dX9_has_5 : decode cX9_has 5 = .ok (.bipush 6, 2) := by decide +kernel
theorem dX9_has_7 : decode cX9_has 7 = .ok (.if_icmp .ge 7, 3) := by decide +kernel
theorem dX9_has_10 : decode cX9_has 10 = .ok (.iconst 1, 1) := by decide +kernel
theorem dX9_has_11 : decode cX9_has 11 = .ok (.goto 4, 3) := by decide +kernel
theorem dX9_has_14 : decode cX9_has 14 = .ok (.iconst 0, 1) := by decide +kernel
theorem dX9_has_15 : decode cX9_has 15 = .ok (.ireturn, 1) := by decide +kernel
theorem dX9_isSort_0 : decode cX9_isSort 0 = .ok (.iload_n 0, 1) := by decide +kernel
theorem dX9_isSort_1 : decode cX9_isSort 1 = .ok (.iconst 0, 1) := by decide +kernel
theorem dX9_isSort_2 : decode cX9_isSort 2 = .ok (.iconst 4, 1) := by decide +kernel
theorem dX9_isSort_3 : decode cX9_isSort 3 = .ok (.invokestatic 32, 3) := by decide +kernel
theorem dX9_isSort_6 : decode cX9_isSort 6 = .ok (.ireturn, 1) := by decide +kernel
theorem dX9_sortOn_0 : decode cX9_sortOn 0 = .ok (.iload_n 1, 1) := by decide +kernel
theorem dX9_sortOn_1 : decode cX9_sortOn 1 = .ok (.invokestatic 36, 3) := by decide +kernel
theorem dX9_sortOn_4 : decode cX9_sortOn 4 = .ok (.ifCond .eq 12, 3) := by decide +kernel
theorem dX9_sortOn_7 : decode cX9_sortOn 7 = .ok (.aload_n 0, 1) := by decide +kernel
theorem dX9_sortOn_8 : decode cX9_sortOn 8 = .ok (.getfield 11, 3) := by decide +kernel
theorem dX9_sortOn_11 : decode cX9_sortOn 11 = .ok (.iload_n 1, 1) := by decide +kernel
theorem dX9_sortOn_12 : decode cX9_sortOn 12 = .ok (.iaload, 1) := by decide +kernel
theorem dX9_sortOn_13 : decode cX9_sortOn 13 = .ok (.goto 5, 3) := by decide +kernel
theorem dX9_sortOn_16 : decode cX9_sortOn 16 = .ok (.bipush (-2), 2) := by decide +kernel
theorem dX9_sortOn_18 : decode cX9_sortOn 18 = .ok (.ireturn, 1) := by decide +kernel
theorem dX9_bodyOn_0 : decode cX9_bodyOn 0 = .ok (.iload_n 1, 1) := by decide +kernel
theorem dX9_bodyOn_1 : decode cX9_bodyOn 1 = .ok (.invokestatic 36, 3) := by decide +kernel
theorem dX9_bodyOn_4 : decode cX9_bodyOn 4 = .ok (.ifCond .eq 12, 3) := by decide +kernel
theorem dX9_bodyOn_7 : decode cX9_bodyOn 7 = .ok (.aload_n 0, 1) := by decide +kernel
theorem dX9_bodyOn_8 : decode cX9_bodyOn 8 = .ok (.getfield 18, 3) := by decide +kernel
theorem dX9_bodyOn_11 : decode cX9_bodyOn 11 = .ok (.iload_n 1, 1) := by decide +kernel
theorem dX9_bodyOn_12 : decode cX9_bodyOn 12 = .ok (.iaload, 1) := by decide +kernel
theorem dX9_bodyOn_13 : decode cX9_bodyOn 13 = .ok (.goto 4, 3) := by decide +kernel
theorem dX9_bodyOn_16 : decode cX9_bodyOn 16 = .ok (.iconst (-1), 1) := by decide +kernel
theorem dX9_bodyOn_17 : decode cX9_bodyOn 17 = .ok (.ireturn, 1) := by decide +kernel
theorem dX9_hold_0 : decode cX9_hold 0 = .ok (.iload_n 1, 1) := by decide +kernel
theorem dX9_hold_1 : decode cX9_hold 1 = .ok (.invokestatic 36, 3) := by decide +kernel
theorem dX9_hold_4 : decode cX9_hold 4 = .ok (.ifCond .eq 27, 3) := by decide +kernel
theorem dX9_hold_7 : decode cX9_hold 7 = .ok (.aload_n 0, 1) := by decide +kernel
theorem dX9_hold_8 : decode cX9_hold 8 = .ok (.getfield 11, 3) := by decide +kernel
theorem dX9_hold_11 : decode cX9_hold 11 = .ok (.iload_n 1, 1) := by decide +kernel
theorem dX9_hold_12 : decode cX9_hold 12 = .ok (.iload_n 2, 1) := by decide +kernel
theorem dX9_hold_13 : decode cX9_hold 13 = .ok (.iconst (-1), 1) := by decide +kernel
theorem dX9_hold_14 : decode cX9_hold 14 = .ok (.if_icmp .ne 8, 3) := by decide +kernel
theorem dX9_hold_17 : decode cX9_hold 17 = .ok (.bipush (-2), 2) := by decide +kernel
theorem dX9_hold_19 : decode cX9_hold 19 = .ok (.goto 4, 3) := by decide +kernel
theorem dX9_hold_22 : decode cX9_hold 22 = .ok (.iconst (-1), 1) := by decide +kernel
theorem dX9_hold_23 : decode cX9_hold 23 = .ok (.iastore, 1) := by decide +kernel
theorem dX9_hold_24 : decode cX9_hold 24 = .ok (.aload_n 0, 1) := by decide +kernel
theorem dX9_hold_25 : decode cX9_hold 25 = .ok (.getfield 18, 3) := by decide +kernel
theorem dX9_hold_28 : decode cX9_hold 28 = .ok (.iload_n 1, 1) := by decide +kernel
theorem dX9_hold_29 : decode cX9_hold 29 = .ok (.iload_n 2, 1) := by decide +kernel
theorem dX9_hold_30 : decode cX9_hold 30 = .ok (.iastore, 1) := by decide +kernel
theorem dX9_hold_31 : decode cX9_hold 31 = .ok (.return_, 1) := by decide +kernel
theorem dX9_holdRow_0 : decode cX9_holdRow 0 = .ok (.iload_n 1, 1) := by decide +kernel
theorem dX9_holdRow_1 : decode cX9_holdRow 1 = .ok (.invokestatic 36, 3) := by decide +kernel
theorem dX9_holdRow_4 : decode cX9_holdRow 4 = .ok (.ifCond .eq 27, 3) := by decide +kernel
theorem dX9_holdRow_7 : decode cX9_holdRow 7 = .ok (.aload_n 0, 1) := by decide +kernel
theorem dX9_holdRow_8 : decode cX9_holdRow 8 = .ok (.getfield 11, 3) := by decide +kernel
theorem dX9_holdRow_11 : decode cX9_holdRow 11 = .ok (.iload_n 1, 1) := by decide +kernel
theorem dX9_holdRow_12 : decode cX9_holdRow 12 = .ok (.iload_n 2, 1) := by decide +kernel
theorem dX9_holdRow_13 : decode cX9_holdRow 13 = .ok (.iastore, 1) := by decide +kernel
theorem dX9_holdRow_14 : decode cX9_holdRow 14 = .ok (.aload_n 0, 1) := by decide +kernel
theorem dX9_holdRow_15 : decode cX9_holdRow 15 = .ok (.getfield 15, 3) := by decide +kernel
theorem dX9_holdRow_18 : decode cX9_holdRow 18 = .ok (.iload_n 1, 1) := by decide +kernel
theorem dX9_holdRow_19 : decode cX9_holdRow 19 = .ok (.iload_n 3, 1) := by decide +kernel
theorem dX9_holdRow_20 : decode cX9_holdRow 20 = .ok (.iastore, 1) := by decide +kernel
theorem dX9_holdRow_21 : decode cX9_holdRow 21 = .ok (.aload_n 0, 1) := by decide +kernel
theorem dX9_holdRow_22 : decode cX9_holdRow 22 = .ok (.getfield 23, 3) := by decide +kernel
theorem dX9_holdRow_25 : decode cX9_holdRow 25 = .ok (.iload_n 1, 1) := by decide +kernel
theorem dX9_holdRow_26 : decode cX9_holdRow 26 = .ok (.aaload, 1) := by decide +kernel
theorem dX9_holdRow_27 : decode cX9_holdRow 27 = .ok (.lconst 0, 1) := by decide +kernel
theorem dX9_holdRow_28 : decode cX9_holdRow 28 = .ok (.invokestatic 40, 3) := by decide +kernel
theorem dX9_holdRow_31 : decode cX9_holdRow 31 = .ok (.return_, 1) := by decide +kernel
theorem dX9_refusalOf_0 : decode cX9_refusalOf 0 = .ok (.iload_n 1, 1) := by decide +kernel
theorem dX9_refusalOf_1 : decode cX9_refusalOf 1 = .ok (.invokestatic 36, 3) := by decide +kernel
theorem dX9_refusalOf_4 : decode cX9_refusalOf 4 = .ok (.ifCond .ne 5, 3) := by decide +kernel
theorem dX9_refusalOf_7 : decode cX9_refusalOf 7 = .ok (.iconst (-1), 1) := by decide +kernel
theorem dX9_refusalOf_8 : decode cX9_refusalOf 8 = .ok (.ireturn, 1) := by decide +kernel
theorem dX9_refusalOf_9 : decode cX9_refusalOf 9 = .ok (.aload_n 0, 1) := by decide +kernel
theorem dX9_refusalOf_10 : decode cX9_refusalOf 10 = .ok (.getfield 11, 3) := by decide +kernel
theorem dX9_refusalOf_13 : decode cX9_refusalOf 13 = .ok (.iload_n 1, 1) := by decide +kernel
theorem dX9_refusalOf_14 : decode cX9_refusalOf 14 = .ok (.iaload, 1) := by decide +kernel
theorem dX9_refusalOf_15 : decode cX9_refusalOf 15 = .ok (.bipush (-2), 2) := by decide +kernel
theorem dX9_refusalOf_17 : decode cX9_refusalOf 17 = .ok (.if_icmp .ne 6, 3) := by decide +kernel
theorem dX9_refusalOf_20 : decode cX9_refusalOf 20 = .ok (.bipush (-11), 2) := by decide +kernel
theorem dX9_refusalOf_22 : decode cX9_refusalOf 22 = .ok (.ireturn, 1) := by decide +kernel
theorem dX9_refusalOf_23 : decode cX9_refusalOf 23 = .ok (.aload_n 0, 1) := by decide +kernel
theorem dX9_refusalOf_24 : decode cX9_refusalOf 24 = .ok (.getfield 11, 3) := by decide +kernel
theorem dX9_refusalOf_27 : decode cX9_refusalOf 27 = .ok (.iload_n 1, 1) := by decide +kernel
theorem dX9_refusalOf_28 : decode cX9_refusalOf 28 = .ok (.iaload, 1) := by decide +kernel
theorem dX9_refusalOf_29 : decode cX9_refusalOf 29 = .ok (.iconst (-1), 1) := by decide +kernel
theorem dX9_refusalOf_30 : decode cX9_refusalOf 30 = .ok (.if_icmp .ne 6, 3) := by decide +kernel
theorem dX9_refusalOf_33 : decode cX9_refusalOf 33 = .ok (.bipush (-12), 2) := by decide +kernel
theorem dX9_refusalOf_35 : decode cX9_refusalOf 35 = .ok (.ireturn, 1) := by decide +kernel
theorem dX9_refusalOf_36 : decode cX9_refusalOf 36 = .ok (.aload_n 0, 1) := by decide +kernel
theorem dX9_refusalOf_37 : decode cX9_refusalOf 37 = .ok (.iload_n 1, 1) := by decide +kernel
theorem dX9_refusalOf_38 : decode cX9_refusalOf 38 = .ok (.iload_n 2, 1) := by decide +kernel
theorem dX9_refusalOf_39 : decode cX9_refusalOf 39 = .ok (.iconst 1, 1) := by decide +kernel
theorem dX9_refusalOf_40 : decode cX9_refusalOf 40 = .ok (.invokevirtual 43, 3) := by decide +kernel
theorem dX9_refusalOf_43 : decode cX9_refusalOf 43 = .ok (.ifCond .eq 7, 3) := by decide +kernel
theorem dX9_refusalOf_46 : decode cX9_refusalOf 46 = .ok (.iconst 0, 1) := by decide +kernel
theorem dX9_refusalOf_47 : decode cX9_refusalOf 47 = .ok (.goto 5, 3) := by decide +kernel
theorem dX9_refusalOf_50 : decode cX9_refusalOf 50 = .ok (.bipush (-13), 2) := by decide +kernel
theorem dX9_refusalOf_52 : decode cX9_refusalOf 52 = .ok (.ireturn, 1) := by decide +kernel
theorem dX9_hasStretch_0 : decode cX9_hasStretch 0 = .ok (.iload_n 1, 1) := by decide +kernel
theorem dX9_hasStretch_1 : decode cX9_hasStretch 1 = .ok (.invokestatic 36, 3) := by decide +kernel
theorem dX9_hasStretch_4 : decode cX9_hasStretch 4 = .ok (.ifCond .eq 49, 3) := by decide +kernel
theorem dX9_hasStretch_7 : decode cX9_hasStretch 7 = .ok (.aload_n 0, 1) := by decide +kernel
theorem dX9_hasStretch_8 : decode cX9_hasStretch 8 = .ok (.getfield 11, 3) := by decide +kernel
theorem dX9_hasStretch_11 : decode cX9_hasStretch 11 = .ok (.iload_n 1, 1) := by decide +kernel
theorem dX9_hasStretch_12 : decode cX9_hasStretch 12 = .ok (.iaload, 1) := by decide +kernel
theorem dX9_hasStretch_13 : decode cX9_hasStretch 13 = .ok (.invokestatic 46, 3) := by decide +kernel
theorem dX9_hasStretch_16 : decode cX9_hasStretch 16 = .ok (.ifCond .eq 37, 3) := by decide +kernel
theorem dX9_hasStretch_19 : decode cX9_hasStretch 19 = .ok (.iload_n 3, 1) := by decide +kernel
theorem dX9_hasStretch_20 : decode cX9_hasStretch 20 = .ok (.ifCond .lt 33, 3) := by decide +kernel
theorem dX9_hasStretch_23 : decode cX9_hasStretch 23 = .ok (.iload_n 2, 1) := by decide +kernel
theorem dX9_hasStretch_24 : decode cX9_hasStretch 24 = .ok (.ifCond .lt 29, 3) := by decide +kernel
theorem dX9_hasStretch_27 : decode cX9_hasStretch 27 = .ok (.iload_n 2, 1) := by decide +kernel
theorem dX9_hasStretch_28 : decode cX9_hasStretch 28 = .ok (.aload_n 0, 1) := by decide +kernel
theorem dX9_hasStretch_29 : decode cX9_hasStretch 29 = .ok (.getfield 15, 3) := by decide +kernel
theorem dX9_hasStretch_32 : decode cX9_hasStretch 32 = .ok (.iload_n 1, 1) := by decide +kernel
theorem dX9_hasStretch_33 : decode cX9_hasStretch 33 = .ok (.iaload, 1) := by decide +kernel
theorem dX9_hasStretch_34 : decode cX9_hasStretch 34 = .ok (.if_icmp .gt 19, 3) := by decide +kernel
theorem dX9_hasStretch_37 : decode cX9_hasStretch 37 = .ok (.iload_n 3, 1) := by decide +kernel
theorem dX9_hasStretch_38 : decode cX9_hasStretch 38 = .ok (.aload_n 0, 1) := by decide +kernel
theorem dX9_hasStretch_39 : decode cX9_hasStretch 39 = .ok (.getfield 15, 3) := by decide +kernel
theorem dX9_hasStretch_42 : decode cX9_hasStretch 42 = .ok (.iload_n 1, 1) := by decide +kernel
theorem dX9_hasStretch_43 : decode cX9_hasStretch 43 = .ok (.iaload, 1) := by decide +kernel
theorem dX9_hasStretch_44 : decode cX9_hasStretch 44 = .ok (.iload_n 2, 1) := by decide +kernel
theorem dX9_hasStretch_45 : decode cX9_hasStretch 45 = .ok (.isub, 1) := by decide +kernel
theorem dX9_hasStretch_46 : decode cX9_hasStretch 46 = .ok (.if_icmp .gt 7, 3) := by decide +kernel
theorem dX9_hasStretch_49 : decode cX9_hasStretch 49 = .ok (.iconst 1, 1) := by decide +kernel
theorem dX9_hasStretch_50 : decode cX9_hasStretch 50 = .ok (.goto 4, 3) := by decide +kernel
theorem dX9_hasStretch_53 : decode cX9_hasStretch 53 = .ok (.iconst 0, 1) := by decide +kernel
theorem dX9_hasStretch_54 : decode cX9_hasStretch 54 = .ok (.ireturn, 1) := by decide +kernel
theorem dX9_elementAt_0 : decode cX9_elementAt 0 = .ok (.aload_n 0, 1) := by decide +kernel
theorem dX9_elementAt_1 : decode cX9_elementAt 1 = .ok (.iload_n 1, 1) := by decide +kernel
theorem dX9_elementAt_2 : decode cX9_elementAt 2 = .ok (.iload_n 2, 1) := by decide +kernel
theorem dX9_elementAt_3 : decode cX9_elementAt 3 = .ok (.iconst 1, 1) := by decide +kernel
theorem dX9_elementAt_4 : decode cX9_elementAt 4 = .ok (.invokevirtual 43, 3) := by decide +kernel
theorem dX9_elementAt_7 : decode cX9_elementAt 7 = .ok (.ifCond .eq 14, 3) := by decide +kernel
theorem dX9_elementAt_10 : decode cX9_elementAt 10 = .ok (.aload_n 0, 1) := by decide +kernel
theorem dX9_elementAt_11 : decode cX9_elementAt 11 = .ok (.getfield 23, 3) := by decide +kernel
theorem dX9_elementAt_14 : decode cX9_elementAt 14 = .ok (.iload_n 1, 1) := by decide +kernel
theorem dX9_elementAt_15 : decode cX9_elementAt 15 = .ok (.aaload, 1) := by decide +kernel
theorem dX9_elementAt_16 : decode cX9_elementAt 16 = .ok (.iload_n 2, 1) := by decide +kernel
theorem dX9_elementAt_17 : decode cX9_elementAt 17 = .ok (.laload, 1) := by decide +kernel
theorem dX9_elementAt_18 : decode cX9_elementAt 18 = .ok (.goto 4, 3) := by decide +kernel
theorem dX9_elementAt_21 : decode cX9_elementAt 21 = .ok (.lconst 0, 1) := by decide +kernel
theorem dX9_elementAt_22 : decode cX9_elementAt 22 = .ok (.lreturn, 1) := by decide +kernel
theorem dX9_putAt_0 : decode cX9_putAt 0 = .ok (.aload_n 0, 1) := by decide +kernel
theorem dX9_putAt_1 : decode cX9_putAt 1 = .ok (.iload_n 1, 1) := by decide +kernel
theorem dX9_putAt_2 : decode cX9_putAt 2 = .ok (.iload_n 2, 1) := by decide +kernel
theorem dX9_putAt_3 : decode cX9_putAt 3 = .ok (.iconst 1, 1) := by decide +kernel
theorem dX9_putAt_4 : decode cX9_putAt 4 = .ok (.invokevirtual 43, 3) := by decide +kernel
theorem dX9_putAt_7 : decode cX9_putAt 7 = .ok (.ifCond .eq 21, 3) := by decide +kernel
theorem dX9_putAt_10 : decode cX9_putAt 10 = .ok (.aload_n 0, 1) := by decide +kernel
theorem dX9_putAt_11 : decode cX9_putAt 11 = .ok (.getfield 23, 3) := by decide +kernel
theorem dX9_putAt_14 : decode cX9_putAt 14 = .ok (.iload_n 1, 1) := by decide +kernel
theorem dX9_putAt_15 : decode cX9_putAt 15 = .ok (.aaload, 1) := by decide +kernel
theorem dX9_putAt_16 : decode cX9_putAt 16 = .ok (.iload_n 2, 1) := by decide +kernel
theorem dX9_putAt_17 : decode cX9_putAt 17 = .ok (.aload_n 0, 1) := by decide +kernel
theorem dX9_putAt_18 : decode cX9_putAt 18 = .ok (.getfield 11, 3) := by decide +kernel
theorem dX9_putAt_21 : decode cX9_putAt 21 = .ok (.iload_n 1, 1) := by decide +kernel
theorem dX9_putAt_22 : decode cX9_putAt 22 = .ok (.iaload, 1) := by decide +kernel
theorem dX9_putAt_23 : decode cX9_putAt 23 = .ok (.lload_n 3, 1) := by decide +kernel
theorem dX9_putAt_24 : decode cX9_putAt 24 = .ok (.invokestatic 49, 3) := by decide +kernel
theorem dX9_putAt_27 : decode cX9_putAt 27 = .ok (.lastore, 1) := by decide +kernel
theorem dX9_putAt_28 : decode cX9_putAt 28 = .ok (.return_, 1) := by decide +kernel
theorem dX9_copy_0 : decode cX9_copy 0 = .ok (.aload_n 0, 1) := by decide +kernel
theorem dX9_copy_1 : decode cX9_copy 1 = .ok (.iload_n 1, 1) := by decide +kernel
theorem dX9_copy_2 : decode cX9_copy 2 = .ok (.iload_n 2, 1) := by decide +kernel
theorem dX9_copy_3 : decode cX9_copy 3 = .ok (.iload 5, 2) := by decide +kernel
theorem dX9_copy_5 : decode cX9_copy 5 = .ok (.invokevirtual 43, 3) := by decide +kernel
theorem dX9_copy_8 : decode cX9_copy 8 = .ok (.ifCond .eq 35, 3) := by decide +kernel
theorem dX9_copy_11 : decode cX9_copy 11 = .ok (.aload_n 0, 1) := by decide +kernel
theorem dX9_copy_12 : decode cX9_copy 12 = .ok (.iload_n 3, 1) := by decide +kernel
theorem dX9_copy_13 : decode cX9_copy 13 = .ok (.iload 4, 2) := by decide +kernel
theorem dX9_copy_15 : decode cX9_copy 15 = .ok (.iload 5, 2) := by decide +kernel
theorem dX9_copy_17 : decode cX9_copy 17 = .ok (.invokevirtual 43, 3) := by decide +kernel
theorem dX9_copy_20 : decode cX9_copy 20 = .ok (.ifCond .eq 23, 3) := by decide +kernel
theorem dX9_copy_23 : decode cX9_copy 23 = .ok (.aload_n 0, 1) := by decide +kernel
theorem dX9_copy_24 : decode cX9_copy 24 = .ok (.getfield 23, 3) := by decide +kernel
theorem dX9_copy_27 : decode cX9_copy 27 = .ok (.iload_n 1, 1) := by decide +kernel
theorem dX9_copy_28 : decode cX9_copy 28 = .ok (.aaload, 1) := by decide +kernel
theorem dX9_copy_29 : decode cX9_copy 29 = .ok (.iload_n 2, 1) := by decide +kernel
theorem dX9_copy_30 : decode cX9_copy 30 = .ok (.aload_n 0, 1) := by decide +kernel
theorem dX9_copy_31 : decode cX9_copy 31 = .ok (.getfield 23, 3) := by decide +kernel
theorem dX9_copy_34 : decode cX9_copy 34 = .ok (.iload_n 3, 1) := by decide +kernel
theorem dX9_copy_35 : decode cX9_copy 35 = .ok (.aaload, 1) := by decide +kernel
theorem dX9_copy_36 : decode cX9_copy 36 = .ok (.iload 4, 2) := by decide +kernel
theorem dX9_copy_38 : decode cX9_copy 38 = .ok (.iload 5, 2) := by decide +kernel
theorem dX9_copy_40 : decode cX9_copy 40 = .ok (.invokestatic 53, 3) := by decide +kernel
theorem dX9_copy_43 : decode cX9_copy 43 = .ok (.return_, 1) := by decide +kernel
theorem dX9_kept_0 : decode cX9_kept 0 = .ok (.iload_n 0, 1) := by decide +kernel
theorem dX9_kept_1 : decode cX9_kept 1 = .ok (.tableswitch 61 0 4 #[35, 40, 45, 61, 49], 35) := by decide +kernel
theorem dX9_kept_36 : decode cX9_kept 36 = .ok (.lload_n 1, 1) := by decide +kernel
theorem dX9_kept_37 : decode cX9_kept 37 = .ok (.l2i, 1) := by decide +kernel
theorem dX9_kept_38 : decode cX9_kept 38 = .ok (.i2b, 1) := by decide +kernel
theorem dX9_kept_39 : decode cX9_kept 39 = .ok (.i2l, 1) := by decide +kernel
theorem dX9_kept_40 : decode cX9_kept 40 = .ok (.lreturn, 1) := by decide +kernel
theorem dX9_kept_41 : decode cX9_kept 41 = .ok (.lload_n 1, 1) := by decide +kernel
theorem dX9_kept_42 : decode cX9_kept 42 = .ok (.l2i, 1) := by decide +kernel
theorem dX9_kept_43 : decode cX9_kept 43 = .ok (.i2s, 1) := by decide +kernel
theorem dX9_kept_44 : decode cX9_kept 44 = .ok (.i2l, 1) := by decide +kernel
theorem dX9_kept_45 : decode cX9_kept 45 = .ok (.lreturn, 1) := by decide +kernel
theorem dX9_kept_46 : decode cX9_kept 46 = .ok (.lload_n 1, 1) := by decide +kernel
theorem dX9_kept_47 : decode cX9_kept 47 = .ok (.l2i, 1) := by decide +kernel
theorem dX9_kept_48 : decode cX9_kept 48 = .ok (.i2l, 1) := by decide +kernel
theorem dX9_kept_49 : decode cX9_kept 49 = .ok (.lreturn, 1) := by decide +kernel
theorem dX9_kept_50 : decode cX9_kept 50 = .ok (.lload_n 1, 1) := by decide +kernel
theorem dX9_kept_51 : decode cX9_kept 51 = .ok (.lconst 0, 1) := by decide +kernel
theorem dX9_kept_52 : decode cX9_kept 52 = .ok (.lcmp, 1) := by decide +kernel
theorem dX9_kept_53 : decode cX9_kept 53 = .ok (.ifCond .ne 7, 3) := by decide +kernel
theorem dX9_kept_56 : decode cX9_kept 56 = .ok (.lconst 0, 1) := by decide +kernel
theorem dX9_kept_57 : decode cX9_kept 57 = .ok (.goto 4, 3) := by decide +kernel
theorem dX9_kept_60 : decode cX9_kept 60 = .ok (.lconst 1, 1) := by decide +kernel
theorem dX9_kept_61 : decode cX9_kept 61 = .ok (.lreturn, 1) := by decide +kernel
theorem dX9_kept_62 : decode cX9_kept 62 = .ok (.lload_n 1, 1) := by decide +kernel
theorem dX9_kept_63 : decode cX9_kept 63 = .ok (.lreturn, 1) := by decide +kernel
theorem dX10_init_0 : decode cX10_init 0 = .ok (.aload_n 0, 1) := by decide +kernel
theorem dX10_init_1 : decode cX10_init 1 = .ok (.invokespecial 1, 3) := by decide +kernel
theorem dX10_init_4 : decode cX10_init 4 = .ok (.aload_n 0, 1) := by decide +kernel
theorem dX10_init_5 : decode cX10_init 5 = .ok (.bipush 120, 2) := by decide +kernel
theorem dX10_init_7 : decode cX10_init 7 = .ok (.newarray .int, 2) := by decide +kernel
theorem dX10_init_9 : decode cX10_init 9 = .ok (.putfield 9, 3) := by decide +kernel
theorem dX10_init_12 : decode cX10_init 12 = .ok (.return_, 1) := by decide +kernel
theorem dX10_add_0 : decode cX10_add 0 = .ok (.iload_n 1, 1) := by decide +kernel
theorem dX10_add_1 : decode cX10_add 1 = .ok (.bipush 120, 2) := by decide +kernel
theorem dX10_add_3 : decode cX10_add 3 = .ok (.aload_n 0, 1) := by decide +kernel
theorem dX10_add_4 : decode cX10_add 4 = .ok (.getfield 13, 3) := by decide +kernel
theorem dX10_add_7 : decode cX10_add 7 = .ok (.isub, 1) := by decide +kernel
theorem dX10_add_8 : decode cX10_add 8 = .ok (.if_icmp .le 5, 3) := by decide +kernel
theorem dX10_add_11 : decode cX10_add 11 = .ok (.iconst 0, 1) := by decide +kernel
theorem dX10_add_12 : decode cX10_add 12 = .ok (.ireturn, 1) := by decide +kernel
theorem dX10_add_13 : decode cX10_add 13 = .ok (.iconst 0, 1) := by decide +kernel
theorem dX10_add_14 : decode cX10_add 14 = .ok (.istore_n 3, 1) := by decide +kernel
theorem dX10_add_15 : decode cX10_add 15 = .ok (.iload_n 3, 1) := by decide +kernel
theorem dX10_add_16 : decode cX10_add 16 = .ok (.iload_n 1, 1) := by decide +kernel
theorem dX10_add_17 : decode cX10_add 17 = .ok (.if_icmp .ge 38, 3) := by decide +kernel
theorem dX10_add_20 : decode cX10_add 20 = .ok (.aload_n 0, 1) := by decide +kernel
theorem dX10_add_21 : decode cX10_add 21 = .ok (.getfield 9, 3) := by decide +kernel
theorem dX10_add_24 : decode cX10_add 24 = .ok (.aload_n 0, 1) := by decide +kernel
theorem dX10_add_25 : decode cX10_add 25 = .ok (.getfield 13, 3) := by decide +kernel
theorem dX10_add_28 : decode cX10_add 28 = .ok (.iload_n 2, 1) := by decide +kernel
theorem dX10_add_29 : decode cX10_add 29 = .ok (.bipush 8, 2) := by decide +kernel
theorem dX10_add_31 : decode cX10_add 31 = .ok (.iload_n 3, 1) := by decide +kernel
theorem dX10_add_32 : decode cX10_add 32 = .ok (.imul, 1) := by decide +kernel
theorem dX10_add_33 : decode cX10_add 33 = .ok (.iushr, 1) := by decide +kernel
theorem dX10_add_34 : decode cX10_add 34 = .ok (.sipush 255, 3) := by decide +kernel
theorem dX10_add_37 : decode cX10_add 37 = .ok (.iand, 1) := by decide +kernel
theorem dX10_add_38 : decode cX10_add 38 = .ok (.iastore, 1) := by decide +kernel
theorem dX10_add_39 : decode cX10_add 39 = .ok (.aload_n 0, 1) := by decide +kernel
theorem dX10_add_40 : decode cX10_add 40 = .ok (.dup, 1) := by decide +kernel
theorem dX10_add_41 : decode cX10_add 41 = .ok (.getfield 13, 3) := by decide +kernel
theorem dX10_add_44 : decode cX10_add 44 = .ok (.iconst 1, 1) := by decide +kernel
theorem dX10_add_45 : decode cX10_add 45 = .ok (.iadd, 1) := by decide +kernel
theorem dX10_add_46 : decode cX10_add 46 = .ok (.putfield 13, 3) := by decide +kernel
theorem dX10_add_49 : decode cX10_add 49 = .ok (.iinc 3 1, 3) := by decide +kernel
theorem dX10_add_52 : decode cX10_add 52 = .ok (.goto (-37), 3) := by decide +kernel
theorem dX10_add_55 : decode cX10_add 55 = .ok (.iconst 1, 1) := by decide +kernel
theorem dX10_add_56 : decode cX10_add 56 = .ok (.ireturn, 1) := by decide +kernel
theorem dX10_clear_0 : decode cX10_clear 0 = .ok (.aload_n 0, 1) := by decide +kernel
theorem dX10_clear_1 : decode cX10_clear 1 = .ok (.iconst 0, 1) := by decide +kernel
theorem dX10_clear_2 : decode cX10_clear 2 = .ok (.putfield 13, 3) := by decide +kernel
theorem dX10_clear_5 : decode cX10_clear 5 = .ok (.aload_n 0, 1) := by decide +kernel
theorem dX10_clear_6 : decode cX10_clear 6 = .ok (.iconst 0, 1) := by decide +kernel
theorem dX10_clear_7 : decode cX10_clear 7 = .ok (.putfield 17, 3) := by decide +kernel
theorem dX10_clear_10 : decode cX10_clear 10 = .ok (.return_, 1) := by decide +kernel
theorem dX10_isAtEnd_0 : decode cX10_isAtEnd 0 = .ok (.aload_n 0, 1) := by decide +kernel
theorem dX10_isAtEnd_1 : decode cX10_isAtEnd 1 = .ok (.getfield 17, 3) := by decide +kernel
theorem dX10_isAtEnd_4 : decode cX10_isAtEnd 4 = .ok (.aload_n 0, 1) := by decide +kernel
theorem dX10_isAtEnd_5 : decode cX10_isAtEnd 5 = .ok (.getfield 13, 3) := by decide +kernel
theorem dX10_isAtEnd_8 : decode cX10_isAtEnd 8 = .ok (.if_icmp .lt 7, 3) := by decide +kernel
theorem dX10_isAtEnd_11 : decode cX10_isAtEnd 11 = .ok (.iconst 1, 1) := by decide +kernel
theorem dX10_isAtEnd_12 : decode cX10_isAtEnd 12 = .ok (.goto 4, 3) := by decide +kernel
theorem dX10_isAtEnd_15 : decode cX10_isAtEnd 15 = .ok (.iconst 0, 1) := by decide +kernel
theorem dX10_isAtEnd_16 : decode cX10_isAtEnd 16 = .ok (.ireturn, 1) := by decide +kernel
theorem dX10_seen_0 : decode cX10_seen 0 = .ok (.aload_n 0, 1) := by decide +kernel
theorem dX10_seen_1 : decode cX10_seen 1 = .ok (.getfield 17, 3) := by decide +kernel
theorem dX10_seen_4 : decode cX10_seen 4 = .ok (.ifCond .lt 26, 3) := by decide +kernel
theorem dX10_seen_7 : decode cX10_seen 7 = .ok (.aload_n 0, 1) := by decide +kernel
theorem dX10_seen_8 : decode cX10_seen 8 = .ok (.getfield 17, 3) := by decide +kernel
theorem dX10_seen_11 : decode cX10_seen 11 = .ok (.aload_n 0, 1) := by decide +kernel
theorem dX10_seen_12 : decode cX10_seen 12 = .ok (.getfield 13, 3) := by decide +kernel
theorem dX10_seen_15 : decode cX10_seen 15 = .ok (.if_icmp .ge 15, 3) := by decide +kernel
theorem dX10_seen_18 : decode cX10_seen 18 = .ok (.aload_n 0, 1) := by decide +kernel
theorem dX10_seen_19 : decode cX10_seen 19 = .ok (.getfield 9, 3) := by decide +kernel
theorem dX10_seen_22 : decode cX10_seen 22 = .ok (.aload_n 0, 1) := by decide +kernel
theorem dX10_seen_23 : decode cX10_seen 23 = .ok (.getfield 17, 3) := by decide +kernel
theorem dX10_seen_26 : decode cX10_seen 26 = .ok (.iaload, 1) := by decide +kernel
theorem dX10_seen_27 : decode cX10_seen 27 = .ok (.goto 4, 3) := by decide +kernel
theorem dX10_seen_30 : decode cX10_seen 30 = .ok (.iconst (-1), 1) := by decide +kernel
theorem dX10_seen_31 : decode cX10_seen 31 = .ok (.ireturn, 1) := by decide +kernel
theorem dX10_pass_0 : decode cX10_pass 0 = .ok (.aload_n 0, 1) := by decide +kernel
theorem dX10_pass_1 : decode cX10_pass 1 = .ok (.invokevirtual 20, 3) := by decide +kernel
theorem dX10_pass_4 : decode cX10_pass 4 = .ok (.iload_n 1, 1) := by decide +kernel
theorem dX10_pass_5 : decode cX10_pass 5 = .ok (.if_icmp .eq 5, 3) := by decide +kernel
theorem dX10_pass_8 : decode cX10_pass 8 = .ok (.iconst 0, 1) := by decide +kernel
theorem dX10_pass_9 : decode cX10_pass 9 = .ok (.ireturn, 1) := by decide +kernel
theorem dX10_pass_10 : decode cX10_pass 10 = .ok (.aload_n 0, 1) := by decide +kernel
theorem dX10_pass_11 : decode cX10_pass 11 = .ok (.dup, 1) := by decide +kernel
theorem dX10_pass_12 : decode cX10_pass 12 = .ok (.getfield 17, 3) := by decide +kernel
theorem dX10_pass_15 : decode cX10_pass 15 = .ok (.iconst 1, 1) := by decide +kernel
theorem dX10_pass_16 : decode cX10_pass 16 = .ok (.iadd, 1) := by decide +kernel
theorem dX10_pass_17 : decode cX10_pass 17 = .ok (.putfield 17, 3) := by decide +kernel
theorem dX10_pass_20 : decode cX10_pass 20 = .ok (.iconst 1, 1) := by decide +kernel
theorem dX10_pass_21 : decode cX10_pass 21 = .ok (.ireturn, 1) := by decide +kernel
theorem dX10_seesDigit_0 : decode cX10_seesDigit 0 = .ok (.aload_n 0, 1) := by decide +kernel
theorem dX10_seesDigit_1 : decode cX10_seesDigit 1 = .ok (.invokevirtual 20, 3) := by decide +kernel
theorem dX10_seesDigit_4 : decode cX10_seesDigit 4 = .ok (.istore_n 1, 1) := by decide +kernel
theorem dX10_seesDigit_5 : decode cX10_seesDigit 5 = .ok (.iload_n 1, 1) := by decide +kernel
theorem dX10_seesDigit_6 : decode cX10_seesDigit 6 = .ok (.bipush 48, 2) := by decide +kernel
theorem dX10_seesDigit_8 : decode cX10_seesDigit 8 = .ok (.if_icmp .lt 13, 3) := by decide +kernel
theorem dX10_seesDigit_11 : decode cX10_seesDigit 11 = .ok (.iload_n 1, 1) := by decide +kernel
theorem dX10_seesDigit_12 : decode cX10_seesDigit 12 = .ok (.bipush 57, 2) := by decide +kernel
theorem dX10_seesDigit_14 : decode cX10_seesDigit 14 = .ok (.if_icmp .gt 7, 3) := by decide +kernel
theorem dX10_seesDigit_17 : decode cX10_seesDigit 17 = .ok (.iconst 1, 1) := by decide +kernel
theorem dX10_seesDigit_18 : decode cX10_seesDigit 18 = .ok (.goto 4, 3) := by decide +kernel
theorem dX10_seesDigit_21 : decode cX10_seesDigit 21 = .ok (.iconst 0, 1) := by decide +kernel
theorem dX10_seesDigit_22 : decode cX10_seesDigit 22 = .ok (.ireturn, 1) := by decide +kernel
theorem dX10_digit_0 : decode cX10_digit 0 = .ok (.aload_n 0, 1) := by decide +kernel
theorem dX10_digit_1 : decode cX10_digit 1 = .ok (.invokevirtual 20, 3) := by decide +kernel
theorem dX10_digit_4 : decode cX10_digit 4 = .ok (.istore_n 1, 1) := by decide +kernel
theorem dX10_digit_5 : decode cX10_digit 5 = .ok (.iload_n 1, 1) := by decide +kernel
theorem dX10_digit_6 : decode cX10_digit 6 = .ok (.bipush 48, 2) := by decide +kernel
theorem dX10_digit_8 : decode cX10_digit 8 = .ok (.if_icmp .lt 9, 3) := by decide +kernel
theorem dX10_digit_11 : decode cX10_digit 11 = .ok (.iload_n 1, 1) := by decide +kernel
theorem dX10_digit_12 : decode cX10_digit 12 = .ok (.bipush 57, 2) := by decide +kernel
theorem dX10_digit_14 : decode cX10_digit 14 = .ok (.if_icmp .le 5, 3) := by decide +kernel
theorem dX10_digit_17 : decode cX10_digit 17 = .ok (.iconst (-1), 1) := by decide +kernel
theorem dX10_digit_18 : decode cX10_digit 18 = .ok (.ireturn, 1) := by decide +kernel
theorem dX10_digit_19 : decode cX10_digit 19 = .ok (.aload_n 0, 1) := by decide +kernel
theorem dX10_digit_20 : decode cX10_digit 20 = .ok (.dup, 1) := by decide +kernel
theorem dX10_digit_21 : decode cX10_digit 21 = .ok (.getfield 17, 3) := by decide +kernel
theorem dX10_digit_24 : decode cX10_digit 24 = .ok (.iconst 1, 1) := by decide +kernel
theorem dX10_digit_25 : decode cX10_digit 25 = .ok (.iadd, 1) := by decide +kernel
theorem dX10_digit_26 : decode cX10_digit 26 = .ok (.putfield 17, 3) := by decide +kernel
theorem dX10_digit_29 : decode cX10_digit 29 = .ok (.iload_n 1, 1) := by decide +kernel
theorem dX10_digit_30 : decode cX10_digit 30 = .ok (.bipush 48, 2) := by decide +kernel
theorem dX10_digit_32 : decode cX10_digit 32 = .ok (.isub, 1) := by decide +kernel
theorem dX10_digit_33 : decode cX10_digit 33 = .ok (.ireturn, 1) := by decide +kernel
theorem dX10_back_0 : decode cX10_back 0 = .ok (.aload_n 0, 1) := by decide +kernel
theorem dX10_back_1 : decode cX10_back 1 = .ok (.dup, 1) := by decide +kernel
theorem dX10_back_2 : decode cX10_back 2 = .ok (.getfield 17, 3) := by decide +kernel
theorem dX10_back_5 : decode cX10_back 5 = .ok (.iload_n 1, 1) := by decide +kernel
theorem dX10_back_6 : decode cX10_back 6 = .ok (.isub, 1) := by decide +kernel
theorem dX10_back_7 : decode cX10_back 7 = .ok (.putfield 17, 3) := by decide +kernel
theorem dX10_back_10 : decode cX10_back 10 = .ok (.return_, 1) := by decide +kernel
theorem dX11_init_0 : decode cX11_init 0 = .ok (.aload_n 0, 1) := by decide +kernel
theorem dX11_init_1 : decode cX11_init 1 = .ok (.invokespecial 1, 3) := by decide +kernel
theorem dX11_init_4 : decode cX11_init 4 = .ok (.aload_n 0, 1) := by decide +kernel
theorem dX11_init_5 : decode cX11_init 5 = .ok (.new 7, 3) := by decide +kernel
theorem dX11_init_8 : decode cX11_init 8 = .ok (.dup, 1) := by decide +kernel
theorem dX11_init_9 : decode cX11_init 9 = .ok (.invokespecial 9, 3) := by decide +kernel
theorem dX11_init_12 : decode cX11_init 12 = .ok (.putfield 10, 3) := by decide +kernel
theorem dX11_init_15 : decode cX11_init 15 = .ok (.aload_n 0, 1) := by decide +kernel
theorem dX11_init_16 : decode cX11_init 16 = .ok (.new 16, 3) := by decide +kernel
theorem dX11_init_19 : decode cX11_init 19 = .ok (.dup, 1) := by decide +kernel
theorem dX11_init_20 : decode cX11_init 20 = .ok (.aload_n 0, 1) := by decide +kernel
theorem dX11_init_21 : decode cX11_init 21 = .ok (.getfield 10, 3) := by decide +kernel
theorem dX11_init_24 : decode cX11_init 24 = .ok (.invokespecial 18, 3) := by decide +kernel
theorem dX11_init_27 : decode cX11_init 27 = .ok (.putfield 21, 3) := by decide +kernel
theorem dX11_init_30 : decode cX11_init 30 = .ok (.aload_n 0, 1) := by decide +kernel
theorem dX11_init_31 : decode cX11_init 31 = .ok (.new 25, 3) := by decide +kernel
theorem dX11_init_34 : decode cX11_init 34 = .ok (.dup, 1) := by decide +kernel
theorem dX11_init_35 : decode cX11_init 35 = .ok (.aload_n 0, 1) := by decide +kernel
theorem dX11_init_36 : decode cX11_init 36 = .ok (.getfield 10, 3) := by decide +kernel
theorem dX11_init_39 : decode cX11_init 39 = .ok (.invokespecial 27, 3) := by decide +kernel
theorem dX11_init_42 : decode cX11_init 42 = .ok (.putfield 28, 3) := by decide +kernel
theorem dX11_init_45 : decode cX11_init 45 = .ok (.aload_n 0, 1) := by decide +kernel
theorem dX11_init_46 : decode cX11_init 46 = .ok (.new 32, 3) := by decide +kernel
theorem dX11_init_49 : decode cX11_init 49 = .ok (.dup, 1) := by decide +kernel
theorem dX11_init_50 : decode cX11_init 50 = .ok (.invokespecial 34, 3) := by decide +kernel
theorem dX11_init_53 : decode cX11_init 53 = .ok (.putfield 35, 3) := by decide +kernel
theorem dX11_init_56 : decode cX11_init 56 = .ok (.aload_n 0, 1) := by decide +kernel
theorem dX11_init_57 : decode cX11_init 57 = .ok (.new 39, 3) := by decide +kernel
theorem dX11_init_60 : decode cX11_init 60 = .ok (.dup, 1) := by decide +kernel
theorem dX11_init_61 : decode cX11_init 61 = .ok (.aload_n 0, 1) := by decide +kernel
theorem dX11_init_62 : decode cX11_init 62 = .ok (.getfield 35, 3) := by decide +kernel
theorem dX11_init_65 : decode cX11_init 65 = .ok (.invokespecial 41, 3) := by decide +kernel
theorem dX11_init_68 : decode cX11_init 68 = .ok (.putfield 44, 3) := by decide +kernel
theorem dX11_init_71 : decode cX11_init 71 = .ok (.aload_n 0, 1) := by decide +kernel
theorem dX11_init_72 : decode cX11_init 72 = .ok (.new 48, 3) := by decide +kernel
theorem dX11_init_75 : decode cX11_init 75 = .ok (.dup, 1) := by decide +kernel
theorem dX11_init_76 : decode cX11_init 76 = .ok (.aload_n 0, 1) := by decide +kernel
theorem dX11_init_77 : decode cX11_init 77 = .ok (.getfield 21, 3) := by decide +kernel
theorem dX11_init_80 : decode cX11_init 80 = .ok (.aload_n 0, 1) := by decide +kernel
theorem dX11_init_81 : decode cX11_init 81 = .ok (.getfield 28, 3) := by decide +kernel
theorem dX11_init_84 : decode cX11_init 84 = .ok (.aload_n 0, 1) := by decide +kernel
theorem dX11_init_85 : decode cX11_init 85 = .ok (.getfield 44, 3) := by decide +kernel
theorem dX11_init_88 : decode cX11_init 88 = .ok (.invokespecial 50, 3) := by decide +kernel
theorem dX11_init_91 : decode cX11_init 91 = .ok (.putfield 53, 3) := by decide +kernel
theorem dX11_init_94 : decode cX11_init 94 = .ok (.aload_n 0, 1) := by decide +kernel
theorem dX11_init_95 : decode cX11_init 95 = .ok (.new 57, 3) := by decide +kernel
theorem dX11_init_98 : decode cX11_init 98 = .ok (.dup, 1) := by decide +kernel
theorem dX11_init_99 : decode cX11_init 99 = .ok (.aload_n 0, 1) := by decide +kernel
theorem dX11_init_100 : decode cX11_init 100 = .ok (.getfield 21, 3) := by decide +kernel
theorem dX11_init_103 : decode cX11_init 103 = .ok (.aload_n 0, 1) := by decide +kernel
theorem dX11_init_104 : decode cX11_init 104 = .ok (.getfield 35, 3) := by decide +kernel
theorem dX11_init_107 : decode cX11_init 107 = .ok (.invokespecial 59, 3) := by decide +kernel
theorem dX11_init_110 : decode cX11_init 110 = .ok (.putfield 62, 3) := by decide +kernel
theorem dX11_init_113 : decode cX11_init 113 = .ok (.aload_n 0, 1) := by decide +kernel
theorem dX11_init_114 : decode cX11_init 114 = .ok (.new 66, 3) := by decide +kernel
theorem dX11_init_117 : decode cX11_init 117 = .ok (.dup, 1) := by decide +kernel
theorem dX11_init_118 : decode cX11_init 118 = .ok (.invokespecial 68, 3) := by decide +kernel
theorem dX11_init_121 : decode cX11_init 121 = .ok (.putfield 69, 3) := by decide +kernel
theorem dX11_init_124 : decode cX11_init 124 = .ok (.aload_n 0, 1) := by decide +kernel
theorem dX11_init_125 : decode cX11_init 125 = .ok (.new 73, 3) := by decide +kernel
theorem dX11_init_128 : decode cX11_init 128 = .ok (.dup, 1) := by decide +kernel
theorem dX11_init_129 : decode cX11_init 129 = .ok (.invokespecial 75, 3) := by decide +kernel
theorem dX11_init_132 : decode cX11_init 132 = .ok (.putfield 76, 3) := by decide +kernel
theorem dX11_init_135 : decode cX11_init 135 = .ok (.aload_n 0, 1) := by decide +kernel
theorem dX11_init_136 : decode cX11_init 136 = .ok (.new 80, 3) := by decide +kernel
theorem dX11_init_139 : decode cX11_init 139 = .ok (.dup, 1) := by decide +kernel
theorem dX11_init_140 : decode cX11_init 140 = .ok (.invokespecial 82, 3) := by decide +kernel
theorem dX11_init_143 : decode cX11_init 143 = .ok (.putfield 83, 3) := by decide +kernel
theorem dX11_init_146 : decode cX11_init 146 = .ok (.return_, 1) := by decide +kernel
theorem dX11_feed_0 : decode cX11_feed 0 = .ok (.iload_n 1, 1) := by decide +kernel
theorem dX11_feed_1 : decode cX11_feed 1 = .ok (.iconst 1, 1) := by decide +kernel
theorem dX11_feed_2 : decode cX11_feed 2 = .ok (.iconst 4, 1) := by decide +kernel
theorem dX11_feed_3 : decode cX11_feed 3 = .ok (.invokestatic 87, 3) := by decide +kernel
theorem dX11_feed_6 : decode cX11_feed 6 = .ok (.ifCond .ne 5, 3) := by decide +kernel
theorem dX11_feed_9 : decode cX11_feed 9 = .ok (.iconst (-1), 1) := by decide +kernel
theorem dX11_feed_10 : decode cX11_feed 10 = .ok (.ireturn, 1) := by decide +kernel
theorem dX11_feed_11 : decode cX11_feed 11 = .ok (.aload_n 0, 1) := by decide +kernel
theorem dX11_feed_12 : decode cX11_feed 12 = .ok (.getfield 10, 3) := by decide +kernel
theorem dX11_feed_15 : decode cX11_feed 15 = .ok (.iload_n 1, 1) := by decide +kernel
theorem dX11_feed_16 : decode cX11_feed 16 = .ok (.iload_n 2, 1) := by decide +kernel
theorem dX11_feed_17 : decode cX11_feed 17 = .ok (.invokevirtual 91, 3) := by decide +kernel
theorem dX11_feed_20 : decode cX11_feed 20 = .ok (.ifCond .eq 13, 3) := by decide +kernel
theorem dX11_feed_23 : decode cX11_feed 23 = .ok (.aload_n 0, 1) := by decide +kernel
theorem dX11_feed_24 : decode cX11_feed 24 = .ok (.getfield 10, 3) := by decide +kernel
theorem dX11_feed_27 : decode cX11_feed 27 = .ok (.getfield 95, 3) := by decide +kernel
theorem dX11_feed_30 : decode cX11_feed 30 = .ok (.goto 5, 3) := by decide +kernel
theorem dX11_feed_33 : decode cX11_feed 33 = .ok (.bipush (-3), 2) := by decide +kernel
theorem dX11_feed_35 : decode cX11_feed 35 = .ok (.ireturn, 1) := by decide +kernel
theorem dX11_place_0 : decode cX11_place 0 = .ok (.aload_n 0, 1) := by decide +kernel
theorem dX11_place_1 : decode cX11_place 1 = .ok (.getfield 21, 3) := by decide +kernel
theorem dX11_place_4 : decode cX11_place 4 = .ok (.invokevirtual 99, 3) := by decide +kernel
theorem dX11_place_7 : decode cX11_place 7 = .ok (.ifCond .eq 6, 3) := by decide +kernel
theorem dX11_place_10 : decode cX11_place 10 = .ok (.bipush (-3), 2) := by decide +kernel
theorem dX11_place_12 : decode cX11_place 12 = .ok (.ireturn, 1) := by decide +kernel
theorem dX11_place_13 : decode cX11_place 13 = .ok (.aload_n 0, 1) := by decide +kernel
theorem dX11_place_14 : decode cX11_place 14 = .ok (.getfield 21, 3) := by decide +kernel
theorem dX11_place_17 : decode cX11_place 17 = .ok (.invokevirtual 103, 3) := by decide +kernel
theorem dX11_place_20 : decode cX11_place 20 = .ok (.ifCond .eq 15, 3) := by decide +kernel
theorem dX11_place_23 : decode cX11_place 23 = .ok (.aload_n 0, 1) := by decide +kernel
theorem dX11_place_24 : decode cX11_place 24 = .ok (.getfield 21, 3) := by decide +kernel
theorem dX11_place_27 : decode cX11_place 27 = .ok (.getfield 106, 3) := by decide +kernel
theorem dX11_place_30 : decode cX11_place 30 = .ok (.iconst 1, 1) := by decide +kernel
theorem dX11_place_31 : decode cX11_place 31 = .ok (.isub, 1) := by decide +kernel
theorem dX11_place_32 : decode cX11_place 32 = .ok (.goto 13, 3) := by decide +kernel
theorem dX11_place_35 : decode cX11_place 35 = .ok (.bipush (-100), 2) := by decide +kernel
theorem dX11_place_37 : decode cX11_place 37 = .ok (.aload_n 0, 1) := by decide +kernel
theorem dX11_place_38 : decode cX11_place 38 = .ok (.getfield 10, 3) := by decide +kernel
theorem dX11_place_41 : decode cX11_place 41 = .ok (.getfield 109, 3) := by decide +kernel
theorem dX11_place_44 : decode cX11_place 44 = .ok (.isub, 1) := by decide +kernel
theorem dX11_place_45 : decode cX11_place 45 = .ok (.istore_n 1, 1) := by decide +kernel
theorem dX11_place_46 : decode cX11_place 46 = .ok (.aload_n 0, 1) := by decide +kernel
theorem dX11_place_47 : decode cX11_place 47 = .ok (.getfield 10, 3) := by decide +kernel
theorem dX11_place_50 : decode cX11_place 50 = .ok (.invokevirtual 112, 3) := by decide +kernel
theorem dX11_place_53 : decode cX11_place 53 = .ok (.iload_n 1, 1) := by decide +kernel
theorem dX11_place_54 : decode cX11_place 54 = .ok (.ireturn, 1) := by decide +kernel
theorem dX11_cell_0 : decode cX11_cell 0 = .ok (.aload_n 0, 1) := by decide +kernel
theorem dX11_cell_1 : decode cX11_cell 1 = .ok (.getfield 21, 3) := by decide +kernel
theorem dX11_cell_4 : decode cX11_cell 4 = .ok (.iload_n 1, 1) := by decide +kernel
theorem dX11_cell_5 : decode cX11_cell 5 = .ok (.invokevirtual 115, 3) := by decide +kernel
theorem dX11_cell_8 : decode cX11_cell 8 = .ok (.ifCond .ne 5, 3) := by decide +kernel
theorem dX11_cell_11 : decode cX11_cell 11 = .ok (.iconst (-1), 1) := by decide +kernel
theorem dX11_cell_12 : decode cX11_cell 12 = .ok (.ireturn, 1) := by decide +kernel
theorem dX11_cell_13 : decode cX11_cell 13 = .ok (.iload_n 2, 1) := by decide +kernel
theorem dX11_cell_14 : decode cX11_cell 14 = .ok (.iconst (-1), 1) := by decide +kernel
theorem dX11_cell_15 : decode cX11_cell 15 = .ok (.if_icmp .ne 36, 3) := by decide +kernel
theorem dX11_cell_18 : decode cX11_cell 18 = .ok (.iload_n 3, 1) := by decide +kernel
theorem dX11_cell_19 : decode cX11_cell 19 = .ok (.ifCond .ne 14, 3) := by decide +kernel
theorem dX11_cell_22 : decode cX11_cell 22 = .ok (.aload_n 0, 1) := by decide +kernel
theorem dX11_cell_23 : decode cX11_cell 23 = .ok (.getfield 21, 3) := by decide +kernel
theorem dX11_cell_26 : decode cX11_cell 26 = .ok (.iload_n 1, 1) := by decide +kernel
theorem dX11_cell_27 : decode cX11_cell 27 = .ok (.invokevirtual 119, 3) := by decide +kernel
theorem dX11_cell_30 : decode cX11_cell 30 = .ok (.goto 20, 3) := by decide +kernel
theorem dX11_cell_33 : decode cX11_cell 33 = .ok (.iload_n 3, 1) := by decide +kernel
theorem dX11_cell_34 : decode cX11_cell 34 = .ok (.iconst 1, 1) := by decide +kernel
theorem dX11_cell_35 : decode cX11_cell 35 = .ok (.if_icmp .ne 14, 3) := by decide +kernel
theorem dX11_cell_38 : decode cX11_cell 38 = .ok (.aload_n 0, 1) := by decide +kernel
theorem dX11_cell_39 : decode cX11_cell 39 = .ok (.getfield 21, 3) := by decide +kernel
theorem dX11_cell_42 : decode cX11_cell 42 = .ok (.iload_n 1, 1) := by decide +kernel
theorem dX11_cell_43 : decode cX11_cell 43 = .ok (.invokevirtual 123, 3) := by decide +kernel
theorem dX11_cell_46 : decode cX11_cell 46 = .ok (.goto 4, 3) := by decide +kernel
theorem dX11_cell_49 : decode cX11_cell 49 = .ok (.iconst (-1), 1) := by decide +kernel
theorem dX11_cell_50 : decode cX11_cell 50 = .ok (.ireturn, 1) := by decide +kernel
theorem dX11_cell_51 : decode cX11_cell 51 = .ok (.aload_n 0, 1) := by decide +kernel
theorem dX11_cell_52 : decode cX11_cell 52 = .ok (.getfield 21, 3) := by decide +kernel
theorem dX11_cell_55 : decode cX11_cell 55 = .ok (.iload_n 1, 1) := by decide +kernel
theorem dX11_cell_56 : decode cX11_cell 56 = .ok (.iload_n 2, 1) := by decide +kernel
theorem dX11_cell_57 : decode cX11_cell 57 = .ok (.invokevirtual 126, 3) := by decide +kernel
theorem dX11_cell_60 : decode cX11_cell 60 = .ok (.ifCond .ne 5, 3) := by decide +kernel
theorem dX11_cell_63 : decode cX11_cell 63 = .ok (.iconst (-1), 1) := by decide +kernel
theorem dX11_cell_64 : decode cX11_cell 64 = .ok (.ireturn, 1) := by decide +kernel
theorem dX11_cell_65 : decode cX11_cell 65 = .ok (.iload_n 3, 1) := by decide +kernel
theorem dX11_cell_66 : decode cX11_cell 66 = .ok (.iconst 0, 1) := by decide +kernel
theorem dX11_cell_67 : decode cX11_cell 67 = .ok (.iconst 2, 1) := by decide +kernel
theorem dX11_cell_68 : decode cX11_cell 68 = .ok (.invokestatic 87, 3) := by decide +kernel
theorem dX11_cell_71 : decode cX11_cell 71 = .ok (.ifCond .eq 14, 3) := by decide +kernel
theorem dX11_cell_74 : decode cX11_cell 74 = .ok (.aload_n 0, 1) := by decide +kernel
theorem dX11_cell_75 : decode cX11_cell 75 = .ok (.getfield 21, 3) := by decide +kernel
theorem dX11_cell_78 : decode cX11_cell 78 = .ok (.iload_n 1, 1) := by decide +kernel
theorem dX11_cell_79 : decode cX11_cell 79 = .ok (.iload_n 2, 1) := by decide +kernel
theorem dX11_cell_80 : decode cX11_cell 80 = .ok (.iload_n 3, 1) := by decide +kernel
theorem dX11_cell_81 : decode cX11_cell 81 = .ok (.invokevirtual 129, 3) := by decide +kernel
theorem dX11_cell_84 : decode cX11_cell 84 = .ok (.ireturn, 1) := by decide +kernel
theorem dX11_cell_85 : decode cX11_cell 85 = .ok (.iload 4, 2) := by decide +kernel
theorem dX11_cell_87 : decode cX11_cell 87 = .ok (.invokestatic 133, 3) := by decide +kernel
theorem dX11_cell_90 : decode cX11_cell 90 = .ok (.ifCond .ne 5, 3) := by decide +kernel
theorem dX11_cell_93 : decode cX11_cell 93 = .ok (.iconst (-1), 1) := by decide +kernel
theorem dX11_cell_94 : decode cX11_cell 94 = .ok (.ireturn, 1) := by decide +kernel
theorem dX11_cell_95 : decode cX11_cell 95 = .ok (.aload_n 0, 1) := by decide +kernel
theorem dX11_cell_96 : decode cX11_cell 96 = .ok (.getfield 28, 3) := by decide +kernel
theorem dX11_cell_99 : decode cX11_cell 99 = .ok (.iload 4, 2) := by decide +kernel
theorem dX11_cell_101 : decode cX11_cell 101 = .ok (.invokevirtual 136, 3) := by decide +kernel
theorem dX11_cell_104 : decode cX11_cell 104 = .ok (.istore 5, 2) := by decide +kernel
theorem dX11_cell_106 : decode cX11_cell 106 = .ok (.iload_n 3, 1) := by decide +kernel
theorem dX11_cell_107 : decode cX11_cell 107 = .ok (.iconst 3, 1) := by decide +kernel
theorem dX11_cell_108 : decode cX11_cell 108 = .ok (.if_icmp .ne 17, 3) := by decide +kernel
theorem dX11_cell_111 : decode cX11_cell 111 = .ok (.aload_n 0, 1) := by decide +kernel
theorem dX11_cell_112 : decode cX11_cell 112 = .ok (.getfield 21, 3) := by decide +kernel
theorem dX11_cell_115 : decode cX11_cell 115 = .ok (.iload_n 1, 1) := by decide +kernel
theorem dX11_cell_116 : decode cX11_cell 116 = .ok (.iload_n 2, 1) := by decide +kernel
theorem dX11_cell_117 : decode cX11_cell 117 = .ok (.iload 5, 2) := by decide +kernel
theorem dX11_cell_119 : decode cX11_cell 119 = .ok (.invokevirtual 139, 3) := by decide +kernel
theorem dX11_cell_122 : decode cX11_cell 122 = .ok (.goto 23, 3) := by decide +kernel
theorem dX11_cell_125 : decode cX11_cell 125 = .ok (.iload_n 3, 1) := by decide +kernel
theorem dX11_cell_126 : decode cX11_cell 126 = .ok (.iconst 4, 1) := by decide +kernel
theorem dX11_cell_127 : decode cX11_cell 127 = .ok (.if_icmp .ne 17, 3) := by decide +kernel
theorem dX11_cell_130 : decode cX11_cell 130 = .ok (.aload_n 0, 1) := by decide +kernel
theorem dX11_cell_131 : decode cX11_cell 131 = .ok (.getfield 21, 3) := by decide +kernel
theorem dX11_cell_134 : decode cX11_cell 134 = .ok (.iload_n 1, 1) := by decide +kernel
theorem dX11_cell_135 : decode cX11_cell 135 = .ok (.iload_n 2, 1) := by decide +kernel
theorem dX11_cell_136 : decode cX11_cell 136 = .ok (.iload 5, 2) := by decide +kernel
theorem dX11_cell_138 : decode cX11_cell 138 = .ok (.invokevirtual 142, 3) := by decide +kernel
theorem dX11_cell_141 : decode cX11_cell 141 = .ok (.goto 4, 3) := by decide +kernel
theorem dX11_cell_144 : decode cX11_cell 144 = .ok (.iconst (-1), 1) := by decide +kernel
theorem dX11_cell_145 : decode cX11_cell 145 = .ok (.ireturn, 1) := by decide +kernel
theorem dX11_mend_0 : decode cX11_mend 0 = .ok (.aload_n 0, 1) := by decide +kernel
theorem dX11_mend_1 : decode cX11_mend 1 = .ok (.getfield 21, 3) := by decide +kernel
theorem dX11_mend_4 : decode cX11_mend 4 = .ok (.iload_n 1, 1) := by decide +kernel
theorem dX11_mend_5 : decode cX11_mend 5 = .ok (.iload_n 2, 1) := by decide +kernel
theorem dX11_mend_6 : decode cX11_mend 6 = .ok (.invokevirtual 126, 3) := by decide +kernel
theorem dX11_mend_9 : decode cX11_mend 9 = .ok (.ifCond .eq 12, 3) := by decide +kernel
theorem dX11_mend_12 : decode cX11_mend 12 = .ok (.iload_n 3, 1) := by decide +kernel
theorem dX11_mend_13 : decode cX11_mend 13 = .ok (.iconst 0, 1) := by decide +kernel
theorem dX11_mend_14 : decode cX11_mend 14 = .ok (.iconst 2, 1) := by decide +kernel
theorem dX11_mend_15 : decode cX11_mend 15 = .ok (.invokestatic 87, 3) := by decide +kernel
theorem dX11_mend_18 : decode cX11_mend 18 = .ok (.ifCond .ne 5, 3) := by decide +kernel
theorem dX11_mend_21 : decode cX11_mend 21 = .ok (.iconst (-1), 1) := by decide +kernel
theorem dX11_mend_22 : decode cX11_mend 22 = .ok (.ireturn, 1) := by decide +kernel
theorem dX11_mend_23 : decode cX11_mend 23 = .ok (.iload 4, 2) := by decide +kernel
theorem dX11_mend_25 : decode cX11_mend 25 = .ok (.iconst 0, 1) := by decide +kernel
theorem dX11_mend_26 : decode cX11_mend 26 = .ok (.iload_n 3, 1) := by decide +kernel
theorem dX11_mend_27 : decode cX11_mend 27 = .ok (.invokestatic 145, 3) := by decide +kernel
theorem dX11_mend_30 : decode cX11_mend 30 = .ok (.invokestatic 87, 3) := by decide +kernel
theorem dX11_mend_33 : decode cX11_mend 33 = .ok (.ifCond .eq 22, 3) := by decide +kernel
theorem dX11_mend_36 : decode cX11_mend 36 = .ok (.aload_n 0, 1) := by decide +kernel
theorem dX11_mend_37 : decode cX11_mend 37 = .ok (.getfield 62, 3) := by decide +kernel
theorem dX11_mend_40 : decode cX11_mend 40 = .ok (.iload_n 1, 1) := by decide +kernel
theorem dX11_mend_41 : decode cX11_mend 41 = .ok (.iload_n 2, 1) := by decide +kernel
theorem dX11_mend_42 : decode cX11_mend 42 = .ok (.invokestatic 148, 3) := by decide +kernel
theorem dX11_mend_45 : decode cX11_mend 45 = .ok (.iload_n 3, 1) := by decide +kernel
theorem dX11_mend_46 : decode cX11_mend 46 = .ok (.iadd, 1) := by decide +kernel
theorem dX11_mend_47 : decode cX11_mend 47 = .ok (.iload 4, 2) := by decide +kernel
theorem dX11_mend_49 : decode cX11_mend 49 = .ok (.invokevirtual 152, 3) := by decide +kernel
theorem dX11_mend_52 : decode cX11_mend 52 = .ok (.goto 4, 3) := by decide +kernel
theorem dX11_mend_55 : decode cX11_mend 55 = .ok (.iconst (-1), 1) := by decide +kernel
theorem dX11_mend_56 : decode cX11_mend 56 = .ok (.ireturn, 1) := by decide +kernel
theorem dX11_law_0 : decode cX11_law 0 = .ok (.aload_n 0, 1) := by decide +kernel
theorem dX11_law_1 : decode cX11_law 1 = .ok (.getfield 28, 3) := by decide +kernel
theorem dX11_law_4 : decode cX11_law 4 = .ok (.invokevirtual 155, 3) := by decide +kernel
theorem dX11_law_7 : decode cX11_law 7 = .ok (.ifCond .eq 6, 3) := by decide +kernel
theorem dX11_law_10 : decode cX11_law 10 = .ok (.bipush (-3), 2) := by decide +kernel
theorem dX11_law_12 : decode cX11_law 12 = .ok (.ireturn, 1) := by decide +kernel
theorem dX11_law_13 : decode cX11_law 13 = .ok (.aload_n 0, 1) := by decide +kernel
theorem dX11_law_14 : decode cX11_law 14 = .ok (.getfield 28, 3) := by decide +kernel
theorem dX11_law_17 : decode cX11_law 17 = .ok (.invokevirtual 156, 3) := by decide +kernel
theorem dX11_law_20 : decode cX11_law 20 = .ok (.ifCond .eq 15, 3) := by decide +kernel
theorem dX11_law_23 : decode cX11_law 23 = .ok (.aload_n 0, 1) := by decide +kernel
theorem dX11_law_24 : decode cX11_law 24 = .ok (.getfield 28, 3) := by decide +kernel
theorem dX11_law_27 : decode cX11_law 27 = .ok (.getfield 157, 3) := by decide +kernel
theorem dX11_law_30 : decode cX11_law 30 = .ok (.iconst 1, 1) := by decide +kernel
theorem dX11_law_31 : decode cX11_law 31 = .ok (.isub, 1) := by decide +kernel
theorem dX11_law_32 : decode cX11_law 32 = .ok (.goto 13, 3) := by decide +kernel
theorem dX11_law_35 : decode cX11_law 35 = .ok (.bipush (-100), 2) := by decide +kernel
theorem dX11_law_37 : decode cX11_law 37 = .ok (.aload_n 0, 1) := by decide +kernel
theorem dX11_law_38 : decode cX11_law 38 = .ok (.getfield 10, 3) := by decide +kernel
theorem dX11_law_41 : decode cX11_law 41 = .ok (.getfield 109, 3) := by decide +kernel
theorem dX11_law_44 : decode cX11_law 44 = .ok (.isub, 1) := by decide +kernel
theorem dX11_law_45 : decode cX11_law 45 = .ok (.istore_n 1, 1) := by decide +kernel
theorem dX11_law_46 : decode cX11_law 46 = .ok (.aload_n 0, 1) := by decide +kernel
theorem dX11_law_47 : decode cX11_law 47 = .ok (.getfield 10, 3) := by decide +kernel
theorem dX11_law_50 : decode cX11_law 50 = .ok (.invokevirtual 112, 3) := by decide +kernel
theorem dX11_law_53 : decode cX11_law 53 = .ok (.iload_n 1, 1) := by decide +kernel
theorem dX11_law_54 : decode cX11_law 54 = .ok (.ireturn, 1) := by decide +kernel
theorem dX11_force_0 : decode cX11_force 0 = .ok (.iload_n 1, 1) := by decide +kernel
theorem dX11_force_1 : decode cX11_force 1 = .ok (.iconst (-1), 1) := by decide +kernel
theorem dX11_force_2 : decode cX11_force 2 = .ok (.if_icmp .eq 17, 3) := by decide +kernel
theorem dX11_force_5 : decode cX11_force 5 = .ok (.aload_n 0, 1) := by decide +kernel
theorem dX11_force_6 : decode cX11_force 6 = .ok (.getfield 28, 3) := by decide +kernel
theorem dX11_force_9 : decode cX11_force 9 = .ok (.iload_n 1, 1) := by decide +kernel
theorem dX11_force_10 : decode cX11_force 10 = .ok (.invokevirtual 158, 3) := by decide +kernel
theorem dX11_force_13 : decode cX11_force 13 = .ok (.ifCond .ne 6, 3) := by decide +kernel
theorem dX11_force_16 : decode cX11_force 16 = .ok (.bipush (-2), 2) := by decide +kernel
theorem dX11_force_18 : decode cX11_force 18 = .ok (.ireturn, 1) := by decide +kernel
theorem dX11_force_19 : decode cX11_force 19 = .ok (.aload_n 0, 1) := by decide +kernel
theorem dX11_force_20 : decode cX11_force 20 = .ok (.getfield 28, 3) := by decide +kernel
theorem dX11_force_23 : decode cX11_force 23 = .ok (.getfield 159, 3) := by decide +kernel
theorem dX11_force_26 : decode cX11_force 26 = .ok (.istore_n 2, 1) := by decide +kernel
theorem dX11_force_27 : decode cX11_force 27 = .ok (.aload_n 0, 1) := by decide +kernel
theorem dX11_force_28 : decode cX11_force 28 = .ok (.getfield 28, 3) := by decide +kernel
theorem dX11_force_31 : decode cX11_force 31 = .ok (.iload_n 1, 1) := by decide +kernel
theorem dX11_force_32 : decode cX11_force 32 = .ok (.putfield 159, 3) := by decide +kernel
theorem dX11_force_35 : decode cX11_force 35 = .ok (.iload_n 2, 1) := by decide +kernel
theorem dX11_force_36 : decode cX11_force 36 = .ok (.ireturn, 1) := by decide +kernel
theorem dX11_sky_0 : decode cX11_sky 0 = .ok (.iload_n 1, 1) := by decide +kernel
theorem dX11_sky_1 : decode cX11_sky 1 = .ok (.iconst 0, 1) := by decide +kernel
theorem dX11_sky_2 : decode cX11_sky 2 = .ok (.iconst 1, 1) := by decide +kernel
theorem dX11_sky_3 : decode cX11_sky 3 = .ok (.invokestatic 87, 3) := by decide +kernel
theorem dX11_sky_6 : decode cX11_sky 6 = .ok (.ifCond .eq 13, 3) := by decide +kernel
theorem dX11_sky_9 : decode cX11_sky 9 = .ok (.iload_n 2, 1) := by decide +kernel
theorem dX11_sky_10 : decode cX11_sky 10 = .ok (.iconst 0, 1) := by decide +kernel
theorem dX11_sky_11 : decode cX11_sky 11 = .ok (.bipush 99, 2) := by decide +kernel
theorem dX11_sky_13 : decode cX11_sky 13 = .ok (.invokestatic 87, 3) := by decide +kernel
theorem dX11_sky_16 : decode cX11_sky 16 = .ok (.ifCond .ne 5, 3) := by decide +kernel
theorem dX11_sky_19 : decode cX11_sky 19 = .ok (.iconst (-1), 1) := by decide +kernel
theorem dX11_sky_20 : decode cX11_sky 20 = .ok (.ireturn, 1) := by decide +kernel
theorem dX11_sky_21 : decode cX11_sky 21 = .ok (.iload_n 1, 1) := by decide +kernel
theorem dX11_sky_22 : decode cX11_sky 22 = .ok (.ifCond .ne 13, 3) := by decide +kernel
theorem dX11_sky_25 : decode cX11_sky 25 = .ok (.aload_n 0, 1) := by decide +kernel
theorem dX11_sky_26 : decode cX11_sky 26 = .ok (.getfield 28, 3) := by decide +kernel
theorem dX11_sky_29 : decode cX11_sky 29 = .ok (.getfield 162, 3) := by decide +kernel
theorem dX11_sky_32 : decode cX11_sky 32 = .ok (.goto 10, 3) := by decide +kernel
theorem dX11_sky_35 : decode cX11_sky 35 = .ok (.aload_n 0, 1) := by decide +kernel
theorem dX11_sky_36 : decode cX11_sky 36 = .ok (.getfield 28, 3) := by decide +kernel
theorem dX11_sky_39 : decode cX11_sky 39 = .ok (.getfield 165, 3) := by decide +kernel
theorem dX11_sky_42 : decode cX11_sky 42 = .ok (.istore_n 3, 1) := by decide +kernel
theorem dX11_sky_43 : decode cX11_sky 43 = .ok (.iload_n 1, 1) := by decide +kernel
theorem dX11_sky_44 : decode cX11_sky 44 = .ok (.ifCond .ne 14, 3) := by decide +kernel
theorem dX11_sky_47 : decode cX11_sky 47 = .ok (.aload_n 0, 1) := by decide +kernel
theorem dX11_sky_48 : decode cX11_sky 48 = .ok (.getfield 28, 3) := by decide +kernel
theorem dX11_sky_51 : decode cX11_sky 51 = .ok (.iload_n 2, 1) := by decide +kernel
theorem dX11_sky_52 : decode cX11_sky 52 = .ok (.putfield 162, 3) := by decide +kernel
theorem dX11_sky_55 : decode cX11_sky 55 = .ok (.goto 11, 3) := by decide +kernel
theorem dX11_sky_58 : decode cX11_sky 58 = .ok (.aload_n 0, 1) := by decide +kernel
theorem dX11_sky_59 : decode cX11_sky 59 = .ok (.getfield 28, 3) := by decide +kernel
theorem dX11_sky_62 : decode cX11_sky 62 = .ok (.iload_n 2, 1) := by decide +kernel
theorem dX11_sky_63 : decode cX11_sky 63 = .ok (.putfield 165, 3) := by decide +kernel
theorem dX11_sky_66 : decode cX11_sky 66 = .ok (.iload_n 3, 1) := by decide +kernel
theorem dX11_sky_67 : decode cX11_sky 67 = .ok (.ireturn, 1) := by decide +kernel
theorem dX11_rise_0 : decode cX11_rise 0 = .ok (.aload_n 0, 1) := by decide +kernel
theorem dX11_rise_1 : decode cX11_rise 1 = .ok (.getfield 28, 3) := by decide +kernel
theorem dX11_rise_4 : decode cX11_rise 4 = .ok (.iload_n 1, 1) := by decide +kernel
theorem dX11_rise_5 : decode cX11_rise 5 = .ok (.invokevirtual 158, 3) := by decide +kernel
theorem dX11_rise_8 : decode cX11_rise 8 = .ok (.ifCond .eq 22, 3) := by decide +kernel
theorem dX11_rise_11 : decode cX11_rise 11 = .ok (.iload_n 2, 1) := by decide +kernel
theorem dX11_rise_12 : decode cX11_rise 12 = .ok (.invokestatic 133, 3) := by decide +kernel
theorem dX11_rise_15 : decode cX11_rise 15 = .ok (.ifCond .eq 15, 3) := by decide +kernel
theorem dX11_rise_18 : decode cX11_rise 18 = .ok (.aload_n 0, 1) := by decide +kernel
theorem dX11_rise_19 : decode cX11_rise 19 = .ok (.getfield 28, 3) := by decide +kernel
theorem dX11_rise_22 : decode cX11_rise 22 = .ok (.iload_n 1, 1) := by decide +kernel
theorem dX11_rise_23 : decode cX11_rise 23 = .ok (.iload_n 2, 1) := by decide +kernel
theorem dX11_rise_24 : decode cX11_rise 24 = .ok (.invokevirtual 168, 3) := by decide +kernel
theorem dX11_rise_27 : decode cX11_rise 27 = .ok (.goto 5, 3) := by decide +kernel
theorem dX11_rise_30 : decode cX11_rise 30 = .ok (.ldc 171, 2) := by decide +kernel
theorem dX11_rise_32 : decode cX11_rise 32 = .ok (.ireturn, 1) := by decide +kernel
theorem dX11_person_0 : decode cX11_person 0 = .ok (.iload_n 1, 1) := by decide +kernel
theorem dX11_person_1 : decode cX11_person 1 = .ok (.iload_n 2, 1) := by decide +kernel
theorem dX11_person_2 : decode cX11_person 2 = .ok (.invokestatic 172, 3) := by decide +kernel
theorem dX11_person_5 : decode cX11_person 5 = .ok (.ifCond .ne 5, 3) := by decide +kernel
theorem dX11_person_8 : decode cX11_person 8 = .ok (.iconst (-1), 1) := by decide +kernel
theorem dX11_person_9 : decode cX11_person 9 = .ok (.ireturn, 1) := by decide +kernel
theorem dX11_person_10 : decode cX11_person 10 = .ok (.aload_n 0, 1) := by decide +kernel
theorem dX11_person_11 : decode cX11_person 11 = .ok (.getfield 35, 3) := by decide +kernel
theorem dX11_person_14 : decode cX11_person 14 = .ok (.invokevirtual 175, 3) := by decide +kernel
theorem dX11_person_17 : decode cX11_person 17 = .ok (.ifCond .eq 8, 3) := by decide +kernel
theorem dX11_person_20 : decode cX11_person 20 = .ok (.bipush (-3), 2) := by decide +kernel
theorem dX11_person_22 : decode cX11_person 22 = .ok (.goto 12, 3) := by decide +kernel
theorem dX11_person_25 : decode cX11_person 25 = .ok (.aload_n 0, 1) := by decide +kernel
theorem dX11_person_26 : decode cX11_person 26 = .ok (.getfield 35, 3) := by decide +kernel
theorem dX11_person_29 : decode cX11_person 29 = .ok (.iload_n 1, 1) := by decide +kernel
theorem dX11_person_30 : decode cX11_person 30 = .ok (.iload_n 2, 1) := by decide +kernel
theorem dX11_person_31 : decode cX11_person 31 = .ok (.invokevirtual 176, 3) := by decide +kernel
theorem dX11_person_34 : decode cX11_person 34 = .ok (.ireturn, 1) := by decide +kernel
theorem dX11_set_0 : decode cX11_set 0 = .ok (.aload_n 0, 1) := by decide +kernel
theorem dX11_set_1 : decode cX11_set 1 = .ok (.getfield 35, 3) := by decide +kernel
theorem dX11_set_4 : decode cX11_set 4 = .ok (.iload_n 1, 1) := by decide +kernel
theorem dX11_set_5 : decode cX11_set 5 = .ok (.invokevirtual 178, 3) := by decide +kernel
theorem dX11_set_8 : decode cX11_set 8 = .ok (.ifCond .eq 12, 3) := by decide +kernel
theorem dX11_set_11 : decode cX11_set 11 = .ok (.iload_n 2, 1) := by decide +kernel
theorem dX11_set_12 : decode cX11_set 12 = .ok (.iconst 0, 1) := by decide +kernel
theorem dX11_set_13 : decode cX11_set 13 = .ok (.iconst 1, 1) := by decide +kernel
theorem dX11_set_14 : decode cX11_set 14 = .ok (.invokestatic 87, 3) := by decide +kernel
theorem dX11_set_17 : decode cX11_set 17 = .ok (.ifCond .ne 5, 3) := by decide +kernel
theorem dX11_set_20 : decode cX11_set 20 = .ok (.iconst (-1), 1) := by decide +kernel
theorem dX11_set_21 : decode cX11_set 21 = .ok (.ireturn, 1) := by decide +kernel
theorem dX11_set_22 : decode cX11_set 22 = .ok (.iload_n 2, 1) := by decide +kernel
theorem dX11_set_23 : decode cX11_set 23 = .ok (.ifCond .ne 7, 3) := by decide +kernel
theorem dX11_set_26 : decode cX11_set 26 = .ok (.iconst 2, 1) := by decide +kernel
theorem dX11_set_27 : decode cX11_set 27 = .ok (.goto 4, 3) := by decide +kernel
theorem dX11_set_30 : decode cX11_set 30 = .ok (.iconst 3, 1) := by decide +kernel
theorem dX11_set_31 : decode cX11_set 31 = .ok (.istore 4, 2) := by decide +kernel
theorem dX11_set_33 : decode cX11_set 33 = .ok (.iload_n 3, 1) := by decide +kernel
theorem dX11_set_34 : decode cX11_set 34 = .ok (.iconst 0, 1) := by decide +kernel
theorem dX11_set_35 : decode cX11_set 35 = .ok (.iload_n 2, 1) := by decide +kernel
theorem dX11_set_36 : decode cX11_set 36 = .ok (.ifCond .ne 8, 3) := by decide +kernel
theorem dX11_set_39 : decode cX11_set 39 = .ok (.bipush 9, 2) := by decide +kernel
theorem dX11_set_41 : decode cX11_set 41 = .ok (.goto 5, 3) := by decide +kernel
theorem dX11_set_44 : decode cX11_set 44 = .ok (.bipush 40, 2) := by decide +kernel
theorem dX11_set_46 : decode cX11_set 46 = .ok (.invokestatic 87, 3) := by decide +kernel
theorem dX11_set_49 : decode cX11_set 49 = .ok (.ifCond .ne 5, 3) := by decide +kernel
theorem dX11_set_52 : decode cX11_set 52 = .ok (.iconst (-1), 1) := by decide +kernel
theorem dX11_set_53 : decode cX11_set 53 = .ok (.ireturn, 1) := by decide +kernel
theorem dX11_set_54 : decode cX11_set 54 = .ok (.aload_n 0, 1) := by decide +kernel
theorem dX11_set_55 : decode cX11_set 55 = .ok (.getfield 62, 3) := by decide +kernel
theorem dX11_set_58 : decode cX11_set 58 = .ok (.sipush 216, 3) := by decide +kernel
theorem dX11_set_61 : decode cX11_set 61 = .ok (.iload_n 1, 1) := by decide +kernel
theorem dX11_set_62 : decode cX11_set 62 = .ok (.invokestatic 179, 3) := by decide +kernel
theorem dX11_set_65 : decode cX11_set 65 = .ok (.iadd, 1) := by decide +kernel
theorem dX11_set_66 : decode cX11_set 66 = .ok (.iload 4, 2) := by decide +kernel
theorem dX11_set_68 : decode cX11_set 68 = .ok (.iadd, 1) := by decide +kernel
theorem dX11_set_69 : decode cX11_set 69 = .ok (.iload_n 3, 1) := by decide +kernel
theorem dX11_set_70 : decode cX11_set 70 = .ok (.invokevirtual 152, 3) := by decide +kernel
theorem dX11_set_73 : decode cX11_set 73 = .ok (.ireturn, 1) := by decide +kernel
theorem dX11_of_0 : decode cX11_of 0 = .ok (.aload_n 0, 1) := by decide +kernel
theorem dX11_of_1 : decode cX11_of 1 = .ok (.getfield 35, 3) := by decide +kernel
theorem dX11_of_4 : decode cX11_of 4 = .ok (.iload_n 1, 1) := by decide +kernel
theorem dX11_of_5 : decode cX11_of 5 = .ok (.invokevirtual 178, 3) := by decide +kernel
theorem dX11_of_8 : decode cX11_of 8 = .ok (.ifCond .eq 24, 3) := by decide +kernel
theorem dX11_of_11 : decode cX11_of 11 = .ok (.iload_n 2, 1) := by decide +kernel
theorem dX11_of_12 : decode cX11_of 12 = .ok (.iconst 0, 1) := by decide +kernel
theorem dX11_of_13 : decode cX11_of 13 = .ok (.iconst 3, 1) := by decide +kernel
theorem dX11_of_14 : decode cX11_of 14 = .ok (.invokestatic 87, 3) := by decide +kernel
theorem dX11_of_17 : decode cX11_of 17 = .ok (.ifCond .eq 15, 3) := by decide +kernel
theorem dX11_of_20 : decode cX11_of 20 = .ok (.aload_n 0, 1) := by decide +kernel
theorem dX11_of_21 : decode cX11_of 21 = .ok (.getfield 35, 3) := by decide +kernel
theorem dX11_of_24 : decode cX11_of 24 = .ok (.iload_n 1, 1) := by decide +kernel
theorem dX11_of_25 : decode cX11_of 25 = .ok (.iload_n 2, 1) := by decide +kernel
theorem dX11_of_26 : decode cX11_of 26 = .ok (.invokevirtual 181, 3) := by decide +kernel
theorem dX11_of_29 : decode cX11_of 29 = .ok (.goto 4, 3) := by decide +kernel
theorem dX11_of_32 : decode cX11_of 32 = .ok (.iconst (-1), 1) := by decide +kernel
theorem dX11_of_33 : decode cX11_of 33 = .ok (.ireturn, 1) := by decide +kernel
theorem dX11_margin_0 : decode cX11_margin 0 = .ok (.aload_n 0, 1) := by decide +kernel
theorem dX11_margin_1 : decode cX11_margin 1 = .ok (.iload_n 1, 1) := by decide +kernel
theorem dX11_margin_2 : decode cX11_margin 2 = .ok (.invokevirtual 184, 3) := by decide +kernel
theorem dX11_margin_5 : decode cX11_margin 5 = .ok (.ifCond .eq 33, 3) := by decide +kernel
theorem dX11_margin_8 : decode cX11_margin 8 = .ok (.aload_n 0, 1) := by decide +kernel
theorem dX11_margin_9 : decode cX11_margin 9 = .ok (.iload_n 2, 1) := by decide +kernel
theorem dX11_margin_10 : decode cX11_margin 10 = .ok (.invokevirtual 187, 3) := by decide +kernel
theorem dX11_margin_13 : decode cX11_margin 13 = .ok (.ifCond .eq 25, 3) := by decide +kernel
theorem dX11_margin_16 : decode cX11_margin 16 = .ok (.aload_n 0, 1) := by decide +kernel
theorem dX11_margin_17 : decode cX11_margin 17 = .ok (.iload_n 3, 1) := by decide +kernel
theorem dX11_margin_18 : decode cX11_margin 18 = .ok (.iload_n 1, 1) := by decide +kernel
theorem dX11_margin_19 : decode cX11_margin 19 = .ok (.bipush 100, 2) := by decide +kernel
theorem dX11_margin_21 : decode cX11_margin 21 = .ok (.idiv, 1) := by decide +kernel
theorem dX11_margin_22 : decode cX11_margin 22 = .ok (.invokevirtual 190, 3) := by decide +kernel
theorem dX11_margin_25 : decode cX11_margin 25 = .ok (.ifCond .eq 13, 3) := by decide +kernel
theorem dX11_margin_28 : decode cX11_margin 28 = .ok (.iload 4, 2) := by decide +kernel
theorem dX11_margin_30 : decode cX11_margin 30 = .ok (.iconst 0, 1) := by decide +kernel
theorem dX11_margin_31 : decode cX11_margin 31 = .ok (.iconst 2, 1) := by decide +kernel
theorem dX11_margin_32 : decode cX11_margin 32 = .ok (.invokestatic 87, 3) := by decide +kernel
theorem dX11_margin_35 : decode cX11_margin 35 = .ok (.ifCond .ne 6, 3) := by decide +kernel
theorem dX11_margin_38 : decode cX11_margin 38 = .ok (.ldc 171, 2) := by decide +kernel
theorem dX11_margin_40 : decode cX11_margin 40 = .ok (.ireturn, 1) := by decide +kernel
theorem dX11_margin_41 : decode cX11_margin 41 = .ok (.aload_n 0, 1) := by decide +kernel
theorem dX11_margin_42 : decode cX11_margin 42 = .ok (.getfield 53, 3) := by decide +kernel
theorem dX11_margin_45 : decode cX11_margin 45 = .ok (.iload_n 1, 1) := by decide +kernel
theorem dX11_margin_46 : decode cX11_margin 46 = .ok (.bipush 100, 2) := by decide +kernel
theorem dX11_margin_48 : decode cX11_margin 48 = .ok (.idiv, 1) := by decide +kernel
theorem dX11_margin_49 : decode cX11_margin 49 = .ok (.iload_n 3, 1) := by decide +kernel
theorem dX11_margin_50 : decode cX11_margin 50 = .ok (.bipush 100, 2) := by decide +kernel
theorem dX11_margin_52 : decode cX11_margin 52 = .ok (.irem, 1) := by decide +kernel
theorem dX11_margin_53 : decode cX11_margin 53 = .ok (.aload_n 0, 1) := by decide +kernel
theorem dX11_margin_54 : decode cX11_margin 54 = .ok (.getfield 28, 3) := by decide +kernel
theorem dX11_margin_57 : decode cX11_margin 57 = .ok (.iload_n 1, 1) := by decide +kernel
theorem dX11_margin_58 : decode cX11_margin 58 = .ok (.bipush 100, 2) := by decide +kernel
theorem dX11_margin_60 : decode cX11_margin 60 = .ok (.irem, 1) := by decide +kernel
theorem dX11_margin_61 : decode cX11_margin 61 = .ok (.invokevirtual 136, 3) := by decide +kernel
theorem dX11_margin_64 : decode cX11_margin 64 = .ok (.iconst 0, 1) := by decide +kernel
theorem dX11_margin_65 : decode cX11_margin 65 = .ok (.invokevirtual 193, 3) := by decide +kernel
theorem dX11_margin_68 : decode cX11_margin 68 = .ok (.iload_n 3, 1) := by decide +kernel
theorem dX11_margin_69 : decode cX11_margin 69 = .ok (.bipush 100, 2) := by decide +kernel
theorem dX11_margin_71 : decode cX11_margin 71 = .ok (.idiv, 1) := by decide +kernel
theorem dX11_margin_72 : decode cX11_margin 72 = .ok (.istore 5, 2) := by decide +kernel
theorem dX11_margin_74 : decode cX11_margin 74 = .ok (.iload 4, 2) := by decide +kernel
theorem dX11_margin_76 : decode cX11_margin 76 = .ok (.ifCond .ne 15, 3) := by decide +kernel
theorem dX11_margin_79 : decode cX11_margin 79 = .ok (.aload_n 0, 1) := by decide +kernel
theorem dX11_margin_80 : decode cX11_margin 80 = .ok (.getfield 44, 3) := by decide +kernel
theorem dX11_margin_83 : decode cX11_margin 83 = .ok (.iload 5, 2) := by decide +kernel
theorem dX11_margin_85 : decode cX11_margin 85 = .ok (.invokevirtual 197, 3) := by decide +kernel
theorem dX11_margin_88 : decode cX11_margin 88 = .ok (.goto 30, 3) := by decide +kernel
theorem dX11_margin_91 : decode cX11_margin 91 = .ok (.iload 4, 2) := by decide +kernel
theorem dX11_margin_93 : decode cX11_margin 93 = .ok (.iconst 1, 1) := by decide +kernel
theorem dX11_margin_94 : decode cX11_margin 94 = .ok (.if_icmp .ne 15, 3) := by decide +kernel
theorem dX11_margin_97 : decode cX11_margin 97 = .ok (.aload_n 0, 1) := by decide +kernel
theorem dX11_margin_98 : decode cX11_margin 98 = .ok (.getfield 44, 3) := by decide +kernel
theorem dX11_margin_101 : decode cX11_margin 101 = .ok (.iload 5, 2) := by decide +kernel
theorem dX11_margin_103 : decode cX11_margin 103 = .ok (.invokevirtual 200, 3) := by decide +kernel
theorem dX11_margin_106 : decode cX11_margin 106 = .ok (.goto 12, 3) := by decide +kernel
theorem dX11_margin_109 : decode cX11_margin 109 = .ok (.aload_n 0, 1) := by decide +kernel
theorem dX11_margin_110 : decode cX11_margin 110 = .ok (.getfield 44, 3) := by decide +kernel
theorem dX11_margin_113 : decode cX11_margin 113 = .ok (.iload 5, 2) := by decide +kernel
theorem dX11_margin_115 : decode cX11_margin 115 = .ok (.invokevirtual 203, 3) := by decide +kernel
theorem dX11_margin_118 : decode cX11_margin 118 = .ok (.ireturn, 1) := by decide +kernel
theorem dX11_over_0 : decode cX11_over 0 = .ok (.aload_n 0, 1) := by decide +kernel
theorem dX11_over_1 : decode cX11_over 1 = .ok (.iload_n 1, 1) := by decide +kernel
theorem dX11_over_2 : decode cX11_over 2 = .ok (.invokevirtual 184, 3) := by decide +kernel
theorem dX11_over_5 : decode cX11_over 5 = .ok (.ifCond .eq 20, 3) := by decide +kernel
theorem dX11_over_8 : decode cX11_over 8 = .ok (.aload_n 0, 1) := by decide +kernel
theorem dX11_over_9 : decode cX11_over 9 = .ok (.iload_n 2, 1) := by decide +kernel
theorem dX11_over_10 : decode cX11_over 10 = .ok (.invokevirtual 187, 3) := by decide +kernel
theorem dX11_over_13 : decode cX11_over 13 = .ok (.ifCond .eq 12, 3) := by decide +kernel
theorem dX11_over_16 : decode cX11_over 16 = .ok (.iload_n 3, 1) := by decide +kernel
theorem dX11_over_17 : decode cX11_over 17 = .ok (.iconst 0, 1) := by decide +kernel
theorem dX11_over_18 : decode cX11_over 18 = .ok (.iconst 2, 1) := by decide +kernel
theorem dX11_over_19 : decode cX11_over 19 = .ok (.invokestatic 87, 3) := by decide +kernel
theorem dX11_over_22 : decode cX11_over 22 = .ok (.ifCond .ne 6, 3) := by decide +kernel
theorem dX11_over_25 : decode cX11_over 25 = .ok (.ldc 171, 2) := by decide +kernel
theorem dX11_over_27 : decode cX11_over 27 = .ok (.ireturn, 1) := by decide +kernel
theorem dX11_over_28 : decode cX11_over 28 = .ok (.iload_n 1, 1) := by decide +kernel
theorem dX11_over_29 : decode cX11_over 29 = .ok (.bipush 100, 2) := by decide +kernel
theorem dX11_over_31 : decode cX11_over 31 = .ok (.idiv, 1) := by decide +kernel
theorem dX11_over_32 : decode cX11_over 32 = .ok (.istore 4, 2) := by decide +kernel
theorem dX11_over_34 : decode cX11_over 34 = .ok (.aload_n 0, 1) := by decide +kernel
theorem dX11_over_35 : decode cX11_over 35 = .ok (.getfield 28, 3) := by decide +kernel
theorem dX11_over_38 : decode cX11_over 38 = .ok (.iload_n 1, 1) := by decide +kernel
theorem dX11_over_39 : decode cX11_over 39 = .ok (.bipush 100, 2) := by decide +kernel
theorem dX11_over_41 : decode cX11_over 41 = .ok (.irem, 1) := by decide +kernel
theorem dX11_over_42 : decode cX11_over 42 = .ok (.invokevirtual 136, 3) := by decide +kernel
theorem dX11_over_45 : decode cX11_over 45 = .ok (.istore 5, 2) := by decide +kernel
theorem dX11_over_47 : decode cX11_over 47 = .ok (.iload_n 3, 1) := by decide +kernel
theorem dX11_over_48 : decode cX11_over 48 = .ok (.iconst 1, 1) := by decide +kernel
theorem dX11_over_49 : decode cX11_over 49 = .ok (.if_icmp .ne 17, 3) := by decide +kernel
theorem dX11_over_52 : decode cX11_over 52 = .ok (.aload_n 0, 1) := by decide +kernel
theorem dX11_over_53 : decode cX11_over 53 = .ok (.getfield 53, 3) := by decide +kernel
theorem dX11_over_56 : decode cX11_over 56 = .ok (.iload 4, 2) := by decide +kernel
theorem dX11_over_58 : decode cX11_over 58 = .ok (.iload 5, 2) := by decide +kernel
theorem dX11_over_60 : decode cX11_over 60 = .ok (.ldc 171, 2) := by decide +kernel
theorem dX11_over_62 : decode cX11_over 62 = .ok (.invokevirtual 206, 3) := by decide +kernel
theorem dX11_over_65 : decode cX11_over 65 = .ok (.ireturn, 1) := by decide +kernel
theorem dX11_over_66 : decode cX11_over 66 = .ok (.aload_n 0, 1) := by decide +kernel
theorem dX11_over_67 : decode cX11_over 67 = .ok (.getfield 53, 3) := by decide +kernel
theorem dX11_over_70 : decode cX11_over 70 = .ok (.iload 4, 2) := by decide +kernel
theorem dX11_over_72 : decode cX11_over 72 = .ok (.iload 5, 2) := by decide +kernel
theorem dX11_over_74 : decode cX11_over 74 = .ok (.invokevirtual 209, 3) := by decide +kernel
theorem dX11_over_77 : decode cX11_over 77 = .ok (.istore 6, 2) := by decide +kernel
theorem dX11_over_79 : decode cX11_over 79 = .ok (.iload_n 3, 1) := by decide +kernel
theorem dX11_over_80 : decode cX11_over 80 = .ok (.iconst 2, 1) := by decide +kernel
theorem dX11_over_81 : decode cX11_over 81 = .ok (.if_icmp .ne 8, 3) := by decide +kernel
theorem dX11_over_84 : decode cX11_over 84 = .ok (.iload 6, 2) := by decide +kernel
theorem dX11_over_86 : decode cX11_over 86 = .ok (.goto 18, 3) := by decide +kernel
theorem dX11_over_89 : decode cX11_over 89 = .ok (.iload 6, 2) := by decide +kernel
theorem dX11_over_91 : decode cX11_over 91 = .ok (.bipush (-2), 2) := by decide +kernel
theorem dX11_over_93 : decode cX11_over 93 = .ok (.if_icmp .ne 7, 3) := by decide +kernel
theorem dX11_over_96 : decode cX11_over 96 = .ok (.iconst 1, 1) := by decide +kernel
theorem dX11_over_97 : decode cX11_over 97 = .ok (.goto 4, 3) := by decide +kernel
theorem dX11_over_100 : decode cX11_over 100 = .ok (.iconst 0, 1) := by decide +kernel
theorem dX11_over_101 : decode cX11_over 101 = .ok (.invokestatic 212, 3) := by decide +kernel
theorem dX11_over_104 : decode cX11_over 104 = .ok (.ireturn, 1) := by decide +kernel
theorem dX11_order_0 : decode cX11_order 0 = .ok (.aload_n 0, 1) := by decide +kernel
theorem dX11_order_1 : decode cX11_order 1 = .ok (.iload_n 1, 1) := by decide +kernel
theorem dX11_order_2 : decode cX11_order 2 = .ok (.invokevirtual 184, 3) := by decide +kernel
theorem dX11_order_5 : decode cX11_order 5 = .ok (.ifCond .eq 20, 3) := by decide +kernel
theorem dX11_order_8 : decode cX11_order 8 = .ok (.aload_n 0, 1) := by decide +kernel
theorem dX11_order_9 : decode cX11_order 9 = .ok (.iload_n 2, 1) := by decide +kernel
theorem dX11_order_10 : decode cX11_order 10 = .ok (.invokevirtual 187, 3) := by decide +kernel
theorem dX11_order_13 : decode cX11_order 13 = .ok (.ifCond .eq 12, 3) := by decide +kernel
theorem dX11_order_16 : decode cX11_order 16 = .ok (.iload_n 3, 1) := by decide +kernel
theorem dX11_order_17 : decode cX11_order 17 = .ok (.iconst 0, 1) := by decide +kernel
theorem dX11_order_18 : decode cX11_order 18 = .ok (.iconst 1, 1) := by decide +kernel
theorem dX11_order_19 : decode cX11_order 19 = .ok (.invokestatic 87, 3) := by decide +kernel
theorem dX11_order_22 : decode cX11_order 22 = .ok (.ifCond .ne 6, 3) := by decide +kernel
theorem dX11_order_25 : decode cX11_order 25 = .ok (.ldc 171, 2) := by decide +kernel
theorem dX11_order_27 : decode cX11_order 27 = .ok (.ireturn, 1) := by decide +kernel
theorem dX11_order_28 : decode cX11_order 28 = .ok (.aload_n 0, 1) := by decide +kernel
theorem dX11_order_29 : decode cX11_order 29 = .ok (.getfield 53, 3) := by decide +kernel
theorem dX11_order_32 : decode cX11_order 32 = .ok (.iload_n 1, 1) := by decide +kernel
theorem dX11_order_33 : decode cX11_order 33 = .ok (.bipush 100, 2) := by decide +kernel
theorem dX11_order_35 : decode cX11_order 35 = .ok (.idiv, 1) := by decide +kernel
theorem dX11_order_36 : decode cX11_order 36 = .ok (.aload_n 0, 1) := by decide +kernel
theorem dX11_order_37 : decode cX11_order 37 = .ok (.getfield 28, 3) := by decide +kernel
theorem dX11_order_40 : decode cX11_order 40 = .ok (.iload_n 1, 1) := by decide +kernel
theorem dX11_order_41 : decode cX11_order 41 = .ok (.bipush 100, 2) := by decide +kernel
theorem dX11_order_43 : decode cX11_order 43 = .ok (.irem, 1) := by decide +kernel
theorem dX11_order_44 : decode cX11_order 44 = .ok (.invokevirtual 136, 3) := by decide +kernel
theorem dX11_order_47 : decode cX11_order 47 = .ok (.invokevirtual 216, 3) := by decide +kernel
theorem dX11_order_50 : decode cX11_order 50 = .ok (.iload_n 3, 1) := by decide +kernel
theorem dX11_order_51 : decode cX11_order 51 = .ok (.ifCond .ne 13, 3) := by decide +kernel
theorem dX11_order_54 : decode cX11_order 54 = .ok (.aload_n 0, 1) := by decide +kernel
theorem dX11_order_55 : decode cX11_order 55 = .ok (.getfield 53, 3) := by decide +kernel
theorem dX11_order_58 : decode cX11_order 58 = .ok (.getfield 220, 3) := by decide +kernel
theorem dX11_order_61 : decode cX11_order 61 = .ok (.goto 10, 3) := by decide +kernel
theorem dX11_order_64 : decode cX11_order 64 = .ok (.aload_n 0, 1) := by decide +kernel
theorem dX11_order_65 : decode cX11_order 65 = .ok (.getfield 53, 3) := by decide +kernel
theorem dX11_order_68 : decode cX11_order 68 = .ok (.getfield 223, 3) := by decide +kernel
theorem dX11_order_71 : decode cX11_order 71 = .ok (.ireturn, 1) := by decide +kernel
theorem dX11_best_0 : decode cX11_best 0 = .ok (.aload_n 0, 1) := by decide +kernel
theorem dX11_best_1 : decode cX11_best 1 = .ok (.getfield 44, 3) := by decide +kernel
theorem dX11_best_4 : decode cX11_best 4 = .ok (.iload_n 1, 1) := by decide +kernel
theorem dX11_best_5 : decode cX11_best 5 = .ok (.iconst 0, 1) := by decide +kernel
theorem dX11_best_6 : decode cX11_best 6 = .ok (.invokevirtual 226, 3) := by decide +kernel
theorem dX11_best_9 : decode cX11_best 9 = .ok (.ifCond .eq 16, 3) := by decide +kernel
theorem dX11_best_12 : decode cX11_best 12 = .ok (.iload_n 2, 1) := by decide +kernel
theorem dX11_best_13 : decode cX11_best 13 = .ok (.ifCond .lt 12, 3) := by decide +kernel
theorem dX11_best_16 : decode cX11_best 16 = .ok (.iload_n 3, 1) := by decide +kernel
theorem dX11_best_17 : decode cX11_best 17 = .ok (.iconst 0, 1) := by decide +kernel
theorem dX11_best_18 : decode cX11_best 18 = .ok (.iconst 1, 1) := by decide +kernel
theorem dX11_best_19 : decode cX11_best 19 = .ok (.invokestatic 87, 3) := by decide +kernel
theorem dX11_best_22 : decode cX11_best 22 = .ok (.ifCond .ne 6, 3) := by decide +kernel
theorem dX11_best_25 : decode cX11_best 25 = .ok (.ldc 171, 2) := by decide +kernel
theorem dX11_best_27 : decode cX11_best 27 = .ok (.ireturn, 1) := by decide +kernel
theorem dX11_best_28 : decode cX11_best 28 = .ok (.iload_n 2, 1) := by decide +kernel
theorem dX11_best_29 : decode cX11_best 29 = .ok (.bipush 100, 2) := by decide +kernel
theorem dX11_best_31 : decode cX11_best 31 = .ok (.idiv, 1) := by decide +kernel
theorem dX11_best_32 : decode cX11_best 32 = .ok (.istore 4, 2) := by decide +kernel
theorem dX11_best_34 : decode cX11_best 34 = .ok (.iload_n 2, 1) := by decide +kernel
theorem dX11_best_35 : decode cX11_best 35 = .ok (.bipush 100, 2) := by decide +kernel
theorem dX11_best_37 : decode cX11_best 37 = .ok (.irem, 1) := by decide +kernel
theorem dX11_best_38 : decode cX11_best 38 = .ok (.istore 5, 2) := by decide +kernel
theorem dX11_best_40 : decode cX11_best 40 = .ok (.iload 4, 2) := by decide +kernel
theorem dX11_best_42 : decode cX11_best 42 = .ok (.invokestatic 133, 3) := by decide +kernel
theorem dX11_best_45 : decode cX11_best 45 = .ok (.ifCond .eq 18, 3) := by decide +kernel
theorem dX11_best_48 : decode cX11_best 48 = .ok (.iload 5, 2) := by decide +kernel
theorem dX11_best_50 : decode cX11_best 50 = .ok (.invokestatic 133, 3) := by decide +kernel
theorem dX11_best_53 : decode cX11_best 53 = .ok (.ifCond .eq 10, 3) := by decide +kernel
theorem dX11_best_56 : decode cX11_best 56 = .ok (.iload 5, 2) := by decide +kernel
theorem dX11_best_58 : decode cX11_best 58 = .ok (.iload 4, 2) := by decide +kernel
theorem dX11_best_60 : decode cX11_best 60 = .ok (.if_icmp .ge 6, 3) := by decide +kernel
theorem dX11_best_63 : decode cX11_best 63 = .ok (.ldc 171, 2) := by decide +kernel
theorem dX11_best_65 : decode cX11_best 65 = .ok (.ireturn, 1) := by decide +kernel
theorem dX11_best_66 : decode cX11_best 66 = .ok (.aload_n 0, 1) := by decide +kernel
theorem dX11_best_67 : decode cX11_best 67 = .ok (.getfield 53, 3) := by decide +kernel
theorem dX11_best_70 : decode cX11_best 70 = .ok (.iload 4, 2) := by decide +kernel
theorem dX11_best_72 : decode cX11_best 72 = .ok (.iload 5, 2) := by decide +kernel
theorem dX11_best_74 : decode cX11_best 74 = .ok (.invokevirtual 229, 3) := by decide +kernel
theorem dX11_best_77 : decode cX11_best 77 = .ok (.ifCond .ne 6, 3) := by decide +kernel
theorem dX11_best_80 : decode cX11_best 80 = .ok (.bipush (-2), 2) := by decide +kernel
theorem dX11_best_82 : decode cX11_best 82 = .ok (.ireturn, 1) := by decide +kernel
theorem dX11_best_83 : decode cX11_best 83 = .ok (.iload_n 3, 1) := by decide +kernel
theorem dX11_best_84 : decode cX11_best 84 = .ok (.ifCond .ne 13, 3) := by decide +kernel
theorem dX11_best_87 : decode cX11_best 87 = .ok (.aload_n 0, 1) := by decide +kernel
theorem dX11_best_88 : decode cX11_best 88 = .ok (.getfield 53, 3) := by decide +kernel
theorem dX11_best_91 : decode cX11_best 91 = .ok (.getfield 220, 3) := by decide +kernel
theorem dX11_best_94 : decode cX11_best 94 = .ok (.goto 10, 3) := by decide +kernel
theorem dX11_best_97 : decode cX11_best 97 = .ok (.aload_n 0, 1) := by decide +kernel
theorem dX11_best_98 : decode cX11_best 98 = .ok (.getfield 53, 3) := by decide +kernel
theorem dX11_best_101 : decode cX11_best 101 = .ok (.getfield 223, 3) := by decide +kernel
theorem dX11_best_104 : decode cX11_best 104 = .ok (.ireturn, 1) := by decide +kernel
theorem dX11_gusts_0 : decode cX11_gusts 0 = .ok (.aload_n 0, 1) := by decide +kernel
theorem dX11_gusts_1 : decode cX11_gusts 1 = .ok (.iload_n 1, 1) := by decide +kernel
theorem dX11_gusts_2 : decode cX11_gusts 2 = .ok (.invokevirtual 184, 3) := by decide +kernel
theorem dX11_gusts_5 : decode cX11_gusts 5 = .ok (.ifCond .eq 26, 3) := by decide +kernel
theorem dX11_gusts_8 : decode cX11_gusts 8 = .ok (.aload_n 0, 1) := by decide +kernel
theorem dX11_gusts_9 : decode cX11_gusts 9 = .ok (.iload_n 2, 1) := by decide +kernel
theorem dX11_gusts_10 : decode cX11_gusts 10 = .ok (.invokevirtual 187, 3) := by decide +kernel
theorem dX11_gusts_13 : decode cX11_gusts 13 = .ok (.ifCond .eq 18, 3) := by decide +kernel
theorem dX11_gusts_16 : decode cX11_gusts 16 = .ok (.iload 4, 2) := by decide +kernel
theorem dX11_gusts_18 : decode cX11_gusts 18 = .ok (.ifCond .lt 13, 3) := by decide +kernel
theorem dX11_gusts_21 : decode cX11_gusts 21 = .ok (.iload 5, 2) := by decide +kernel
theorem dX11_gusts_23 : decode cX11_gusts 23 = .ok (.iconst 0, 1) := by decide +kernel
theorem dX11_gusts_24 : decode cX11_gusts 24 = .ok (.iconst 1, 1) := by decide +kernel
theorem dX11_gusts_25 : decode cX11_gusts 25 = .ok (.invokestatic 87, 3) := by decide +kernel
theorem dX11_gusts_28 : decode cX11_gusts 28 = .ok (.ifCond .ne 5, 3) := by decide +kernel
theorem dX11_gusts_31 : decode cX11_gusts 31 = .ok (.iconst (-1), 1) := by decide +kernel
theorem dX11_gusts_32 : decode cX11_gusts 32 = .ok (.ireturn, 1) := by decide +kernel
theorem dX11_gusts_33 : decode cX11_gusts 33 = .ok (.iload 4, 2) := by decide +kernel
theorem dX11_gusts_35 : decode cX11_gusts 35 = .ok (.bipush 100, 2) := by decide +kernel
theorem dX11_gusts_37 : decode cX11_gusts 37 = .ok (.idiv, 1) := by decide +kernel
theorem dX11_gusts_38 : decode cX11_gusts 38 = .ok (.istore 6, 2) := by decide +kernel
theorem dX11_gusts_40 : decode cX11_gusts 40 = .ok (.iload 4, 2) := by decide +kernel
theorem dX11_gusts_42 : decode cX11_gusts 42 = .ok (.bipush 100, 2) := by decide +kernel
theorem dX11_gusts_44 : decode cX11_gusts 44 = .ok (.irem, 1) := by decide +kernel
theorem dX11_gusts_45 : decode cX11_gusts 45 = .ok (.istore 7, 2) := by decide +kernel
theorem dX11_gusts_47 : decode cX11_gusts 47 = .ok (.iload 6, 2) := by decide +kernel
theorem dX11_gusts_49 : decode cX11_gusts 49 = .ok (.iconst 1, 1) := by decide +kernel
theorem dX11_gusts_50 : decode cX11_gusts 50 = .ok (.bipush 50, 2) := by decide +kernel
theorem dX11_gusts_52 : decode cX11_gusts 52 = .ok (.invokestatic 87, 3) := by decide +kernel
theorem dX11_gusts_55 : decode cX11_gusts 55 = .ok (.ifCond .eq 14, 3) := by decide +kernel
theorem dX11_gusts_58 : decode cX11_gusts 58 = .ok (.iload 7, 2) := by decide +kernel
theorem dX11_gusts_60 : decode cX11_gusts 60 = .ok (.iconst 1, 1) := by decide +kernel
theorem dX11_gusts_61 : decode cX11_gusts 61 = .ok (.bipush 20, 2) := by decide +kernel
theorem dX11_gusts_63 : decode cX11_gusts 63 = .ok (.invokestatic 87, 3) := by decide +kernel
theorem dX11_gusts_66 : decode cX11_gusts 66 = .ok (.ifCond .ne 5, 3) := by decide +kernel
theorem dX11_gusts_69 : decode cX11_gusts 69 = .ok (.iconst (-1), 1) := by decide +kernel
theorem dX11_gusts_70 : decode cX11_gusts 70 = .ok (.ireturn, 1) := by decide +kernel
theorem dX11_gusts_71 : decode cX11_gusts 71 = .ok (.iload_n 1, 1) := by decide +kernel
theorem dX11_gusts_72 : decode cX11_gusts 72 = .ok (.bipush 100, 2) := by decide +kernel
theorem dX11_gusts_74 : decode cX11_gusts 74 = .ok (.idiv, 1) := by decide +kernel
theorem dX11_gusts_75 : decode cX11_gusts 75 = .ok (.istore 8, 2) := by decide +kernel
theorem dX11_gusts_77 : decode cX11_gusts 77 = .ok (.aload_n 0, 1) := by decide +kernel
theorem dX11_gusts_78 : decode cX11_gusts 78 = .ok (.getfield 53, 3) := by decide +kernel
theorem dX11_gusts_81 : decode cX11_gusts 81 = .ok (.iload 8, 2) := by decide +kernel
theorem dX11_gusts_83 : decode cX11_gusts 83 = .ok (.aload_n 0, 1) := by decide +kernel
theorem dX11_gusts_84 : decode cX11_gusts 84 = .ok (.getfield 28, 3) := by decide +kernel
theorem dX11_gusts_87 : decode cX11_gusts 87 = .ok (.iload_n 1, 1) := by decide +kernel
theorem dX11_gusts_88 : decode cX11_gusts 88 = .ok (.bipush 100, 2) := by decide +kernel
theorem dX11_gusts_90 : decode cX11_gusts 90 = .ok (.irem, 1) := by decide +kernel
theorem dX11_gusts_91 : decode cX11_gusts 91 = .ok (.invokevirtual 136, 3) := by decide +kernel
theorem dX11_gusts_94 : decode cX11_gusts 94 = .ok (.iload_n 3, 1) := by decide +kernel
theorem dX11_gusts_95 : decode cX11_gusts 95 = .ok (.iload 6, 2) := by decide +kernel
theorem dX11_gusts_97 : decode cX11_gusts 97 = .ok (.iload 7, 2) := by decide +kernel
theorem dX11_gusts_99 : decode cX11_gusts 99 = .ok (.invokevirtual 232, 3) := by decide +kernel
theorem dX11_gusts_102 : decode cX11_gusts 102 = .ok (.istore 9, 2) := by decide +kernel
theorem dX11_gusts_104 : decode cX11_gusts 104 = .ok (.iload 5, 2) := by decide +kernel
theorem dX11_gusts_106 : decode cX11_gusts 106 = .ok (.ifCond .ne 8, 3) := by decide +kernel
theorem dX11_gusts_109 : decode cX11_gusts 109 = .ok (.iload 9, 2) := by decide +kernel
theorem dX11_gusts_111 : decode cX11_gusts 111 = .ok (.goto 18, 3) := by decide +kernel
theorem dX11_gusts_114 : decode cX11_gusts 114 = .ok (.aload_n 0, 1) := by decide +kernel
theorem dX11_gusts_115 : decode cX11_gusts 115 = .ok (.getfield 21, 3) := by decide +kernel
theorem dX11_gusts_118 : decode cX11_gusts 118 = .ok (.iload 8, 2) := by decide +kernel
theorem dX11_gusts_120 : decode cX11_gusts 120 = .ok (.invokevirtual 123, 3) := by decide +kernel
theorem dX11_gusts_123 : decode cX11_gusts 123 = .ok (.iload 6, 2) := by decide +kernel
theorem dX11_gusts_125 : decode cX11_gusts 125 = .ok (.iload 9, 2) := by decide +kernel
theorem dX11_gusts_127 : decode cX11_gusts 127 = .ok (.isub, 1) := by decide +kernel
theorem dX11_gusts_128 : decode cX11_gusts 128 = .ok (.imul, 1) := by decide +kernel
theorem dX11_gusts_129 : decode cX11_gusts 129 = .ok (.ireturn, 1) := by decide +kernel
theorem dX11_await_0 : decode cX11_await 0 = .ok (.aload_n 0, 1) := by decide +kernel
theorem dX11_await_1 : decode cX11_await 1 = .ok (.iload_n 1, 1) := by decide +kernel
theorem dX11_await_2 : decode cX11_await 2 = .ok (.invokevirtual 184, 3) := by decide +kernel
theorem dX11_await_5 : decode cX11_await 5 = .ok (.ifCond .eq 29, 3) := by decide +kernel
theorem dX11_await_8 : decode cX11_await 8 = .ok (.aload_n 0, 1) := by decide +kernel
theorem dX11_await_9 : decode cX11_await 9 = .ok (.iload_n 2, 1) := by decide +kernel
theorem dX11_await_10 : decode cX11_await 10 = .ok (.invokevirtual 187, 3) := by decide +kernel
theorem dX11_await_13 : decode cX11_await 13 = .ok (.ifCond .eq 21, 3) := by decide +kernel
theorem dX11_await_16 : decode cX11_await 16 = .ok (.aload_n 0, 1) := by decide +kernel
theorem dX11_await_17 : decode cX11_await 17 = .ok (.getfield 53, 3) := by decide +kernel
theorem dX11_await_20 : decode cX11_await 20 = .ok (.iload_n 1, 1) := by decide +kernel
theorem dX11_await_21 : decode cX11_await 21 = .ok (.bipush 100, 2) := by decide +kernel
theorem dX11_await_23 : decode cX11_await 23 = .ok (.idiv, 1) := by decide +kernel
theorem dX11_await_24 : decode cX11_await 24 = .ok (.iload_n 1, 1) := by decide +kernel
theorem dX11_await_25 : decode cX11_await 25 = .ok (.bipush 100, 2) := by decide +kernel
theorem dX11_await_27 : decode cX11_await 27 = .ok (.irem, 1) := by decide +kernel
theorem dX11_await_28 : decode cX11_await 28 = .ok (.invokevirtual 236, 3) := by decide +kernel
theorem dX11_await_31 : decode cX11_await 31 = .ok (.goto 4, 3) := by decide +kernel
theorem dX11_await_34 : decode cX11_await 34 = .ok (.iconst (-1), 1) := by decide +kernel
theorem dX11_await_35 : decode cX11_await 35 = .ok (.ireturn, 1) := by decide +kernel
theorem dX11_mustNot_0 : decode cX11_mustNot 0 = .ok (.aload_n 0, 1) := by decide +kernel
theorem dX11_mustNot_1 : decode cX11_mustNot 1 = .ok (.iload_n 1, 1) := by decide +kernel
theorem dX11_mustNot_2 : decode cX11_mustNot 2 = .ok (.invokevirtual 184, 3) := by decide +kernel
theorem dX11_mustNot_5 : decode cX11_mustNot 5 = .ok (.ifCond .ne 5, 3) := by decide +kernel
theorem dX11_mustNot_8 : decode cX11_mustNot 8 = .ok (.iconst (-1), 1) := by decide +kernel
theorem dX11_mustNot_9 : decode cX11_mustNot 9 = .ok (.ireturn, 1) := by decide +kernel
theorem dX11_mustNot_10 : decode cX11_mustNot 10 = .ok (.aload_n 0, 1) := by decide +kernel
theorem dX11_mustNot_11 : decode cX11_mustNot 11 = .ok (.getfield 53, 3) := by decide +kernel
theorem dX11_mustNot_14 : decode cX11_mustNot 14 = .ok (.iload_n 1, 1) := by decide +kernel
theorem dX11_mustNot_15 : decode cX11_mustNot 15 = .ok (.bipush 100, 2) := by decide +kernel
theorem dX11_mustNot_17 : decode cX11_mustNot 17 = .ok (.idiv, 1) := by decide +kernel
theorem dX11_mustNot_18 : decode cX11_mustNot 18 = .ok (.aload_n 0, 1) := by decide +kernel
theorem dX11_mustNot_19 : decode cX11_mustNot 19 = .ok (.getfield 28, 3) := by decide +kernel
theorem dX11_mustNot_22 : decode cX11_mustNot 22 = .ok (.iload_n 1, 1) := by decide +kernel
theorem dX11_mustNot_23 : decode cX11_mustNot 23 = .ok (.bipush 100, 2) := by decide +kernel
theorem dX11_mustNot_25 : decode cX11_mustNot 25 = .ok (.irem, 1) := by decide +kernel
theorem dX11_mustNot_26 : decode cX11_mustNot 26 = .ok (.invokevirtual 136, 3) := by decide +kernel
theorem dX11_mustNot_29 : decode cX11_mustNot 29 = .ok (.invokevirtual 239, 3) := by decide +kernel
theorem dX11_mustNot_32 : decode cX11_mustNot 32 = .ok (.ireturn, 1) := by decide +kernel
theorem dX11_midst_0 : decode cX11_midst 0 = .ok (.aload_n 0, 1) := by decide +kernel
theorem dX11_midst_1 : decode cX11_midst 1 = .ok (.iload_n 1, 1) := by decide +kernel
theorem dX11_midst_2 : decode cX11_midst 2 = .ok (.invokevirtual 184, 3) := by decide +kernel
theorem dX11_midst_5 : decode cX11_midst 5 = .ok (.ifCond .eq 31, 3) := by decide +kernel
theorem dX11_midst_8 : decode cX11_midst 8 = .ok (.aload_n 0, 1) := by decide +kernel
theorem dX11_midst_9 : decode cX11_midst 9 = .ok (.iload_n 2, 1) := by decide +kernel
theorem dX11_midst_10 : decode cX11_midst 10 = .ok (.invokevirtual 187, 3) := by decide +kernel
theorem dX11_midst_13 : decode cX11_midst 13 = .ok (.ifCond .eq 23, 3) := by decide +kernel
theorem dX11_midst_16 : decode cX11_midst 16 = .ok (.iload_n 3, 1) := by decide +kernel
theorem dX11_midst_17 : decode cX11_midst 17 = .ok (.iconst 1, 1) := by decide +kernel
theorem dX11_midst_18 : decode cX11_midst 18 = .ok (.bipush 60, 2) := by decide +kernel
theorem dX11_midst_20 : decode cX11_midst 20 = .ok (.invokestatic 87, 3) := by decide +kernel
theorem dX11_midst_23 : decode cX11_midst 23 = .ok (.ifCond .eq 13, 3) := by decide +kernel
theorem dX11_midst_26 : decode cX11_midst 26 = .ok (.iload 4, 2) := by decide +kernel
theorem dX11_midst_28 : decode cX11_midst 28 = .ok (.iconst 0, 1) := by decide +kernel
theorem dX11_midst_29 : decode cX11_midst 29 = .ok (.iconst 1, 1) := by decide +kernel
theorem dX11_midst_30 : decode cX11_midst 30 = .ok (.invokestatic 87, 3) := by decide +kernel
theorem dX11_midst_33 : decode cX11_midst 33 = .ok (.ifCond .ne 5, 3) := by decide +kernel
theorem dX11_midst_36 : decode cX11_midst 36 = .ok (.iconst (-1), 1) := by decide +kernel
theorem dX11_midst_37 : decode cX11_midst 37 = .ok (.ireturn, 1) := by decide +kernel
theorem dX11_midst_38 : decode cX11_midst 38 = .ok (.iload_n 1, 1) := by decide +kernel
theorem dX11_midst_39 : decode cX11_midst 39 = .ok (.bipush 100, 2) := by decide +kernel
theorem dX11_midst_41 : decode cX11_midst 41 = .ok (.idiv, 1) := by decide +kernel
theorem dX11_midst_42 : decode cX11_midst 42 = .ok (.istore 5, 2) := by decide +kernel
theorem dX11_midst_44 : decode cX11_midst 44 = .ok (.aload_n 0, 1) := by decide +kernel
theorem dX11_midst_45 : decode cX11_midst 45 = .ok (.getfield 53, 3) := by decide +kernel
theorem dX11_midst_48 : decode cX11_midst 48 = .ok (.iload 5, 2) := by decide +kernel
theorem dX11_midst_50 : decode cX11_midst 50 = .ok (.iload_n 1, 1) := by decide +kernel
theorem dX11_midst_51 : decode cX11_midst 51 = .ok (.bipush 100, 2) := by decide +kernel
theorem dX11_midst_53 : decode cX11_midst 53 = .ok (.irem, 1) := by decide +kernel
theorem dX11_midst_54 : decode cX11_midst 54 = .ok (.iload_n 3, 1) := by decide +kernel
theorem dX11_midst_55 : decode cX11_midst 55 = .ok (.invokevirtual 242, 3) := by decide +kernel
theorem dX11_midst_58 : decode cX11_midst 58 = .ok (.istore 6, 2) := by decide +kernel
theorem dX11_midst_60 : decode cX11_midst 60 = .ok (.iload 4, 2) := by decide +kernel
theorem dX11_midst_62 : decode cX11_midst 62 = .ok (.ifCond .ne 6, 3) := by decide +kernel
theorem dX11_midst_65 : decode cX11_midst 65 = .ok (.iload 6, 2) := by decide +kernel
theorem dX11_midst_67 : decode cX11_midst 67 = .ok (.ireturn, 1) := by decide +kernel
theorem dX11_midst_68 : decode cX11_midst 68 = .ok (.iload 6, 2) := by decide +kernel
theorem dX11_midst_70 : decode cX11_midst 70 = .ok (.aload_n 0, 1) := by decide +kernel
theorem dX11_midst_71 : decode cX11_midst 71 = .ok (.getfield 21, 3) := by decide +kernel
theorem dX11_midst_74 : decode cX11_midst 74 = .ok (.iload 5, 2) := by decide +kernel
theorem dX11_midst_76 : decode cX11_midst 76 = .ok (.invokevirtual 119, 3) := by decide +kernel
theorem dX11_midst_79 : decode cX11_midst 79 = .ok (.if_icmp .ne 8, 3) := by decide +kernel
theorem dX11_midst_82 : decode cX11_midst 82 = .ok (.bipush (-2), 2) := by decide +kernel
theorem dX11_midst_84 : decode cX11_midst 84 = .ok (.goto 22, 3) := by decide +kernel
theorem dX11_midst_87 : decode cX11_midst 87 = .ok (.aload_n 0, 1) := by decide +kernel
theorem dX11_midst_88 : decode cX11_midst 88 = .ok (.getfield 53, 3) := by decide +kernel
theorem dX11_midst_91 : decode cX11_midst 91 = .ok (.iload 5, 2) := by decide +kernel
theorem dX11_midst_93 : decode cX11_midst 93 = .ok (.iload_n 1, 1) := by decide +kernel
theorem dX11_midst_94 : decode cX11_midst 94 = .ok (.bipush 100, 2) := by decide +kernel
theorem dX11_midst_96 : decode cX11_midst 96 = .ok (.irem, 1) := by decide +kernel
theorem dX11_midst_97 : decode cX11_midst 97 = .ok (.iload_n 3, 1) := by decide +kernel
theorem dX11_midst_98 : decode cX11_midst 98 = .ok (.iload 6, 2) := by decide +kernel
theorem dX11_midst_100 : decode cX11_midst 100 = .ok (.invokevirtual 245, 3) := by decide +kernel
theorem dX11_midst_103 : decode cX11_midst 103 = .ok (.invokestatic 212, 3) := by decide +kernel
theorem dX11_midst_106 : decode cX11_midst 106 = .ok (.ireturn, 1) := by decide +kernel
theorem dX11_line_0 : decode cX11_line 0 = .ok (.aload_n 0, 1) := by decide +kernel
theorem dX11_line_1 : decode cX11_line 1 = .ok (.getfield 21, 3) := by decide +kernel
theorem dX11_line_4 : decode cX11_line 4 = .ok (.iload_n 1, 1) := by decide +kernel
theorem dX11_line_5 : decode cX11_line 5 = .ok (.invokevirtual 115, 3) := by decide +kernel
theorem dX11_line_8 : decode cX11_line 8 = .ok (.ifCond .eq 24, 3) := by decide +kernel
theorem dX11_line_11 : decode cX11_line 11 = .ok (.aload_n 0, 1) := by decide +kernel
theorem dX11_line_12 : decode cX11_line 12 = .ok (.iload_n 2, 1) := by decide +kernel
theorem dX11_line_13 : decode cX11_line 13 = .ok (.invokevirtual 187, 3) := by decide +kernel
theorem dX11_line_16 : decode cX11_line 16 = .ok (.ifCond .eq 16, 3) := by decide +kernel
theorem dX11_line_19 : decode cX11_line 19 = .ok (.aload_n 0, 1) := by decide +kernel
theorem dX11_line_20 : decode cX11_line 20 = .ok (.getfield 53, 3) := by decide +kernel
theorem dX11_line_23 : decode cX11_line 23 = .ok (.iload_n 1, 1) := by decide +kernel
theorem dX11_line_24 : decode cX11_line 24 = .ok (.bipush (-100), 2) := by decide +kernel
theorem dX11_line_26 : decode cX11_line 26 = .ok (.invokevirtual 249, 3) := by decide +kernel
theorem dX11_line_29 : decode cX11_line 29 = .ok (.goto 5, 3) := by decide +kernel
theorem dX11_line_32 : decode cX11_line 32 = .ok (.ldc 171, 2) := by decide +kernel
theorem dX11_line_34 : decode cX11_line 34 = .ok (.ireturn, 1) := by decide +kernel
theorem dX11_wall_0 : decode cX11_wall 0 = .ok (.aload_n 0, 1) := by decide +kernel
theorem dX11_wall_1 : decode cX11_wall 1 = .ok (.getfield 44, 3) := by decide +kernel
theorem dX11_wall_4 : decode cX11_wall 4 = .ok (.iload_n 1, 1) := by decide +kernel
theorem dX11_wall_5 : decode cX11_wall 5 = .ok (.iconst 0, 1) := by decide +kernel
theorem dX11_wall_6 : decode cX11_wall 6 = .ok (.invokevirtual 226, 3) := by decide +kernel
theorem dX11_wall_9 : decode cX11_wall 9 = .ok (.ifCond .eq 12, 3) := by decide +kernel
theorem dX11_wall_12 : decode cX11_wall 12 = .ok (.iload_n 2, 1) := by decide +kernel
theorem dX11_wall_13 : decode cX11_wall 13 = .ok (.iconst 0, 1) := by decide +kernel
theorem dX11_wall_14 : decode cX11_wall 14 = .ok (.iconst 1, 1) := by decide +kernel
theorem dX11_wall_15 : decode cX11_wall 15 = .ok (.invokestatic 87, 3) := by decide +kernel
theorem dX11_wall_18 : decode cX11_wall 18 = .ok (.ifCond .ne 6, 3) := by decide +kernel
theorem dX11_wall_21 : decode cX11_wall 21 = .ok (.ldc 171, 2) := by decide +kernel
theorem dX11_wall_23 : decode cX11_wall 23 = .ok (.ireturn, 1) := by decide +kernel
theorem dX11_wall_24 : decode cX11_wall 24 = .ok (.aload_n 0, 1) := by decide +kernel
theorem dX11_wall_25 : decode cX11_wall 25 = .ok (.getfield 53, 3) := by decide +kernel
theorem dX11_wall_28 : decode cX11_wall 28 = .ok (.invokevirtual 252, 3) := by decide +kernel
theorem dX11_wall_31 : decode cX11_wall 31 = .ok (.iload_n 2, 1) := by decide +kernel
theorem dX11_wall_32 : decode cX11_wall 32 = .ok (.ifCond .ne 13, 3) := by decide +kernel
theorem dX11_wall_35 : decode cX11_wall 35 = .ok (.aload_n 0, 1) := by decide +kernel
theorem dX11_wall_36 : decode cX11_wall 36 = .ok (.getfield 53, 3) := by decide +kernel
theorem dX11_wall_39 : decode cX11_wall 39 = .ok (.getfield 220, 3) := by decide +kernel
theorem dX11_wall_42 : decode cX11_wall 42 = .ok (.goto 10, 3) := by decide +kernel
theorem dX11_wall_45 : decode cX11_wall 45 = .ok (.aload_n 0, 1) := by decide +kernel
theorem dX11_wall_46 : decode cX11_wall 46 = .ok (.getfield 53, 3) := by decide +kernel
theorem dX11_wall_49 : decode cX11_wall 49 = .ok (.getfield 223, 3) := by decide +kernel
theorem dX11_wall_52 : decode cX11_wall 52 = .ok (.ireturn, 1) := by decide +kernel
theorem dX11_roped_0 : decode cX11_roped 0 = .ok (.aload_n 0, 1) := by decide +kernel
theorem dX11_roped_1 : decode cX11_roped 1 = .ok (.iload_n 1, 1) := by decide +kernel
theorem dX11_roped_2 : decode cX11_roped 2 = .ok (.invokevirtual 184, 3) := by decide +kernel
theorem dX11_roped_5 : decode cX11_roped 5 = .ok (.ifCond .eq 23, 3) := by decide +kernel
theorem dX11_roped_8 : decode cX11_roped 8 = .ok (.aload_n 0, 1) := by decide +kernel
theorem dX11_roped_9 : decode cX11_roped 9 = .ok (.iload_n 2, 1) := by decide +kernel
theorem dX11_roped_10 : decode cX11_roped 10 = .ok (.invokevirtual 187, 3) := by decide +kernel
theorem dX11_roped_13 : decode cX11_roped 13 = .ok (.ifCond .eq 15, 3) := by decide +kernel
theorem dX11_roped_16 : decode cX11_roped 16 = .ok (.aload_n 0, 1) := by decide +kernel
theorem dX11_roped_17 : decode cX11_roped 17 = .ok (.iload_n 3, 1) := by decide +kernel
theorem dX11_roped_18 : decode cX11_roped 18 = .ok (.iload_n 1, 1) := by decide +kernel
theorem dX11_roped_19 : decode cX11_roped 19 = .ok (.bipush 100, 2) := by decide +kernel
theorem dX11_roped_21 : decode cX11_roped 21 = .ok (.idiv, 1) := by decide +kernel
theorem dX11_roped_22 : decode cX11_roped 22 = .ok (.invokevirtual 190, 3) := by decide +kernel
theorem dX11_roped_25 : decode cX11_roped 25 = .ok (.ifCond .ne 5, 3) := by decide +kernel
theorem dX11_roped_28 : decode cX11_roped 28 = .ok (.iconst (-1), 1) := by decide +kernel
theorem dX11_roped_29 : decode cX11_roped 29 = .ok (.ireturn, 1) := by decide +kernel
theorem dX11_roped_30 : decode cX11_roped 30 = .ok (.aload_n 0, 1) := by decide +kernel
theorem dX11_roped_31 : decode cX11_roped 31 = .ok (.getfield 53, 3) := by decide +kernel
theorem dX11_roped_34 : decode cX11_roped 34 = .ok (.iload_n 1, 1) := by decide +kernel
theorem dX11_roped_35 : decode cX11_roped 35 = .ok (.bipush 100, 2) := by decide +kernel
theorem dX11_roped_37 : decode cX11_roped 37 = .ok (.idiv, 1) := by decide +kernel
theorem dX11_roped_38 : decode cX11_roped 38 = .ok (.iload_n 3, 1) := by decide +kernel
theorem dX11_roped_39 : decode cX11_roped 39 = .ok (.bipush 100, 2) := by decide +kernel
theorem dX11_roped_41 : decode cX11_roped 41 = .ok (.irem, 1) := by decide +kernel
theorem dX11_roped_42 : decode cX11_roped 42 = .ok (.aload_n 0, 1) := by decide +kernel
theorem dX11_roped_43 : decode cX11_roped 43 = .ok (.getfield 28, 3) := by decide +kernel
theorem dX11_roped_46 : decode cX11_roped 46 = .ok (.iload_n 1, 1) := by decide +kernel
theorem dX11_roped_47 : decode cX11_roped 47 = .ok (.bipush 100, 2) := by decide +kernel
theorem dX11_roped_49 : decode cX11_roped 49 = .ok (.irem, 1) := by decide +kernel
theorem dX11_roped_50 : decode cX11_roped 50 = .ok (.invokevirtual 136, 3) := by decide +kernel
theorem dX11_roped_53 : decode cX11_roped 53 = .ok (.iconst 0, 1) := by decide +kernel
theorem dX11_roped_54 : decode cX11_roped 54 = .ok (.invokevirtual 193, 3) := by decide +kernel
theorem dX11_roped_57 : decode cX11_roped 57 = .ok (.aload_n 0, 1) := by decide +kernel
theorem dX11_roped_58 : decode cX11_roped 58 = .ok (.getfield 44, 3) := by decide +kernel
theorem dX11_roped_61 : decode cX11_roped 61 = .ok (.iload_n 3, 1) := by decide +kernel
theorem dX11_roped_62 : decode cX11_roped 62 = .ok (.bipush 100, 2) := by decide +kernel
theorem dX11_roped_64 : decode cX11_roped 64 = .ok (.idiv, 1) := by decide +kernel
theorem dX11_roped_65 : decode cX11_roped 65 = .ok (.invokevirtual 255, 3) := by decide +kernel
theorem dX11_roped_68 : decode cX11_roped 68 = .ok (.ireturn, 1) := by decide +kernel
theorem dX11_stick_0 : decode cX11_stick 0 = .ok (.aload_n 0, 1) := by decide +kernel
theorem dX11_stick_1 : decode cX11_stick 1 = .ok (.iload_n 1, 1) := by decide +kernel
theorem dX11_stick_2 : decode cX11_stick 2 = .ok (.invokevirtual 184, 3) := by decide +kernel
theorem dX11_stick_5 : decode cX11_stick 5 = .ok (.ifCond .eq 22, 3) := by decide +kernel
theorem dX11_stick_8 : decode cX11_stick 8 = .ok (.iload_n 2, 1) := by decide +kernel
theorem dX11_stick_9 : decode cX11_stick 9 = .ok (.bipush 11, 2) := by decide +kernel
theorem dX11_stick_11 : decode cX11_stick 11 = .ok (.sipush 999, 3) := by decide +kernel
theorem dX11_stick_14 : decode cX11_stick 14 = .ok (.invokestatic 87, 3) := by decide +kernel
theorem dX11_stick_17 : decode cX11_stick 17 = .ok (.ifCond .eq 10, 3) := by decide +kernel
theorem dX11_stick_20 : decode cX11_stick 20 = .ok (.iload_n 2, 1) := by decide +kernel
theorem dX11_stick_21 : decode cX11_stick 21 = .ok (.bipush 10, 2) := by decide +kernel
theorem dX11_stick_23 : decode cX11_stick 23 = .ok (.irem, 1) := by decide +kernel
theorem dX11_stick_24 : decode cX11_stick 24 = .ok (.ifCond .ne 5, 3) := by decide +kernel
theorem dX11_stick_27 : decode cX11_stick 27 = .ok (.iconst (-1), 1) := by decide +kernel
theorem dX11_stick_28 : decode cX11_stick 28 = .ok (.ireturn, 1) := by decide +kernel
theorem dX11_stick_29 : decode cX11_stick 29 = .ok (.bipush 10, 2) := by decide +kernel
theorem dX11_stick_31 : decode cX11_stick 31 = .ok (.iload_n 2, 1) := by decide +kernel
theorem dX11_stick_32 : decode cX11_stick 32 = .ok (.bipush 10, 2) := by decide +kernel
theorem dX11_stick_34 : decode cX11_stick 34 = .ok (.idiv, 1) := by decide +kernel
theorem dX11_stick_35 : decode cX11_stick 35 = .ok (.imul, 1) := by decide +kernel
theorem dX11_stick_36 : decode cX11_stick 36 = .ok (.iload_n 2, 1) := by decide +kernel
theorem dX11_stick_37 : decode cX11_stick 37 = .ok (.bipush 10, 2) := by decide +kernel
theorem dX11_stick_39 : decode cX11_stick 39 = .ok (.irem, 1) := by decide +kernel
theorem dX11_stick_40 : decode cX11_stick 40 = .ok (.invokestatic 258, 3) := by decide +kernel
theorem dX11_stick_43 : decode cX11_stick 43 = .ok (.istore_n 3, 1) := by decide +kernel
theorem dX11_stick_44 : decode cX11_stick 44 = .ok (.aload_n 0, 1) := by decide +kernel
theorem dX11_stick_45 : decode cX11_stick 45 = .ok (.getfield 21, 3) := by decide +kernel
theorem dX11_stick_48 : decode cX11_stick 48 = .ok (.iload_n 1, 1) := by decide +kernel
theorem dX11_stick_49 : decode cX11_stick 49 = .ok (.bipush 100, 2) := by decide +kernel
theorem dX11_stick_51 : decode cX11_stick 51 = .ok (.idiv, 1) := by decide +kernel
theorem dX11_stick_52 : decode cX11_stick 52 = .ok (.aload_n 0, 1) := by decide +kernel
theorem dX11_stick_53 : decode cX11_stick 53 = .ok (.getfield 28, 3) := by decide +kernel
theorem dX11_stick_56 : decode cX11_stick 56 = .ok (.iload_n 1, 1) := by decide +kernel
theorem dX11_stick_57 : decode cX11_stick 57 = .ok (.bipush 100, 2) := by decide +kernel
theorem dX11_stick_59 : decode cX11_stick 59 = .ok (.irem, 1) := by decide +kernel
theorem dX11_stick_60 : decode cX11_stick 60 = .ok (.invokevirtual 136, 3) := by decide +kernel
theorem dX11_stick_63 : decode cX11_stick 63 = .ok (.iload_n 3, 1) := by decide +kernel
theorem dX11_stick_64 : decode cX11_stick 64 = .ok (.invokevirtual 261, 3) := by decide +kernel
theorem dX11_stick_67 : decode cX11_stick 67 = .ok (.ireturn, 1) := by decide +kernel
theorem dX11_notch_0 : decode cX11_notch 0 = .ok (.aload_n 0, 1) := by decide +kernel
theorem dX11_notch_1 : decode cX11_notch 1 = .ok (.getfield 69, 3) := by decide +kernel
theorem dX11_notch_4 : decode cX11_notch 4 = .ok (.iload_n 1, 1) := by decide +kernel
theorem dX11_notch_5 : decode cX11_notch 5 = .ok (.iload_n 2, 1) := by decide +kernel
theorem dX11_notch_6 : decode cX11_notch 6 = .ok (.invokevirtual 264, 3) := by decide +kernel
theorem dX11_notch_9 : decode cX11_notch 9 = .ok (.ifCond .ne 5, 3) := by decide +kernel
theorem dX11_notch_12 : decode cX11_notch 12 = .ok (.iconst (-1), 1) := by decide +kernel
theorem dX11_notch_13 : decode cX11_notch 13 = .ok (.ireturn, 1) := by decide +kernel
theorem dX11_notch_14 : decode cX11_notch 14 = .ok (.aload_n 0, 1) := by decide +kernel
theorem dX11_notch_15 : decode cX11_notch 15 = .ok (.getfield 69, 3) := by decide +kernel
theorem dX11_notch_18 : decode cX11_notch 18 = .ok (.invokevirtual 267, 3) := by decide +kernel
theorem dX11_notch_21 : decode cX11_notch 21 = .ok (.ifCond .eq 8, 3) := by decide +kernel
theorem dX11_notch_24 : decode cX11_notch 24 = .ok (.bipush (-3), 2) := by decide +kernel
theorem dX11_notch_26 : decode cX11_notch 26 = .ok (.goto 12, 3) := by decide +kernel
theorem dX11_notch_29 : decode cX11_notch 29 = .ok (.aload_n 0, 1) := by decide +kernel
theorem dX11_notch_30 : decode cX11_notch 30 = .ok (.getfield 69, 3) := by decide +kernel
theorem dX11_notch_33 : decode cX11_notch 33 = .ok (.iload_n 1, 1) := by decide +kernel
theorem dX11_notch_34 : decode cX11_notch 34 = .ok (.iload_n 2, 1) := by decide +kernel
theorem dX11_notch_35 : decode cX11_notch 35 = .ok (.invokevirtual 268, 3) := by decide +kernel
theorem dX11_notch_38 : decode cX11_notch 38 = .ok (.ireturn, 1) := by decide +kernel
theorem dX11_notches_0 : decode cX11_notches 0 = .ok (.iload_n 1, 1) := by decide +kernel
theorem dX11_notches_1 : decode cX11_notches 1 = .ok (.invokestatic 269, 3) := by decide +kernel
theorem dX11_notches_4 : decode cX11_notches 4 = .ok (.ifCond .eq 13, 3) := by decide +kernel
theorem dX11_notches_7 : decode cX11_notches 7 = .ok (.iload_n 3, 1) := by decide +kernel
theorem dX11_notches_8 : decode cX11_notches 8 = .ok (.iconst 1, 1) := by decide +kernel
theorem dX11_notches_9 : decode cX11_notches 9 = .ok (.bipush 20, 2) := by decide +kernel
theorem dX11_notches_11 : decode cX11_notches 11 = .ok (.invokestatic 87, 3) := by decide +kernel
theorem dX11_notches_14 : decode cX11_notches 14 = .ok (.ifCond .ne 5, 3) := by decide +kernel
theorem dX11_notches_17 : decode cX11_notches 17 = .ok (.iconst (-1), 1) := by decide +kernel
theorem dX11_notches_18 : decode cX11_notches 18 = .ok (.ireturn, 1) := by decide +kernel
theorem dX11_notches_19 : decode cX11_notches 19 = .ok (.aload_n 0, 1) := by decide +kernel
theorem dX11_notches_20 : decode cX11_notches 20 = .ok (.getfield 83, 3) := by decide +kernel
theorem dX11_notches_23 : decode cX11_notches 23 = .ok (.iload_n 1, 1) := by decide +kernel
theorem dX11_notches_24 : decode cX11_notches 24 = .ok (.invokevirtual 270, 3) := by decide +kernel
theorem dX11_notches_27 : decode cX11_notches 27 = .ok (.bipush (-2), 2) := by decide +kernel
theorem dX11_notches_29 : decode cX11_notches 29 = .ok (.if_icmp .ne 5, 3) := by decide +kernel
theorem dX11_notches_32 : decode cX11_notches 32 = .ok (.iconst 0, 1) := by decide +kernel
theorem dX11_notches_33 : decode cX11_notches 33 = .ok (.ireturn, 1) := by decide +kernel
theorem dX11_notches_34 : decode cX11_notches 34 = .ok (.aload_n 0, 1) := by decide +kernel
theorem dX11_notches_35 : decode cX11_notches 35 = .ok (.getfield 83, 3) := by decide +kernel
theorem dX11_notches_38 : decode cX11_notches 38 = .ok (.iload_n 1, 1) := by decide +kernel
theorem dX11_notches_39 : decode cX11_notches 39 = .ok (.invokevirtual 270, 3) := by decide +kernel
theorem dX11_notches_42 : decode cX11_notches 42 = .ok (.ifCond .ne 13, 3) := by decide +kernel
theorem dX11_notches_45 : decode cX11_notches 45 = .ok (.aload_n 0, 1) := by decide +kernel
theorem dX11_notches_46 : decode cX11_notches 46 = .ok (.iload_n 1, 1) := by decide +kernel
theorem dX11_notches_47 : decode cX11_notches 47 = .ok (.iload_n 2, 1) := by decide +kernel
theorem dX11_notches_48 : decode cX11_notches 48 = .ok (.iload_n 3, 1) := by decide +kernel
theorem dX11_notches_49 : decode cX11_notches 49 = .ok (.invokevirtual 273, 3) := by decide +kernel
theorem dX11_notches_52 : decode cX11_notches 52 = .ok (.goto 5, 3) := by decide +kernel
theorem dX11_notches_55 : decode cX11_notches 55 = .ok (.bipush (-12), 2) := by decide +kernel
theorem dX11_notches_57 : decode cX11_notches 57 = .ok (.ireturn, 1) := by decide +kernel
theorem dX11_off_0 : decode cX11_off 0 = .ok (.aload_n 0, 1) := by decide +kernel
theorem dX11_off_1 : decode cX11_off 1 = .ok (.getfield 28, 3) := by decide +kernel
theorem dX11_off_4 : decode cX11_off 4 = .ok (.iload_n 1, 1) := by decide +kernel
theorem dX11_off_5 : decode cX11_off 5 = .ok (.invokevirtual 158, 3) := by decide +kernel
theorem dX11_off_8 : decode cX11_off 8 = .ok (.ifCond .ne 5, 3) := by decide +kernel
theorem dX11_off_11 : decode cX11_off 11 = .ok (.iconst (-1), 1) := by decide +kernel
theorem dX11_off_12 : decode cX11_off 12 = .ok (.ireturn, 1) := by decide +kernel
theorem dX11_off_13 : decode cX11_off 13 = .ok (.aload_n 0, 1) := by decide +kernel
theorem dX11_off_14 : decode cX11_off 14 = .ok (.getfield 69, 3) := by decide +kernel
theorem dX11_off_17 : decode cX11_off 17 = .ok (.getfield 276, 3) := by decide +kernel
theorem dX11_off_20 : decode cX11_off 20 = .ok (.ifCond .ne 8, 3) := by decide +kernel
theorem dX11_off_23 : decode cX11_off 23 = .ok (.bipush (-5), 2) := by decide +kernel
theorem dX11_off_25 : decode cX11_off 25 = .ok (.goto 15, 3) := by decide +kernel
theorem dX11_off_28 : decode cX11_off 28 = .ok (.aload_n 0, 1) := by decide +kernel
theorem dX11_off_29 : decode cX11_off 29 = .ok (.getfield 69, 3) := by decide +kernel
theorem dX11_off_32 : decode cX11_off 32 = .ok (.aload_n 0, 1) := by decide +kernel
theorem dX11_off_33 : decode cX11_off 33 = .ok (.getfield 28, 3) := by decide +kernel
theorem dX11_off_36 : decode cX11_off 36 = .ok (.iload_n 1, 1) := by decide +kernel
theorem dX11_off_37 : decode cX11_off 37 = .ok (.invokevirtual 277, 3) := by decide +kernel
theorem dX11_off_40 : decode cX11_off 40 = .ok (.ireturn, 1) := by decide +kernel
theorem dX11_fit_0 : decode cX11_fit 0 = .ok (.aload_n 0, 1) := by decide +kernel
theorem dX11_fit_1 : decode cX11_fit 1 = .ok (.getfield 69, 3) := by decide +kernel
theorem dX11_fit_4 : decode cX11_fit 4 = .ok (.getfield 276, 3) := by decide +kernel
theorem dX11_fit_7 : decode cX11_fit 7 = .ok (.ifCond .eq 13, 3) := by decide +kernel
theorem dX11_fit_10 : decode cX11_fit 10 = .ok (.aload_n 0, 1) := by decide +kernel
theorem dX11_fit_11 : decode cX11_fit 11 = .ok (.getfield 28, 3) := by decide +kernel
theorem dX11_fit_14 : decode cX11_fit 14 = .ok (.getfield 157, 3) := by decide +kernel
theorem dX11_fit_17 : decode cX11_fit 17 = .ok (.ifCond .ne 8, 3) := by decide +kernel
theorem dX11_fit_20 : decode cX11_fit 20 = .ok (.bipush (-5), 2) := by decide +kernel
theorem dX11_fit_22 : decode cX11_fit 22 = .ok (.goto 14, 3) := by decide +kernel
theorem dX11_fit_25 : decode cX11_fit 25 = .ok (.aload_n 0, 1) := by decide +kernel
theorem dX11_fit_26 : decode cX11_fit 26 = .ok (.getfield 69, 3) := by decide +kernel
theorem dX11_fit_29 : decode cX11_fit 29 = .ok (.aload_n 0, 1) := by decide +kernel
theorem dX11_fit_30 : decode cX11_fit 30 = .ok (.getfield 28, 3) := by decide +kernel
theorem dX11_fit_33 : decode cX11_fit 33 = .ok (.invokevirtual 281, 3) := by decide +kernel
theorem dX11_fit_36 : decode cX11_fit 36 = .ok (.ireturn, 1) := by decide +kernel
theorem dX11_undo_0 : decode cX11_undo 0 = .ok (.aload_n 0, 1) := by decide +kernel
theorem dX11_undo_1 : decode cX11_undo 1 = .ok (.getfield 62, 3) := by decide +kernel
theorem dX11_undo_4 : decode cX11_undo 4 = .ok (.invokevirtual 285, 3) := by decide +kernel
theorem dX11_undo_7 : decode cX11_undo 7 = .ok (.ifCond .eq 13, 3) := by decide +kernel
theorem dX11_undo_10 : decode cX11_undo 10 = .ok (.aload_n 0, 1) := by decide +kernel
theorem dX11_undo_11 : decode cX11_undo 11 = .ok (.getfield 62, 3) := by decide +kernel
theorem dX11_undo_14 : decode cX11_undo 14 = .ok (.getfield 288, 3) := by decide +kernel
theorem dX11_undo_17 : decode cX11_undo 17 = .ok (.goto 5, 3) := by decide +kernel
theorem dX11_undo_20 : decode cX11_undo 20 = .ok (.bipush (-5), 2) := by decide +kernel
theorem dX11_undo_22 : decode cX11_undo 22 = .ok (.ireturn, 1) := by decide +kernel
theorem dX11_redo_0 : decode cX11_redo 0 = .ok (.aload_n 0, 1) := by decide +kernel
theorem dX11_redo_1 : decode cX11_redo 1 = .ok (.getfield 62, 3) := by decide +kernel
theorem dX11_redo_4 : decode cX11_redo 4 = .ok (.invokevirtual 291, 3) := by decide +kernel
theorem dX11_redo_7 : decode cX11_redo 7 = .ok (.ifCond .eq 13, 3) := by decide +kernel
theorem dX11_redo_10 : decode cX11_redo 10 = .ok (.aload_n 0, 1) := by decide +kernel
theorem dX11_redo_11 : decode cX11_redo 11 = .ok (.getfield 62, 3) := by decide +kernel
theorem dX11_redo_14 : decode cX11_redo 14 = .ok (.getfield 294, 3) := by decide +kernel
theorem dX11_redo_17 : decode cX11_redo 17 = .ok (.goto 5, 3) := by decide +kernel
theorem dX11_redo_20 : decode cX11_redo 20 = .ok (.bipush (-5), 2) := by decide +kernel
theorem dX11_redo_22 : decode cX11_redo 22 = .ok (.ireturn, 1) := by decide +kernel
theorem dX11_body_0 : decode cX11_body 0 = .ok (.iload_n 1, 1) := by decide +kernel
theorem dX11_body_1 : decode cX11_body 1 = .ok (.invokestatic 297, 3) := by decide +kernel
theorem dX11_body_4 : decode cX11_body 4 = .ok (.ifCond .ne 5, 3) := by decide +kernel
theorem dX11_body_7 : decode cX11_body 7 = .ok (.iconst (-1), 1) := by decide +kernel
theorem dX11_body_8 : decode cX11_body 8 = .ok (.ireturn, 1) := by decide +kernel
theorem dX11_body_9 : decode cX11_body 9 = .ok (.aload_n 0, 1) := by decide +kernel
theorem dX11_body_10 : decode cX11_body 10 = .ok (.getfield 76, 3) := by decide +kernel
theorem dX11_body_13 : decode cX11_body 13 = .ok (.invokevirtual 300, 3) := by decide +kernel
theorem dX11_body_16 : decode cX11_body 16 = .ok (.ifCond .eq 8, 3) := by decide +kernel
theorem dX11_body_19 : decode cX11_body 19 = .ok (.bipush (-3), 2) := by decide +kernel
theorem dX11_body_21 : decode cX11_body 21 = .ok (.goto 11, 3) := by decide +kernel
theorem dX11_body_24 : decode cX11_body 24 = .ok (.aload_n 0, 1) := by decide +kernel
theorem dX11_body_25 : decode cX11_body 25 = .ok (.getfield 76, 3) := by decide +kernel
theorem dX11_body_28 : decode cX11_body 28 = .ok (.iload_n 1, 1) := by decide +kernel
theorem dX11_body_29 : decode cX11_body 29 = .ok (.invokevirtual 301, 3) := by decide +kernel
theorem dX11_body_32 : decode cX11_body 32 = .ok (.ireturn, 1) := by decide +kernel
theorem dX11_act_0 : decode cX11_act 0 = .ok (.aload_n 0, 1) := by decide +kernel
theorem dX11_act_1 : decode cX11_act 1 = .ok (.getfield 76, 3) := by decide +kernel
theorem dX11_act_4 : decode cX11_act 4 = .ok (.iload_n 1, 1) := by decide +kernel
theorem dX11_act_5 : decode cX11_act 5 = .ok (.iload_n 2, 1) := by decide +kernel
theorem dX11_act_6 : decode cX11_act 6 = .ok (.iload_n 3, 1) := by decide +kernel
theorem dX11_act_7 : decode cX11_act 7 = .ok (.invokevirtual 303, 3) := by decide +kernel
theorem dX11_act_10 : decode cX11_act 10 = .ok (.ireturn, 1) := by decide +kernel
theorem dX11_trace_0 : decode cX11_trace 0 = .ok (.aload_n 0, 1) := by decide +kernel
theorem dX11_trace_1 : decode cX11_trace 1 = .ok (.getfield 76, 3) := by decide +kernel
theorem dX11_trace_4 : decode cX11_trace 4 = .ok (.iload_n 1, 1) := by decide +kernel
theorem dX11_trace_5 : decode cX11_trace 5 = .ok (.invokevirtual 306, 3) := by decide +kernel
theorem dX11_trace_8 : decode cX11_trace 8 = .ok (.ifCond .eq 14, 3) := by decide +kernel
theorem dX11_trace_11 : decode cX11_trace 11 = .ok (.aload_n 0, 1) := by decide +kernel
theorem dX11_trace_12 : decode cX11_trace 12 = .ok (.getfield 76, 3) := by decide +kernel
theorem dX11_trace_15 : decode cX11_trace 15 = .ok (.iload_n 1, 1) := by decide +kernel
theorem dX11_trace_16 : decode cX11_trace 16 = .ok (.invokevirtual 309, 3) := by decide +kernel
theorem dX11_trace_19 : decode cX11_trace 19 = .ok (.goto 4, 3) := by decide +kernel
theorem dX11_trace_22 : decode cX11_trace 22 = .ok (.iconst (-1), 1) := by decide +kernel
theorem dX11_trace_23 : decode cX11_trace 23 = .ok (.ireturn, 1) := by decide +kernel
theorem dX11_keep_0 : decode cX11_keep 0 = .ok (.iload_n 1, 1) := by decide +kernel
theorem dX11_keep_1 : decode cX11_keep 1 = .ok (.invokestatic 269, 3) := by decide +kernel
theorem dX11_keep_4 : decode cX11_keep 4 = .ok (.ifCond .eq 19, 3) := by decide +kernel
theorem dX11_keep_7 : decode cX11_keep 7 = .ok (.iload_n 2, 1) := by decide +kernel
theorem dX11_keep_8 : decode cX11_keep 8 = .ok (.iconst (-1), 1) := by decide +kernel
theorem dX11_keep_9 : decode cX11_keep 9 = .ok (.if_icmp .eq 16, 3) := by decide +kernel
theorem dX11_keep_12 : decode cX11_keep 12 = .ok (.aload_n 0, 1) := by decide +kernel
theorem dX11_keep_13 : decode cX11_keep 13 = .ok (.getfield 76, 3) := by decide +kernel
theorem dX11_keep_16 : decode cX11_keep 16 = .ok (.iload_n 2, 1) := by decide +kernel
theorem dX11_keep_17 : decode cX11_keep 17 = .ok (.invokevirtual 312, 3) := by decide +kernel
theorem dX11_keep_20 : decode cX11_keep 20 = .ok (.ifCond .ne 5, 3) := by decide +kernel
theorem dX11_keep_23 : decode cX11_keep 23 = .ok (.iconst (-1), 1) := by decide +kernel
theorem dX11_keep_24 : decode cX11_keep 24 = .ok (.ireturn, 1) := by decide +kernel
theorem dX11_keep_25 : decode cX11_keep 25 = .ok (.aload_n 0, 1) := by decide +kernel
theorem dX11_keep_26 : decode cX11_keep 26 = .ok (.getfield 83, 3) := by decide +kernel
theorem dX11_keep_29 : decode cX11_keep 29 = .ok (.iload_n 1, 1) := by decide +kernel
theorem dX11_keep_30 : decode cX11_keep 30 = .ok (.iload_n 2, 1) := by decide +kernel
theorem dX11_keep_31 : decode cX11_keep 31 = .ok (.invokevirtual 313, 3) := by decide +kernel
theorem dX11_keep_34 : decode cX11_keep 34 = .ok (.iconst 1, 1) := by decide +kernel
theorem dX11_keep_35 : decode cX11_keep 35 = .ok (.ireturn, 1) := by decide +kernel
theorem dX11_row_0 : decode cX11_row 0 = .ok (.iload_n 1, 1) := by decide +kernel
theorem dX11_row_1 : decode cX11_row 1 = .ok (.invokestatic 269, 3) := by decide +kernel
theorem dX11_row_4 : decode cX11_row 4 = .ok (.ifCond .eq 16, 3) := by decide +kernel
theorem dX11_row_7 : decode cX11_row 7 = .ok (.iload_n 2, 1) := by decide +kernel
theorem dX11_row_8 : decode cX11_row 8 = .ok (.invokestatic 316, 3) := by decide +kernel
theorem dX11_row_11 : decode cX11_row 11 = .ok (.ifCond .eq 9, 3) := by decide +kernel
theorem dX11_row_14 : decode cX11_row 14 = .ok (.iload_n 3, 1) := by decide +kernel
theorem dX11_row_15 : decode cX11_row 15 = .ok (.bipush 60, 2) := by decide +kernel
theorem dX11_row_17 : decode cX11_row 17 = .ok (.if_icmp .le 5, 3) := by decide +kernel
theorem dX11_row_20 : decode cX11_row 20 = .ok (.iconst (-1), 1) := by decide +kernel
theorem dX11_row_21 : decode cX11_row 21 = .ok (.ireturn, 1) := by decide +kernel
theorem dX11_row_22 : decode cX11_row 22 = .ok (.iload_n 3, 1) := by decide +kernel
theorem dX11_row_23 : decode cX11_row 23 = .ok (.ifCond .ge 6, 3) := by decide +kernel
theorem dX11_row_26 : decode cX11_row 26 = .ok (.bipush (-14), 2) := by decide +kernel
theorem dX11_row_28 : decode cX11_row 28 = .ok (.ireturn, 1) := by decide +kernel
theorem dX11_row_29 : decode cX11_row 29 = .ok (.aload_n 0, 1) := by decide +kernel
theorem dX11_row_30 : decode cX11_row 30 = .ok (.getfield 83, 3) := by decide +kernel
theorem dX11_row_33 : decode cX11_row 33 = .ok (.iload_n 1, 1) := by decide +kernel
theorem dX11_row_34 : decode cX11_row 34 = .ok (.iload_n 2, 1) := by decide +kernel
theorem dX11_row_35 : decode cX11_row 35 = .ok (.iload_n 3, 1) := by decide +kernel
theorem dX11_row_36 : decode cX11_row 36 = .ok (.invokevirtual 319, 3) := by decide +kernel
theorem dX11_row_39 : decode cX11_row 39 = .ok (.iconst 1, 1) := by decide +kernel
theorem dX11_row_40 : decode cX11_row 40 = .ok (.ireturn, 1) := by decide +kernel
theorem dX11_put_0 : decode cX11_put 0 = .ok (.aload_n 0, 1) := by decide +kernel
theorem dX11_put_1 : decode cX11_put 1 = .ok (.getfield 83, 3) := by decide +kernel
theorem dX11_put_4 : decode cX11_put 4 = .ok (.iload_n 1, 1) := by decide +kernel
theorem dX11_put_5 : decode cX11_put 5 = .ok (.iload_n 2, 1) := by decide +kernel
theorem dX11_put_6 : decode cX11_put 6 = .ok (.invokevirtual 323, 3) := by decide +kernel
theorem dX11_put_9 : decode cX11_put 9 = .ok (.istore 5, 2) := by decide +kernel
theorem dX11_put_11 : decode cX11_put 11 = .ok (.iload 5, 2) := by decide +kernel
theorem dX11_put_13 : decode cX11_put 13 = .ok (.ifCond .ne 15, 3) := by decide +kernel
theorem dX11_put_16 : decode cX11_put 16 = .ok (.aload_n 0, 1) := by decide +kernel
theorem dX11_put_17 : decode cX11_put 17 = .ok (.getfield 83, 3) := by decide +kernel
theorem dX11_put_20 : decode cX11_put 20 = .ok (.iload_n 1, 1) := by decide +kernel
theorem dX11_put_21 : decode cX11_put 21 = .ok (.iload_n 2, 1) := by decide +kernel
theorem dX11_put_22 : decode cX11_put 22 = .ok (.lload_n 3, 1) := by decide +kernel
theorem dX11_put_23 : decode cX11_put 23 = .ok (.invokevirtual 326, 3) := by decide +kernel
theorem dX11_put_26 : decode cX11_put 26 = .ok (.iconst 1, 1) := by decide +kernel
theorem dX11_put_27 : decode cX11_put 27 = .ok (.ireturn, 1) := by decide +kernel
theorem dX11_put_28 : decode cX11_put 28 = .ok (.iload 5, 2) := by decide +kernel
theorem dX11_put_30 : decode cX11_put 30 = .ok (.ireturn, 1) := by decide +kernel
theorem dX11_element_0 : decode cX11_element 0 = .ok (.aload_n 0, 1) := by decide +kernel
theorem dX11_element_1 : decode cX11_element 1 = .ok (.getfield 83, 3) := by decide +kernel
theorem dX11_element_4 : decode cX11_element 4 = .ok (.iload_n 1, 1) := by decide +kernel
theorem dX11_element_5 : decode cX11_element 5 = .ok (.iload_n 2, 1) := by decide +kernel
theorem dX11_element_6 : decode cX11_element 6 = .ok (.invokevirtual 323, 3) := by decide +kernel
theorem dX11_element_9 : decode cX11_element 9 = .ok (.ifCond .ne 15, 3) := by decide +kernel
theorem dX11_element_12 : decode cX11_element 12 = .ok (.aload_n 0, 1) := by decide +kernel
theorem dX11_element_13 : decode cX11_element 13 = .ok (.getfield 83, 3) := by decide +kernel
theorem dX11_element_16 : decode cX11_element 16 = .ok (.iload_n 1, 1) := by decide +kernel
theorem dX11_element_17 : decode cX11_element 17 = .ok (.iload_n 2, 1) := by decide +kernel
theorem dX11_element_18 : decode cX11_element 18 = .ok (.invokevirtual 330, 3) := by decide +kernel
theorem dX11_element_21 : decode cX11_element 21 = .ok (.goto 6, 3) := by decide +kernel
theorem dX11_element_24 : decode cX11_element 24 = .ok (.ldc2_w 336, 3) := by decide +kernel
theorem dX11_element_27 : decode cX11_element 27 = .ok (.lreturn, 1) := by decide +kernel
theorem dX11_shift_0 : decode cX11_shift 0 = .ok (.iload_n 1, 1) := by decide +kernel
theorem dX11_shift_1 : decode cX11_shift 1 = .ok (.invokestatic 269, 3) := by decide +kernel
theorem dX11_shift_4 : decode cX11_shift 4 = .ok (.ifCond .eq 10, 3) := by decide +kernel
theorem dX11_shift_7 : decode cX11_shift 7 = .ok (.iload_n 3, 1) := by decide +kernel
theorem dX11_shift_8 : decode cX11_shift 8 = .ok (.invokestatic 269, 3) := by decide +kernel
theorem dX11_shift_11 : decode cX11_shift 11 = .ok (.ifCond .ne 5, 3) := by decide +kernel
theorem dX11_shift_14 : decode cX11_shift 14 = .ok (.iconst (-1), 1) := by decide +kernel
theorem dX11_shift_15 : decode cX11_shift 15 = .ok (.ireturn, 1) := by decide +kernel
theorem dX11_shift_16 : decode cX11_shift 16 = .ok (.aload_n 0, 1) := by decide +kernel
theorem dX11_shift_17 : decode cX11_shift 17 = .ok (.getfield 83, 3) := by decide +kernel
theorem dX11_shift_20 : decode cX11_shift 20 = .ok (.iload_n 1, 1) := by decide +kernel
theorem dX11_shift_21 : decode cX11_shift 21 = .ok (.invokevirtual 270, 3) := by decide +kernel
theorem dX11_shift_24 : decode cX11_shift 24 = .ok (.istore 6, 2) := by decide +kernel
theorem dX11_shift_26 : decode cX11_shift 26 = .ok (.iload 6, 2) := by decide +kernel
theorem dX11_shift_28 : decode cX11_shift 28 = .ok (.bipush (-2), 2) := by decide +kernel
theorem dX11_shift_30 : decode cX11_shift 30 = .ok (.if_icmp .eq 16, 3) := by decide +kernel
theorem dX11_shift_33 : decode cX11_shift 33 = .ok (.aload_n 0, 1) := by decide +kernel
theorem dX11_shift_34 : decode cX11_shift 34 = .ok (.getfield 83, 3) := by decide +kernel
theorem dX11_shift_37 : decode cX11_shift 37 = .ok (.iload_n 3, 1) := by decide +kernel
theorem dX11_shift_38 : decode cX11_shift 38 = .ok (.invokevirtual 270, 3) := by decide +kernel
theorem dX11_shift_41 : decode cX11_shift 41 = .ok (.bipush (-2), 2) := by decide +kernel
theorem dX11_shift_43 : decode cX11_shift 43 = .ok (.if_icmp .ne 6, 3) := by decide +kernel
theorem dX11_shift_46 : decode cX11_shift 46 = .ok (.bipush (-11), 2) := by decide +kernel
theorem dX11_shift_48 : decode cX11_shift 48 = .ok (.ireturn, 1) := by decide +kernel
theorem dX11_shift_49 : decode cX11_shift 49 = .ok (.iload 6, 2) := by decide +kernel
theorem dX11_shift_51 : decode cX11_shift 51 = .ok (.invokestatic 316, 3) := by decide +kernel
theorem dX11_shift_54 : decode cX11_shift 54 = .ok (.ifCond .eq 16, 3) := by decide +kernel
theorem dX11_shift_57 : decode cX11_shift 57 = .ok (.iload 6, 2) := by decide +kernel
theorem dX11_shift_59 : decode cX11_shift 59 = .ok (.aload_n 0, 1) := by decide +kernel
theorem dX11_shift_60 : decode cX11_shift 60 = .ok (.getfield 83, 3) := by decide +kernel
theorem dX11_shift_63 : decode cX11_shift 63 = .ok (.iload_n 3, 1) := by decide +kernel
theorem dX11_shift_64 : decode cX11_shift 64 = .ok (.invokevirtual 270, 3) := by decide +kernel
theorem dX11_shift_67 : decode cX11_shift 67 = .ok (.if_icmp .eq 6, 3) := by decide +kernel
theorem dX11_shift_70 : decode cX11_shift 70 = .ok (.bipush (-12), 2) := by decide +kernel
theorem dX11_shift_72 : decode cX11_shift 72 = .ok (.ireturn, 1) := by decide +kernel
theorem dX11_shift_73 : decode cX11_shift 73 = .ok (.aload_n 0, 1) := by decide +kernel
theorem dX11_shift_74 : decode cX11_shift 74 = .ok (.getfield 83, 3) := by decide +kernel
theorem dX11_shift_77 : decode cX11_shift 77 = .ok (.iload_n 1, 1) := by decide +kernel
theorem dX11_shift_78 : decode cX11_shift 78 = .ok (.iload_n 2, 1) := by decide +kernel
theorem dX11_shift_79 : decode cX11_shift 79 = .ok (.iload 5, 2) := by decide +kernel
theorem dX11_shift_81 : decode cX11_shift 81 = .ok (.invokevirtual 338, 3) := by decide +kernel
theorem dX11_shift_84 : decode cX11_shift 84 = .ok (.ifCond .eq 18, 3) := by decide +kernel
theorem dX11_shift_87 : decode cX11_shift 87 = .ok (.aload_n 0, 1) := by decide +kernel
theorem dX11_shift_88 : decode cX11_shift 88 = .ok (.getfield 83, 3) := by decide +kernel
theorem dX11_shift_91 : decode cX11_shift 91 = .ok (.iload_n 3, 1) := by decide +kernel
theorem dX11_shift_92 : decode cX11_shift 92 = .ok (.iload 4, 2) := by decide +kernel
theorem dX11_shift_94 : decode cX11_shift 94 = .ok (.iload 5, 2) := by decide +kernel
theorem dX11_shift_96 : decode cX11_shift 96 = .ok (.invokevirtual 338, 3) := by decide +kernel
theorem dX11_shift_99 : decode cX11_shift 99 = .ok (.ifCond .ne 6, 3) := by decide +kernel
theorem dX11_shift_102 : decode cX11_shift 102 = .ok (.bipush (-13), 2) := by decide +kernel
theorem dX11_shift_104 : decode cX11_shift 104 = .ok (.ireturn, 1) := by decide +kernel
theorem dX11_shift_105 : decode cX11_shift 105 = .ok (.aload_n 0, 1) := by decide +kernel
theorem dX11_shift_106 : decode cX11_shift 106 = .ok (.getfield 83, 3) := by decide +kernel
theorem dX11_shift_109 : decode cX11_shift 109 = .ok (.iload_n 1, 1) := by decide +kernel
theorem dX11_shift_110 : decode cX11_shift 110 = .ok (.iload_n 2, 1) := by decide +kernel
theorem dX11_shift_111 : decode cX11_shift 111 = .ok (.iload_n 3, 1) := by decide +kernel
theorem dX11_shift_112 : decode cX11_shift 112 = .ok (.iload 4, 2) := by decide +kernel
theorem dX11_shift_114 : decode cX11_shift 114 = .ok (.iload 5, 2) := by decide +kernel
theorem dX11_shift_116 : decode cX11_shift 116 = .ok (.invokevirtual 341, 3) := by decide +kernel
theorem dX11_shift_119 : decode cX11_shift 119 = .ok (.iload 5, 2) := by decide +kernel
theorem dX11_shift_121 : decode cX11_shift 121 = .ok (.ireturn, 1) := by decide +kernel
theorem dX11_taken_0 : decode cX11_taken 0 = .ok (.iload_n 1, 1) := by decide +kernel
theorem dX11_taken_1 : decode cX11_taken 1 = .ok (.invokestatic 269, 3) := by decide +kernel
theorem dX11_taken_4 : decode cX11_taken 4 = .ok (.ifCond .eq 10, 3) := by decide +kernel
theorem dX11_taken_7 : decode cX11_taken 7 = .ok (.iload_n 2, 1) := by decide +kernel
theorem dX11_taken_8 : decode cX11_taken 8 = .ok (.invokestatic 297, 3) := by decide +kernel
theorem dX11_taken_11 : decode cX11_taken 11 = .ok (.ifCond .ne 5, 3) := by decide +kernel
theorem dX11_taken_14 : decode cX11_taken 14 = .ok (.iconst (-1), 1) := by decide +kernel
theorem dX11_taken_15 : decode cX11_taken 15 = .ok (.ireturn, 1) := by decide +kernel
theorem dX11_taken_16 : decode cX11_taken 16 = .ok (.aload_n 0, 1) := by decide +kernel
theorem dX11_taken_17 : decode cX11_taken 17 = .ok (.getfield 83, 3) := by decide +kernel
theorem dX11_taken_20 : decode cX11_taken 20 = .ok (.iload_n 1, 1) := by decide +kernel
theorem dX11_taken_21 : decode cX11_taken 21 = .ok (.invokevirtual 270, 3) := by decide +kernel
theorem dX11_taken_24 : decode cX11_taken 24 = .ok (.bipush (-2), 2) := by decide +kernel
theorem dX11_taken_26 : decode cX11_taken 26 = .ok (.if_icmp .ne 6, 3) := by decide +kernel
theorem dX11_taken_29 : decode cX11_taken 29 = .ok (.bipush (-11), 2) := by decide +kernel
theorem dX11_taken_31 : decode cX11_taken 31 = .ok (.ireturn, 1) := by decide +kernel
theorem dX11_taken_32 : decode cX11_taken 32 = .ok (.aload_n 0, 1) := by decide +kernel
theorem dX11_taken_33 : decode cX11_taken 33 = .ok (.getfield 83, 3) := by decide +kernel
theorem dX11_taken_36 : decode cX11_taken 36 = .ok (.iload_n 1, 1) := by decide +kernel
theorem dX11_taken_37 : decode cX11_taken 37 = .ok (.invokevirtual 270, 3) := by decide +kernel
theorem dX11_taken_40 : decode cX11_taken 40 = .ok (.iconst (-1), 1) := by decide +kernel
theorem dX11_taken_41 : decode cX11_taken 41 = .ok (.if_icmp .eq 6, 3) := by decide +kernel
theorem dX11_taken_44 : decode cX11_taken 44 = .ok (.bipush (-12), 2) := by decide +kernel
theorem dX11_taken_46 : decode cX11_taken 46 = .ok (.ireturn, 1) := by decide +kernel
theorem dX11_taken_47 : decode cX11_taken 47 = .ok (.aload_n 0, 1) := by decide +kernel
theorem dX11_taken_48 : decode cX11_taken 48 = .ok (.getfield 76, 3) := by decide +kernel
theorem dX11_taken_51 : decode cX11_taken 51 = .ok (.aload_n 0, 1) := by decide +kernel
theorem dX11_taken_52 : decode cX11_taken 52 = .ok (.getfield 83, 3) := by decide +kernel
theorem dX11_taken_55 : decode cX11_taken 55 = .ok (.iload_n 1, 1) := by decide +kernel
theorem dX11_taken_56 : decode cX11_taken 56 = .ok (.invokevirtual 345, 3) := by decide +kernel
theorem dX11_taken_59 : decode cX11_taken 59 = .ok (.invokevirtual 348, 3) := by decide +kernel
theorem dX11_taken_62 : decode cX11_taken 62 = .ok (.istore_n 3, 1) := by decide +kernel
theorem dX11_taken_63 : decode cX11_taken 63 = .ok (.iload_n 3, 1) := by decide +kernel
theorem dX11_taken_64 : decode cX11_taken 64 = .ok (.iload_n 2, 1) := by decide +kernel
theorem dX11_taken_65 : decode cX11_taken 65 = .ok (.invokestatic 351, 3) := by decide +kernel
theorem dX11_taken_68 : decode cX11_taken 68 = .ok (.ifCond .eq 7, 3) := by decide +kernel
theorem dX11_taken_71 : decode cX11_taken 71 = .ok (.iload_n 3, 1) := by decide +kernel
theorem dX11_taken_72 : decode cX11_taken 72 = .ok (.goto 5, 3) := by decide +kernel
theorem dX11_taken_75 : decode cX11_taken 75 = .ok (.bipush (-12), 2) := by decide +kernel
theorem dX11_taken_77 : decode cX11_taken 77 = .ok (.ireturn, 1) := by decide +kernel
theorem dX11_count_0 : decode cX11_count 0 = .ok (.iload_n 1, 1) := by decide +kernel
theorem dX11_count_1 : decode cX11_count 1 = .ok (.tableswitch 111 0 7 #[47, 55, 63, 71, 79, 87, 95, 103], 47) := by decide +kernel
theorem dX11_count_48 : decode cX11_count 48 = .ok (.aload_n 0, 1) := by decide +kernel
theorem dX11_count_49 : decode cX11_count 49 = .ok (.getfield 21, 3) := by decide +kernel
theorem dX11_count_52 : decode cX11_count 52 = .ok (.getfield 106, 3) := by decide +kernel
theorem dX11_count_55 : decode cX11_count 55 = .ok (.ireturn, 1) := by decide +kernel
theorem dX11_count_56 : decode cX11_count 56 = .ok (.aload_n 0, 1) := by decide +kernel
theorem dX11_count_57 : decode cX11_count 57 = .ok (.getfield 28, 3) := by decide +kernel
theorem dX11_count_60 : decode cX11_count 60 = .ok (.getfield 157, 3) := by decide +kernel
theorem dX11_count_63 : decode cX11_count 63 = .ok (.ireturn, 1) := by decide +kernel
theorem dX11_count_64 : decode cX11_count 64 = .ok (.aload_n 0, 1) := by decide +kernel
theorem dX11_count_65 : decode cX11_count 65 = .ok (.getfield 35, 3) := by decide +kernel
theorem dX11_count_68 : decode cX11_count 68 = .ok (.getfield 354, 3) := by decide +kernel
theorem dX11_count_71 : decode cX11_count 71 = .ok (.ireturn, 1) := by decide +kernel
theorem dX11_count_72 : decode cX11_count 72 = .ok (.aload_n 0, 1) := by decide +kernel
theorem dX11_count_73 : decode cX11_count 73 = .ok (.getfield 69, 3) := by decide +kernel
theorem dX11_count_76 : decode cX11_count 76 = .ok (.getfield 276, 3) := by decide +kernel
theorem dX11_count_79 : decode cX11_count 79 = .ok (.ireturn, 1) := by decide +kernel
theorem dX11_count_80 : decode cX11_count 80 = .ok (.aload_n 0, 1) := by decide +kernel
theorem dX11_count_81 : decode cX11_count 81 = .ok (.getfield 10, 3) := by decide +kernel
theorem dX11_count_84 : decode cX11_count 84 = .ok (.getfield 95, 3) := by decide +kernel
theorem dX11_count_87 : decode cX11_count 87 = .ok (.ireturn, 1) := by decide +kernel
theorem dX11_count_88 : decode cX11_count 88 = .ok (.aload_n 0, 1) := by decide +kernel
theorem dX11_count_89 : decode cX11_count 89 = .ok (.getfield 62, 3) := by decide +kernel
theorem dX11_count_92 : decode cX11_count 92 = .ok (.getfield 288, 3) := by decide +kernel
theorem dX11_count_95 : decode cX11_count 95 = .ok (.ireturn, 1) := by decide +kernel
theorem dX11_count_96 : decode cX11_count 96 = .ok (.aload_n 0, 1) := by decide +kernel
theorem dX11_count_97 : decode cX11_count 97 = .ok (.getfield 76, 3) := by decide +kernel
theorem dX11_count_100 : decode cX11_count 100 = .ok (.getfield 355, 3) := by decide +kernel
theorem dX11_count_103 : decode cX11_count 103 = .ok (.ireturn, 1) := by decide +kernel
theorem dX11_count_104 : decode cX11_count 104 = .ok (.aload_n 0, 1) := by decide +kernel
theorem dX11_count_105 : decode cX11_count 105 = .ok (.getfield 76, 3) := by decide +kernel
theorem dX11_count_108 : decode cX11_count 108 = .ok (.getfield 356, 3) := by decide +kernel
theorem dX11_count_111 : decode cX11_count 111 = .ok (.ireturn, 1) := by decide +kernel
theorem dX11_count_112 : decode cX11_count 112 = .ok (.iconst (-1), 1) := by decide +kernel
theorem dX11_count_113 : decode cX11_count 113 = .ok (.ireturn, 1) := by decide +kernel
theorem dX11_addNotches_0 : decode cX11_addNotches 0 = .ok (.iconst 0, 1) := by decide +kernel
theorem dX11_addNotches_1 : decode cX11_addNotches 1 = .ok (.istore 4, 2) := by decide +kernel
theorem dX11_addNotches_3 : decode cX11_addNotches 3 = .ok (.iload_n 2, 1) := by decide +kernel
theorem dX11_addNotches_4 : decode cX11_addNotches 4 = .ok (.istore 5, 2) := by decide +kernel
theorem dX11_addNotches_6 : decode cX11_addNotches 6 = .ok (.iload 4, 2) := by decide +kernel
theorem dX11_addNotches_8 : decode cX11_addNotches 8 = .ok (.iload_n 3, 1) := by decide +kernel
theorem dX11_addNotches_9 : decode cX11_addNotches 9 = .ok (.if_icmp .ge 93, 3) := by decide +kernel
theorem dX11_addNotches_12 : decode cX11_addNotches 12 = .ok (.aload_n 0, 1) := by decide +kernel
theorem dX11_addNotches_13 : decode cX11_addNotches 13 = .ok (.getfield 69, 3) := by decide +kernel
theorem dX11_addNotches_16 : decode cX11_addNotches 16 = .ok (.invokevirtual 267, 3) := by decide +kernel
theorem dX11_addNotches_19 : decode cX11_addNotches 19 = .ok (.ifCond .ne 83, 3) := by decide +kernel
theorem dX11_addNotches_22 : decode cX11_addNotches 22 = .ok (.aload_n 0, 1) := by decide +kernel
theorem dX11_addNotches_23 : decode cX11_addNotches 23 = .ok (.getfield 83, 3) := by decide +kernel
theorem dX11_addNotches_26 : decode cX11_addNotches 26 = .ok (.iload_n 1, 1) := by decide +kernel
theorem dX11_addNotches_27 : decode cX11_addNotches 27 = .ok (.iload 5, 2) := by decide +kernel
theorem dX11_addNotches_29 : decode cX11_addNotches 29 = .ok (.iconst 2, 1) := by decide +kernel
theorem dX11_addNotches_30 : decode cX11_addNotches 30 = .ok (.invokevirtual 338, 3) := by decide +kernel
theorem dX11_addNotches_33 : decode cX11_addNotches 33 = .ok (.ifCond .eq 69, 3) := by decide +kernel
theorem dX11_addNotches_36 : decode cX11_addNotches 36 = .ok (.aload_n 0, 1) := by decide +kernel
theorem dX11_addNotches_37 : decode cX11_addNotches 37 = .ok (.getfield 83, 3) := by decide +kernel
theorem dX11_addNotches_40 : decode cX11_addNotches 40 = .ok (.iload_n 1, 1) := by decide +kernel
theorem dX11_addNotches_41 : decode cX11_addNotches 41 = .ok (.iload 5, 2) := by decide +kernel
theorem dX11_addNotches_43 : decode cX11_addNotches 43 = .ok (.invokevirtual 330, 3) := by decide +kernel
theorem dX11_addNotches_46 : decode cX11_addNotches 46 = .ok (.l2i, 1) := by decide +kernel
theorem dX11_addNotches_47 : decode cX11_addNotches 47 = .ok (.istore 6, 2) := by decide +kernel
theorem dX11_addNotches_49 : decode cX11_addNotches 49 = .ok (.aload_n 0, 1) := by decide +kernel
theorem dX11_addNotches_50 : decode cX11_addNotches 50 = .ok (.getfield 83, 3) := by decide +kernel
theorem dX11_addNotches_53 : decode cX11_addNotches 53 = .ok (.iload_n 1, 1) := by decide +kernel
theorem dX11_addNotches_54 : decode cX11_addNotches 54 = .ok (.iload 5, 2) := by decide +kernel
theorem dX11_addNotches_56 : decode cX11_addNotches 56 = .ok (.iconst 1, 1) := by decide +kernel
theorem dX11_addNotches_57 : decode cX11_addNotches 57 = .ok (.iadd, 1) := by decide +kernel
theorem dX11_addNotches_58 : decode cX11_addNotches 58 = .ok (.invokevirtual 330, 3) := by decide +kernel
theorem dX11_addNotches_61 : decode cX11_addNotches 61 = .ok (.l2i, 1) := by decide +kernel
theorem dX11_addNotches_62 : decode cX11_addNotches 62 = .ok (.istore 7, 2) := by decide +kernel
theorem dX11_addNotches_64 : decode cX11_addNotches 64 = .ok (.aload_n 0, 1) := by decide +kernel
theorem dX11_addNotches_65 : decode cX11_addNotches 65 = .ok (.getfield 69, 3) := by decide +kernel
theorem dX11_addNotches_68 : decode cX11_addNotches 68 = .ok (.iload 6, 2) := by decide +kernel
theorem dX11_addNotches_70 : decode cX11_addNotches 70 = .ok (.iload 7, 2) := by decide +kernel
theorem dX11_addNotches_72 : decode cX11_addNotches 72 = .ok (.invokevirtual 264, 3) := by decide +kernel
theorem dX11_addNotches_75 : decode cX11_addNotches 75 = .ok (.ifCond .ne 6, 3) := by decide +kernel
theorem dX11_addNotches_78 : decode cX11_addNotches 78 = .ok (.iload 4, 2) := by decide +kernel
theorem dX11_addNotches_80 : decode cX11_addNotches 80 = .ok (.ireturn, 1) := by decide +kernel
theorem dX11_addNotches_81 : decode cX11_addNotches 81 = .ok (.aload_n 0, 1) := by decide +kernel
theorem dX11_addNotches_82 : decode cX11_addNotches 82 = .ok (.getfield 69, 3) := by decide +kernel
theorem dX11_addNotches_85 : decode cX11_addNotches 85 = .ok (.iload 6, 2) := by decide +kernel
theorem dX11_addNotches_87 : decode cX11_addNotches 87 = .ok (.iload 7, 2) := by decide +kernel
theorem dX11_addNotches_89 : decode cX11_addNotches 89 = .ok (.invokevirtual 268, 3) := by decide +kernel
theorem dX11_addNotches_92 : decode cX11_addNotches 92 = .ok (.pop, 1) := by decide +kernel
theorem dX11_addNotches_93 : decode cX11_addNotches 93 = .ok (.iinc 4 1, 3) := by decide +kernel
theorem dX11_addNotches_96 : decode cX11_addNotches 96 = .ok (.iinc 5 2, 3) := by decide +kernel
theorem dX11_addNotches_99 : decode cX11_addNotches 99 = .ok (.goto (-93), 3) := by decide +kernel
theorem dX11_addNotches_102 : decode cX11_addNotches 102 = .ok (.iload 4, 2) := by decide +kernel
theorem dX11_addNotches_104 : decode cX11_addNotches 104 = .ok (.ireturn, 1) := by decide +kernel
theorem dX11_isPlaceAndHour_0 : decode cX11_isPlaceAndHour 0 = .ok (.iload_n 1, 1) := by decide +kernel
theorem dX11_isPlaceAndHour_1 : decode cX11_isPlaceAndHour 1 = .ok (.ifCond .lt 31, 3) := by decide +kernel
theorem dX11_isPlaceAndHour_4 : decode cX11_isPlaceAndHour 4 = .ok (.aload_n 0, 1) := by decide +kernel
theorem dX11_isPlaceAndHour_5 : decode cX11_isPlaceAndHour 5 = .ok (.getfield 21, 3) := by decide +kernel
theorem dX11_isPlaceAndHour_8 : decode cX11_isPlaceAndHour 8 = .ok (.iload_n 1, 1) := by decide +kernel
theorem dX11_isPlaceAndHour_9 : decode cX11_isPlaceAndHour 9 = .ok (.bipush 100, 2) := by decide +kernel
theorem dX11_isPlaceAndHour_11 : decode cX11_isPlaceAndHour 11 = .ok (.idiv, 1) := by decide +kernel
theorem dX11_isPlaceAndHour_12 : decode cX11_isPlaceAndHour 12 = .ok (.invokevirtual 115, 3) := by decide +kernel
theorem dX11_isPlaceAndHour_15 : decode cX11_isPlaceAndHour 15 = .ok (.ifCond .eq 17, 3) := by decide +kernel
theorem dX11_isPlaceAndHour_18 : decode cX11_isPlaceAndHour 18 = .ok (.iload_n 1, 1) := by decide +kernel
theorem dX11_isPlaceAndHour_19 : decode cX11_isPlaceAndHour 19 = .ok (.bipush 100, 2) := by decide +kernel
theorem dX11_isPlaceAndHour_21 : decode cX11_isPlaceAndHour 21 = .ok (.irem, 1) := by decide +kernel
theorem dX11_isPlaceAndHour_22 : decode cX11_isPlaceAndHour 22 = .ok (.invokestatic 133, 3) := by decide +kernel
theorem dX11_isPlaceAndHour_25 : decode cX11_isPlaceAndHour 25 = .ok (.ifCond .eq 7, 3) := by decide +kernel
theorem dX11_isPlaceAndHour_28 : decode cX11_isPlaceAndHour 28 = .ok (.iconst 1, 1) := by decide +kernel
theorem dX11_isPlaceAndHour_29 : decode cX11_isPlaceAndHour 29 = .ok (.goto 4, 3) := by decide +kernel
theorem dX11_isPlaceAndHour_32 : decode cX11_isPlaceAndHour 32 = .ok (.iconst 0, 1) := by decide +kernel
theorem dX11_isPlaceAndHour_33 : decode cX11_isPlaceAndHour 33 = .ok (.ireturn, 1) := by decide +kernel
theorem dX11_takesGroup_0 : decode cX11_takesGroup 0 = .ok (.iload_n 1, 1) := by decide +kernel
theorem dX11_takesGroup_1 : decode cX11_takesGroup 1 = .ok (.ifCond .lt 33, 3) := by decide +kernel
theorem dX11_takesGroup_4 : decode cX11_takesGroup 4 = .ok (.iload_n 1, 1) := by decide +kernel
theorem dX11_takesGroup_5 : decode cX11_takesGroup 5 = .ok (.bipush 10, 2) := by decide +kernel
theorem dX11_takesGroup_7 : decode cX11_takesGroup 7 = .ok (.irem, 1) := by decide +kernel
theorem dX11_takesGroup_8 : decode cX11_takesGroup 8 = .ok (.iconst 4, 1) := by decide +kernel
theorem dX11_takesGroup_9 : decode cX11_takesGroup 9 = .ok (.if_icmp .ge 25, 3) := by decide +kernel
theorem dX11_takesGroup_12 : decode cX11_takesGroup 12 = .ok (.aload_n 0, 1) := by decide +kernel
theorem dX11_takesGroup_13 : decode cX11_takesGroup 13 = .ok (.getfield 44, 3) := by decide +kernel
theorem dX11_takesGroup_16 : decode cX11_takesGroup 16 = .ok (.iload_n 1, 1) := by decide +kernel
theorem dX11_takesGroup_17 : decode cX11_takesGroup 17 = .ok (.bipush 10, 2) := by decide +kernel
theorem dX11_takesGroup_19 : decode cX11_takesGroup 19 = .ok (.idiv, 1) := by decide +kernel
theorem dX11_takesGroup_20 : decode cX11_takesGroup 20 = .ok (.iload_n 1, 1) := by decide +kernel
theorem dX11_takesGroup_21 : decode cX11_takesGroup 21 = .ok (.bipush 10, 2) := by decide +kernel
theorem dX11_takesGroup_23 : decode cX11_takesGroup 23 = .ok (.irem, 1) := by decide +kernel
theorem dX11_takesGroup_24 : decode cX11_takesGroup 24 = .ok (.invokevirtual 226, 3) := by decide +kernel
theorem dX11_takesGroup_27 : decode cX11_takesGroup 27 = .ok (.ifCond .eq 7, 3) := by decide +kernel
theorem dX11_takesGroup_30 : decode cX11_takesGroup 30 = .ok (.iconst 1, 1) := by decide +kernel
theorem dX11_takesGroup_31 : decode cX11_takesGroup 31 = .ok (.goto 4, 3) := by decide +kernel
theorem dX11_takesGroup_34 : decode cX11_takesGroup 34 = .ok (.iconst 0, 1) := by decide +kernel
theorem dX11_takesGroup_35 : decode cX11_takesGroup 35 = .ok (.ireturn, 1) := by decide +kernel
theorem dX11_isRankAndCell_0 : decode cX11_isRankAndCell 0 = .ok (.iload_n 1, 1) := by decide +kernel
theorem dX11_isRankAndCell_1 : decode cX11_isRankAndCell 1 = .ok (.ifCond .lt 36, 3) := by decide +kernel
theorem dX11_isRankAndCell_4 : decode cX11_isRankAndCell 4 = .ok (.iload_n 1, 1) := by decide +kernel
theorem dX11_isRankAndCell_5 : decode cX11_isRankAndCell 5 = .ok (.bipush 100, 2) := by decide +kernel
theorem dX11_isRankAndCell_7 : decode cX11_isRankAndCell 7 = .ok (.idiv, 1) := by decide +kernel
theorem dX11_isRankAndCell_8 : decode cX11_isRankAndCell 8 = .ok (.aload_n 0, 1) := by decide +kernel
theorem dX11_isRankAndCell_9 : decode cX11_isRankAndCell 9 = .ok (.getfield 44, 3) := by decide +kernel
theorem dX11_isRankAndCell_12 : decode cX11_isRankAndCell 12 = .ok (.getfield 359, 3) := by decide +kernel
theorem dX11_isRankAndCell_15 : decode cX11_isRankAndCell 15 = .ok (.if_icmp .ge 22, 3) := by decide +kernel
theorem dX11_isRankAndCell_18 : decode cX11_isRankAndCell 18 = .ok (.aload_n 0, 1) := by decide +kernel
theorem dX11_isRankAndCell_19 : decode cX11_isRankAndCell 19 = .ok (.getfield 21, 3) := by decide +kernel
theorem dX11_isRankAndCell_22 : decode cX11_isRankAndCell 22 = .ok (.iload_n 2, 1) := by decide +kernel
theorem dX11_isRankAndCell_23 : decode cX11_isRankAndCell 23 = .ok (.iload_n 1, 1) := by decide +kernel
theorem dX11_isRankAndCell_24 : decode cX11_isRankAndCell 24 = .ok (.bipush 100, 2) := by decide +kernel
theorem dX11_isRankAndCell_26 : decode cX11_isRankAndCell 26 = .ok (.irem, 1) := by decide +kernel
theorem dX11_isRankAndCell_27 : decode cX11_isRankAndCell 27 = .ok (.invokevirtual 126, 3) := by decide +kernel
theorem dX11_isRankAndCell_30 : decode cX11_isRankAndCell 30 = .ok (.ifCond .eq 7, 3) := by decide +kernel
theorem dX11_isRankAndCell_33 : decode cX11_isRankAndCell 33 = .ok (.iconst 1, 1) := by decide +kernel
theorem dX11_isRankAndCell_34 : decode cX11_isRankAndCell 34 = .ok (.goto 4, 3) := by decide +kernel
theorem dX11_isRankAndCell_37 : decode cX11_isRankAndCell 37 = .ok (.iconst 0, 1) := by decide +kernel
theorem dX11_isRankAndCell_38 : decode cX11_isRankAndCell 38 = .ok (.ireturn, 1) := by decide +kernel
theorem dX11_isWithin_0 : decode cX11_isWithin 0 = .ok (.iload_n 1, 1) := by decide +kernel
theorem dX11_isWithin_1 : decode cX11_isWithin 1 = .ok (.iload_n 0, 1) := by decide +kernel
theorem dX11_isWithin_2 : decode cX11_isWithin 2 = .ok (.if_icmp .gt 12, 3) := by decide +kernel
theorem dX11_isWithin_5 : decode cX11_isWithin 5 = .ok (.iload_n 0, 1) := by decide +kernel
theorem dX11_isWithin_6 : decode cX11_isWithin 6 = .ok (.iload_n 2, 1) := by decide +kernel
theorem dX11_isWithin_7 : decode cX11_isWithin 7 = .ok (.if_icmp .gt 7, 3) := by decide +kernel
theorem dX11_isWithin_10 : decode cX11_isWithin 10 = .ok (.iconst 1, 1) := by decide +kernel
theorem dX11_isWithin_11 : decode cX11_isWithin 11 = .ok (.goto 4, 3) := by decide +kernel
theorem dX11_isWithin_14 : decode cX11_isWithin 14 = .ok (.iconst 0, 1) := by decide +kernel
theorem dX11_isWithin_15 : decode cX11_isWithin 15 = .ok (.ireturn, 1) := by decide +kernel
theorem dX11_isHour_0 : decode cX11_isHour 0 = .ok (.iload_n 0, 1) := by decide +kernel
theorem dX11_isHour_1 : decode cX11_isHour 1 = .ok (.iconst 0, 1) := by decide +kernel
theorem dX11_isHour_2 : decode cX11_isHour 2 = .ok (.bipush 47, 2) := by decide +kernel
theorem dX11_isHour_4 : decode cX11_isHour 4 = .ok (.invokestatic 87, 3) := by decide +kernel
theorem dX11_isHour_7 : decode cX11_isHour 7 = .ok (.ireturn, 1) := by decide +kernel
theorem dX11_isDark_0 : decode cX11_isDark 0 = .ok (.iload_n 0, 1) := by decide +kernel
theorem dX11_isDark_1 : decode cX11_isDark 1 = .ok (.bipush 24, 2) := by decide +kernel
theorem dX11_isDark_3 : decode cX11_isDark 3 = .ok (.irem, 1) := by decide +kernel
theorem dX11_isDark_4 : decode cX11_isDark 4 = .ok (.iconst 5, 1) := by decide +kernel
theorem dX11_isDark_5 : decode cX11_isDark 5 = .ok (.bipush 19, 2) := by decide +kernel
theorem dX11_isDark_7 : decode cX11_isDark 7 = .ok (.invokestatic 87, 3) := by decide +kernel
theorem dX11_isDark_10 : decode cX11_isDark 10 = .ok (.ifCond .ne 7, 3) := by decide +kernel
theorem dX11_isDark_13 : decode cX11_isDark 13 = .ok (.iconst 1, 1) := by decide +kernel
theorem dX11_isDark_14 : decode cX11_isDark 14 = .ok (.goto 4, 3) := by decide +kernel
theorem dX11_isDark_17 : decode cX11_isDark 17 = .ok (.iconst 0, 1) := by decide +kernel
theorem dX11_isDark_18 : decode cX11_isDark 18 = .ok (.ireturn, 1) := by decide +kernel
theorem dX11_hasBit_0 : decode cX11_hasBit 0 = .ok (.iload_n 0, 1) := by decide +kernel
theorem dX11_hasBit_1 : decode cX11_hasBit 1 = .ok (.iload_n 1, 1) := by decide +kernel
theorem dX11_hasBit_2 : decode cX11_hasBit 2 = .ok (.ishr, 1) := by decide +kernel
theorem dX11_hasBit_3 : decode cX11_hasBit 3 = .ok (.iconst 1, 1) := by decide +kernel
theorem dX11_hasBit_4 : decode cX11_hasBit 4 = .ok (.iand, 1) := by decide +kernel
theorem dX11_hasBit_5 : decode cX11_hasBit 5 = .ok (.iconst 1, 1) := by decide +kernel
theorem dX11_hasBit_6 : decode cX11_hasBit 6 = .ok (.if_icmp .ne 7, 3) := by decide +kernel
theorem dX11_hasBit_9 : decode cX11_hasBit 9 = .ok (.iconst 1, 1) := by decide +kernel
theorem dX11_hasBit_10 : decode cX11_hasBit 10 = .ok (.goto 4, 3) := by decide +kernel
theorem dX11_hasBit_13 : decode cX11_hasBit 13 = .ok (.iconst 0, 1) := by decide +kernel
theorem dX11_hasBit_14 : decode cX11_hasBit 14 = .ok (.ireturn, 1) := by decide +kernel
theorem dX11_asNumber_0 : decode cX11_asNumber 0 = .ok (.iload_n 0, 1) := by decide +kernel
theorem dX11_asNumber_1 : decode cX11_asNumber 1 = .ok (.ifCond .eq 7, 3) := by decide +kernel
theorem dX11_asNumber_4 : decode cX11_asNumber 4 = .ok (.iconst 1, 1) := by decide +kernel
theorem dX11_asNumber_5 : decode cX11_asNumber 5 = .ok (.goto 4, 3) := by decide +kernel
theorem dX11_asNumber_8 : decode cX11_asNumber 8 = .ok (.iconst 0, 1) := by decide +kernel
theorem dX11_asNumber_9 : decode cX11_asNumber 9 = .ok (.ireturn, 1) := by decide +kernel
theorem dX11_quotient_0 : decode cX11_quotient 0 = .ok (.iload_n 1, 1) := by decide +kernel
theorem dX11_quotient_1 : decode cX11_quotient 1 = .ok (.ifCond .ne 7, 3) := by decide +kernel
theorem dX11_quotient_4 : decode cX11_quotient 4 = .ok (.iconst 0, 1) := by decide +kernel
theorem dX11_quotient_5 : decode cX11_quotient 5 = .ok (.goto 6, 3) := by decide +kernel
theorem dX11_quotient_8 : decode cX11_quotient 8 = .ok (.iload_n 0, 1) := by decide +kernel
theorem dX11_quotient_9 : decode cX11_quotient 9 = .ok (.iload_n 1, 1) := by decide +kernel
theorem dX11_quotient_10 : decode cX11_quotient 10 = .ok (.idiv, 1) := by decide +kernel
theorem dX11_quotient_11 : decode cX11_quotient 11 = .ok (.ireturn, 1) := by decide +kernel
theorem dX11_remainder_0 : decode cX11_remainder 0 = .ok (.iload_n 1, 1) := by decide +kernel
theorem dX11_remainder_1 : decode cX11_remainder 1 = .ok (.ifCond .ne 7, 3) := by decide +kernel
theorem dX11_remainder_4 : decode cX11_remainder 4 = .ok (.iconst 0, 1) := by decide +kernel
theorem dX11_remainder_5 : decode cX11_remainder 5 = .ok (.goto 6, 3) := by decide +kernel
theorem dX11_remainder_8 : decode cX11_remainder 8 = .ok (.iload_n 0, 1) := by decide +kernel
theorem dX11_remainder_9 : decode cX11_remainder 9 = .ok (.iload_n 1, 1) := by decide +kernel
theorem dX11_remainder_10 : decode cX11_remainder 10 = .ok (.irem, 1) := by decide +kernel
theorem dX11_remainder_11 : decode cX11_remainder 11 = .ok (.ireturn, 1) := by decide +kernel
