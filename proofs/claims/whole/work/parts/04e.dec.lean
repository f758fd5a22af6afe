theorem dL_town_0 : decode cL_town 0 = .ok (.aload_n 1, 1) := by decide +kernel
theorem dL_town_1 : decode cL_town 1 = .ok (.iconst 0, 1) := by decide +kernel
theorem dL_town_2 : decode cL_town 2 = .ok (.aload_n 0, 1) := by decide +kernel
theorem dL_town_3 : decode cL_town 3 = .ok (.invokevirtual 7, 3) := by decide +kernel
theorem dL_town_6 : decode cL_town 6 = .ok (.i2l, 1) := by decide +kernel
theorem dL_town_7 : decode cL_town 7 = .ok (.lastore, 1) := by decide +kernel
theorem dL_town_8 : decode cL_town 8 = .ok (.goto 9, 3) := by decide +kernel
theorem dL_town_11 : decode cL_town 11 = .ok (.astore_n 2, 1) := by decide +kernel
theorem dL_town_12 : decode cL_town 12 = .ok (.iconst 1, 1) := by decide +kernel
theorem dL_town_13 : decode cL_town 13 = .ok (.ireturn, 1) := by decide +kernel
theorem dL_town_14 : decode cL_town 14 = .ok (.astore_n 2, 1) := by decide +kernel
theorem dL_town_15 : decode cL_town 15 = .ok (.iconst 2, 1) := by decide +kernel
theorem dL_town_16 : decode cL_town 16 = .ok (.ireturn, 1) := by decide +kernel
theorem dL_town_17 : decode cL_town 17 = .ok (.iconst 0, 1) := by decide +kernel
theorem dL_town_18 : decode cL_town 18 = .ok (.ireturn, 1) := by decide +kernel
theorem dL_law_0 : decode cL_law 0 = .ok (.aload_n 1, 1) := by decide +kernel
theorem dL_law_1 : decode cL_law 1 = .ok (.iconst 0, 1) := by decide +kernel
theorem dL_law_2 : decode cL_law 2 = .ok (.aload_n 0, 1) := by decide +kernel
theorem dL_law_3 : decode cL_law 3 = .ok (.invokevirtual 17, 3) := by decide +kernel
theorem dL_law_6 : decode cL_law 6 = .ok (.i2l, 1) := by decide +kernel
theorem dL_law_7 : decode cL_law 7 = .ok (.lastore, 1) := by decide +kernel
theorem dL_law_8 : decode cL_law 8 = .ok (.goto 6, 3) := by decide +kernel
theorem dL_law_11 : decode cL_law 11 = .ok (.astore_n 2, 1) := by decide +kernel
theorem dL_law_12 : decode cL_law 12 = .ok (.iconst 1, 1) := by decide +kernel
theorem dL_law_13 : decode cL_law 13 = .ok (.ireturn, 1) := by decide +kernel
theorem dL_law_14 : decode cL_law 14 = .ok (.iconst 0, 1) := by decide +kernel
theorem dL_law_15 : decode cL_law 15 = .ok (.ireturn, 1) := by decide +kernel
theorem dL_house_0 : decode cL_house 0 = .ok (.aload_n 3, 1) := by decide +kernel
theorem dL_house_1 : decode cL_house 1 = .ok (.iconst 0, 1) := by decide +kernel
theorem dL_house_2 : decode cL_house 2 = .ok (.aload_n 0, 1) := by decide +kernel
theorem dL_house_3 : decode cL_house 3 = .ok (.iload_n 1, 1) := by decide +kernel
theorem dL_house_4 : decode cL_house 4 = .ok (.iload_n 2, 1) := by decide +kernel
theorem dL_house_5 : decode cL_house 5 = .ok (.invokevirtual 20, 3) := by decide +kernel
theorem dL_house_8 : decode cL_house 8 = .ok (.i2l, 1) := by decide +kernel
theorem dL_house_9 : decode cL_house 9 = .ok (.lastore, 1) := by decide +kernel
theorem dL_house_10 : decode cL_house 10 = .ok (.goto 11, 3) := by decide +kernel
theorem dL_house_13 : decode cL_house 13 = .ok (.astore 4, 2) := by decide +kernel
theorem dL_house_15 : decode cL_house 15 = .ok (.iconst 1, 1) := by decide +kernel
theorem dL_house_16 : decode cL_house 16 = .ok (.ireturn, 1) := by decide +kernel
theorem dL_house_17 : decode cL_house 17 = .ok (.astore 4, 2) := by decide +kernel
theorem dL_house_19 : decode cL_house 19 = .ok (.iconst 2, 1) := by decide +kernel
theorem dL_house_20 : decode cL_house 20 = .ok (.ireturn, 1) := by decide +kernel
theorem dL_house_21 : decode cL_house 21 = .ok (.iconst 0, 1) := by decide +kernel
theorem dL_house_22 : decode cL_house 22 = .ok (.ireturn, 1) := by decide +kernel
theorem dL_want_0 : decode cL_want 0 = .ok (.aload_n 2, 1) := by decide +kernel
theorem dL_want_1 : decode cL_want 1 = .ok (.iconst 0, 1) := by decide +kernel
theorem dL_want_2 : decode cL_want 2 = .ok (.aload_n 0, 1) := by decide +kernel
theorem dL_want_3 : decode cL_want 3 = .ok (.iload_n 1, 1) := by decide +kernel
theorem dL_want_4 : decode cL_want 4 = .ok (.invokevirtual 28, 3) := by decide +kernel
theorem dL_want_7 : decode cL_want 7 = .ok (.i2l, 1) := by decide +kernel
theorem dL_want_8 : decode cL_want 8 = .ok (.lastore, 1) := by decide +kernel
theorem dL_want_9 : decode cL_want 9 = .ok (.goto 6, 3) := by decide +kernel
theorem dL_want_12 : decode cL_want 12 = .ok (.astore_n 3, 1) := by decide +kernel
theorem dL_want_13 : decode cL_want 13 = .ok (.iconst 1, 1) := by decide +kernel
theorem dL_want_14 : decode cL_want 14 = .ok (.ireturn, 1) := by decide +kernel
theorem dL_want_15 : decode cL_want 15 = .ok (.iconst 0, 1) := by decide +kernel
theorem dL_want_16 : decode cL_want 16 = .ok (.ireturn, 1) := by decide +kernel
theorem dL_code_0 : decode cL_code 0 = .ok (.aload_n 3, 1) := by decide +kernel
theorem dL_code_1 : decode cL_code 1 = .ok (.iconst 0, 1) := by decide +kernel
theorem dL_code_2 : decode cL_code 2 = .ok (.aload_n 0, 1) := by decide +kernel
theorem dL_code_3 : decode cL_code 3 = .ok (.iload_n 1, 1) := by decide +kernel
theorem dL_code_4 : decode cL_code 4 = .ok (.iload_n 2, 1) := by decide +kernel
theorem dL_code_5 : decode cL_code 5 = .ok (.invokevirtual 32, 3) := by decide +kernel
theorem dL_code_8 : decode cL_code 8 = .ok (.i2l, 1) := by decide +kernel
theorem dL_code_9 : decode cL_code 9 = .ok (.lastore, 1) := by decide +kernel
theorem dL_code_10 : decode cL_code 10 = .ok (.goto 7, 3) := by decide +kernel
theorem dL_code_13 : decode cL_code 13 = .ok (.astore 4, 2) := by decide +kernel
theorem dL_code_15 : decode cL_code 15 = .ok (.iconst 1, 1) := by decide +kernel
theorem dL_code_16 : decode cL_code 16 = .ok (.ireturn, 1) := by decide +kernel
theorem dL_code_17 : decode cL_code 17 = .ok (.iconst 0, 1) := by decide +kernel
theorem dL_code_18 : decode cL_code 18 = .ok (.ireturn, 1) := by decide +kernel
theorem dL_cost_0 : decode cL_cost 0 = .ok (.aload_n 2, 1) := by decide +kernel
theorem dL_cost_1 : decode cL_cost 1 = .ok (.iconst 0, 1) := by decide +kernel
theorem dL_cost_2 : decode cL_cost 2 = .ok (.aload_n 0, 1) := by decide +kernel
theorem dL_cost_3 : decode cL_cost 3 = .ok (.iload_n 1, 1) := by decide +kernel
theorem dL_cost_4 : decode cL_cost 4 = .ok (.invokevirtual 35, 3) := by decide +kernel
theorem dL_cost_7 : decode cL_cost 7 = .ok (.i2l, 1) := by decide +kernel
theorem dL_cost_8 : decode cL_cost 8 = .ok (.lastore, 1) := by decide +kernel
theorem dL_cost_9 : decode cL_cost 9 = .ok (.goto 6, 3) := by decide +kernel
theorem dL_cost_12 : decode cL_cost 12 = .ok (.astore_n 3, 1) := by decide +kernel
theorem dL_cost_13 : decode cL_cost 13 = .ok (.iconst 1, 1) := by decide +kernel
theorem dL_cost_14 : decode cL_cost 14 = .ok (.ireturn, 1) := by decide +kernel
theorem dL_cost_15 : decode cL_cost 15 = .ok (.iconst 0, 1) := by decide +kernel
theorem dL_cost_16 : decode cL_cost 16 = .ok (.ireturn, 1) := by decide +kernel
theorem dL_way_0 : decode cL_way 0 = .ok (.aload 4, 2) := by decide +kernel
theorem dL_way_2 : decode cL_way 2 = .ok (.iconst 0, 1) := by decide +kernel
theorem dL_way_3 : decode cL_way 3 = .ok (.aload_n 0, 1) := by decide +kernel
theorem dL_way_4 : decode cL_way 4 = .ok (.iload_n 1, 1) := by decide +kernel
theorem dL_way_5 : decode cL_way 5 = .ok (.iload_n 2, 1) := by decide +kernel
theorem dL_way_6 : decode cL_way 6 = .ok (.iload_n 3, 1) := by decide +kernel
theorem dL_way_7 : decode cL_way 7 = .ok (.invokevirtual 38, 3) := by decide +kernel
theorem dL_way_10 : decode cL_way 10 = .ok (.i2l, 1) := by decide +kernel
theorem dL_way_11 : decode cL_way 11 = .ok (.lastore, 1) := by decide +kernel
theorem dL_way_12 : decode cL_way 12 = .ok (.goto 11, 3) := by decide +kernel
theorem dL_way_15 : decode cL_way 15 = .ok (.astore 5, 2) := by decide +kernel
theorem dL_way_17 : decode cL_way 17 = .ok (.iconst 1, 1) := by decide +kernel
theorem dL_way_18 : decode cL_way 18 = .ok (.ireturn, 1) := by decide +kernel
theorem dL_way_19 : decode cL_way 19 = .ok (.astore 5, 2) := by decide +kernel
theorem dL_way_21 : decode cL_way 21 = .ok (.iconst 2, 1) := by decide +kernel
theorem dL_way_22 : decode cL_way 22 = .ok (.ireturn, 1) := by decide +kernel
theorem dL_way_23 : decode cL_way 23 = .ok (.iconst 0, 1) := by decide +kernel
theorem dL_way_24 : decode cL_way 24 = .ok (.ireturn, 1) := by decide +kernel
theorem dL_ring_0 : decode cL_ring 0 = .ok (.aload 4, 2) := by decide +kernel
theorem dL_ring_2 : decode cL_ring 2 = .ok (.iconst 0, 1) := by decide +kernel
theorem dL_ring_3 : decode cL_ring 3 = .ok (.aload_n 0, 1) := by decide +kernel
theorem dL_ring_4 : decode cL_ring 4 = .ok (.iload_n 1, 1) := by decide +kernel
theorem dL_ring_5 : decode cL_ring 5 = .ok (.iload_n 2, 1) := by decide +kernel
theorem dL_ring_6 : decode cL_ring 6 = .ok (.iload_n 3, 1) := by decide +kernel
theorem dL_ring_7 : decode cL_ring 7 = .ok (.invokevirtual 42, 3) := by decide +kernel
theorem dL_ring_10 : decode cL_ring 10 = .ok (.i2l, 1) := by decide +kernel
theorem dL_ring_11 : decode cL_ring 11 = .ok (.lastore, 1) := by decide +kernel
theorem dL_ring_12 : decode cL_ring 12 = .ok (.goto 15, 3) := by decide +kernel
theorem dL_ring_15 : decode cL_ring 15 = .ok (.astore 5, 2) := by decide +kernel
theorem dL_ring_17 : decode cL_ring 17 = .ok (.iconst 1, 1) := by decide +kernel
theorem dL_ring_18 : decode cL_ring 18 = .ok (.ireturn, 1) := by decide +kernel
theorem dL_ring_19 : decode cL_ring 19 = .ok (.astore 5, 2) := by decide +kernel
theorem dL_ring_21 : decode cL_ring 21 = .ok (.iconst 2, 1) := by decide +kernel
theorem dL_ring_22 : decode cL_ring 22 = .ok (.ireturn, 1) := by decide +kernel
theorem dL_ring_23 : decode cL_ring 23 = .ok (.astore 5, 2) := by decide +kernel
theorem dL_ring_25 : decode cL_ring 25 = .ok (.iconst 3, 1) := by decide +kernel
theorem dL_ring_26 : decode cL_ring 26 = .ok (.ireturn, 1) := by decide +kernel
theorem dL_ring_27 : decode cL_ring 27 = .ok (.iconst 0, 1) := by decide +kernel
theorem dL_ring_28 : decode cL_ring 28 = .ok (.ireturn, 1) := by decide +kernel
theorem dL_heard_0 : decode cL_heard 0 = .ok (.aload_n 3, 1) := by decide +kernel
theorem dL_heard_1 : decode cL_heard 1 = .ok (.iconst 0, 1) := by decide +kernel
theorem dL_heard_2 : decode cL_heard 2 = .ok (.aload_n 0, 1) := by decide +kernel
theorem dL_heard_3 : decode cL_heard 3 = .ok (.iload_n 1, 1) := by decide +kernel
theorem dL_heard_4 : decode cL_heard 4 = .ok (.iload_n 2, 1) := by decide +kernel
theorem dL_heard_5 : decode cL_heard 5 = .ok (.invokevirtual 45, 3) := by decide +kernel
theorem dL_heard_8 : decode cL_heard 8 = .ok (.i2l, 1) := by decide +kernel
theorem dL_heard_9 : decode cL_heard 9 = .ok (.lastore, 1) := by decide +kernel
theorem dL_heard_10 : decode cL_heard 10 = .ok (.goto 7, 3) := by decide +kernel
theorem dL_heard_13 : decode cL_heard 13 = .ok (.astore 4, 2) := by decide +kernel
theorem dL_heard_15 : decode cL_heard 15 = .ok (.iconst 1, 1) := by decide +kernel
theorem dL_heard_16 : decode cL_heard 16 = .ok (.ireturn, 1) := by decide +kernel
theorem dL_heard_17 : decode cL_heard 17 = .ok (.iconst 0, 1) := by decide +kernel
theorem dL_heard_18 : decode cL_heard 18 = .ok (.ireturn, 1) := by decide +kernel
theorem dL_taken_0 : decode cL_taken 0 = .ok (.aload_n 3, 1) := by decide +kernel
theorem dL_taken_1 : decode cL_taken 1 = .ok (.iconst 0, 1) := by decide +kernel
theorem dL_taken_2 : decode cL_taken 2 = .ok (.aload_n 0, 1) := by decide +kernel
theorem dL_taken_3 : decode cL_taken 3 = .ok (.iload_n 1, 1) := by decide +kernel
theorem dL_taken_4 : decode cL_taken 4 = .ok (.iload_n 2, 1) := by decide +kernel
theorem dL_taken_5 : decode cL_taken 5 = .ok (.invokevirtual 48, 3) := by decide +kernel
theorem dL_taken_8 : decode cL_taken 8 = .ok (.i2l, 1) := by decide +kernel
theorem dL_taken_9 : decode cL_taken 9 = .ok (.lastore, 1) := by decide +kernel
theorem dL_taken_10 : decode cL_taken 10 = .ok (.goto 7, 3) := by decide +kernel
theorem dL_taken_13 : decode cL_taken 13 = .ok (.astore 4, 2) := by decide +kernel
theorem dL_taken_15 : decode cL_taken 15 = .ok (.iconst 1, 1) := by decide +kernel
theorem dL_taken_16 : decode cL_taken 16 = .ok (.ireturn, 1) := by decide +kernel
theorem dL_taken_17 : decode cL_taken 17 = .ok (.iconst 0, 1) := by decide +kernel
theorem dL_taken_18 : decode cL_taken 18 = .ok (.ireturn, 1) := by decide +kernel
theorem dL_sure_0 : decode cL_sure 0 = .ok (.aload_n 3, 1) := by decide +kernel
theorem dL_sure_1 : decode cL_sure 1 = .ok (.iconst 0, 1) := by decide +kernel
theorem dL_sure_2 : decode cL_sure 2 = .ok (.aload_n 0, 1) := by decide +kernel
theorem dL_sure_3 : decode cL_sure 3 = .ok (.iload_n 1, 1) := by decide +kernel
theorem dL_sure_4 : decode cL_sure 4 = .ok (.iload_n 2, 1) := by decide +kernel
theorem dL_sure_5 : decode cL_sure 5 = .ok (.invokevirtual 51, 3) := by decide +kernel
theorem dL_sure_8 : decode cL_sure 8 = .ok (.i2l, 1) := by decide +kernel
theorem dL_sure_9 : decode cL_sure 9 = .ok (.lastore, 1) := by decide +kernel
theorem dL_sure_10 : decode cL_sure 10 = .ok (.goto 7, 3) := by decide +kernel
theorem dL_sure_13 : decode cL_sure 13 = .ok (.astore 4, 2) := by decide +kernel
theorem dL_sure_15 : decode cL_sure 15 = .ok (.iconst 1, 1) := by decide +kernel
theorem dL_sure_16 : decode cL_sure 16 = .ok (.ireturn, 1) := by decide +kernel
theorem dL_sure_17 : decode cL_sure 17 = .ok (.iconst 0, 1) := by decide +kernel
theorem dL_sure_18 : decode cL_sure 18 = .ok (.ireturn, 1) := by decide +kernel
theorem dL_begins_0 : decode cL_begins 0 = .ok (.aload_n 2, 1) := by decide +kernel
theorem dL_begins_1 : decode cL_begins 1 = .ok (.iconst 0, 1) := by decide +kernel
theorem dL_begins_2 : decode cL_begins 2 = .ok (.aload_n 0, 1) := by decide +kernel
theorem dL_begins_3 : decode cL_begins 3 = .ok (.iload_n 1, 1) := by decide +kernel
theorem dL_begins_4 : decode cL_begins 4 = .ok (.invokevirtual 55, 3) := by decide +kernel
theorem dL_begins_7 : decode cL_begins 7 = .ok (.i2l, 1) := by decide +kernel
theorem dL_begins_8 : decode cL_begins 8 = .ok (.lastore, 1) := by decide +kernel
theorem dL_begins_9 : decode cL_begins 9 = .ok (.goto 6, 3) := by decide +kernel
theorem dL_begins_12 : decode cL_begins 12 = .ok (.astore_n 3, 1) := by decide +kernel
theorem dL_begins_13 : decode cL_begins 13 = .ok (.iconst 1, 1) := by decide +kernel
theorem dL_begins_14 : decode cL_begins 14 = .ok (.ireturn, 1) := by decide +kernel
theorem dL_begins_15 : decode cL_begins 15 = .ok (.iconst 0, 1) := by decide +kernel
theorem dL_begins_16 : decode cL_begins 16 = .ok (.ireturn, 1) := by decide +kernel
theorem dL_safe_0 : decode cL_safe 0 = .ok (.aload_n 3, 1) := by decide +kernel
theorem dL_safe_1 : decode cL_safe 1 = .ok (.iconst 0, 1) := by decide +kernel
theorem dL_safe_2 : decode cL_safe 2 = .ok (.aload_n 0, 1) := by decide +kernel
theorem dL_safe_3 : decode cL_safe 3 = .ok (.iload_n 1, 1) := by decide +kernel
theorem dL_safe_4 : decode cL_safe 4 = .ok (.iload_n 2, 1) := by decide +kernel
theorem dL_safe_5 : decode cL_safe 5 = .ok (.invokevirtual 58, 3) := by decide +kernel
theorem dL_safe_8 : decode cL_safe 8 = .ok (.ifCond .eq 7, 3) := by decide +kernel
theorem dL_safe_11 : decode cL_safe 11 = .ok (.lconst 1, 1) := by decide +kernel
theorem dL_safe_12 : decode cL_safe 12 = .ok (.goto 4, 3) := by decide +kernel
theorem dL_safe_15 : decode cL_safe 15 = .ok (.lconst 0, 1) := by decide +kernel
theorem dL_safe_16 : decode cL_safe 16 = .ok (.lastore, 1) := by decide +kernel
theorem dL_safe_17 : decode cL_safe 17 = .ok (.goto 11, 3) := by decide +kernel
theorem dL_safe_20 : decode cL_safe 20 = .ok (.astore 4, 2) := by decide +kernel
theorem dL_safe_22 : decode cL_safe 22 = .ok (.iconst 1, 1) := by decide +kernel
theorem dL_safe_23 : decode cL_safe 23 = .ok (.ireturn, 1) := by decide +kernel
theorem dL_safe_24 : decode cL_safe 24 = .ok (.astore 4, 2) := by decide +kernel
theorem dL_safe_26 : decode cL_safe 26 = .ok (.iconst 2, 1) := by decide +kernel
theorem dL_safe_27 : decode cL_safe 27 = .ok (.ireturn, 1) := by decide +kernel
theorem dL_safe_28 : decode cL_safe 28 = .ok (.iconst 0, 1) := by decide +kernel
theorem dL_safe_29 : decode cL_safe 29 = .ok (.ireturn, 1) := by decide +kernel
theorem dL_buy_0 : decode cL_buy 0 = .ok (.aload 4, 2) := by decide +kernel
theorem dL_buy_2 : decode cL_buy 2 = .ok (.iconst 0, 1) := by decide +kernel
theorem dL_buy_3 : decode cL_buy 3 = .ok (.aload_n 0, 1) := by decide +kernel
theorem dL_buy_4 : decode cL_buy 4 = .ok (.iload_n 1, 1) := by decide +kernel
theorem dL_buy_5 : decode cL_buy 5 = .ok (.iload_n 2, 1) := by decide +kernel
theorem dL_buy_6 : decode cL_buy 6 = .ok (.iload_n 3, 1) := by decide +kernel
theorem dL_buy_7 : decode cL_buy 7 = .ok (.invokevirtual 62, 3) := by decide +kernel
theorem dL_buy_10 : decode cL_buy 10 = .ok (.i2l, 1) := by decide +kernel
theorem dL_buy_11 : decode cL_buy 11 = .ok (.lastore, 1) := by decide +kernel
theorem dL_buy_12 : decode cL_buy 12 = .ok (.goto 11, 3) := by decide +kernel
theorem dL_buy_15 : decode cL_buy 15 = .ok (.astore 5, 2) := by decide +kernel
theorem dL_buy_17 : decode cL_buy 17 = .ok (.iconst 1, 1) := by decide +kernel
theorem dL_buy_18 : decode cL_buy 18 = .ok (.ireturn, 1) := by decide +kernel
theorem dL_buy_19 : decode cL_buy 19 = .ok (.astore 5, 2) := by decide +kernel
theorem dL_buy_21 : decode cL_buy 21 = .ok (.iconst 2, 1) := by decide +kernel
theorem dL_buy_22 : decode cL_buy 22 = .ok (.ireturn, 1) := by decide +kernel
theorem dL_buy_23 : decode cL_buy 23 = .ok (.iconst 0, 1) := by decide +kernel
theorem dL_buy_24 : decode cL_buy 24 = .ok (.ireturn, 1) := by decide +kernel
theorem dL_trade_0 : decode cL_trade 0 = .ok (.aload_n 0, 1) := by decide +kernel
theorem dL_trade_1 : decode cL_trade 1 = .ok (.iload_n 1, 1) := by decide +kernel
theorem dL_trade_2 : decode cL_trade 2 = .ok (.iload_n 2, 1) := by decide +kernel
theorem dL_trade_3 : decode cL_trade 3 = .ok (.iload_n 3, 1) := by decide +kernel
theorem dL_trade_4 : decode cL_trade 4 = .ok (.invokevirtual 65, 3) := by decide +kernel
theorem dL_trade_7 : decode cL_trade 7 = .ok (.goto 11, 3) := by decide +kernel
theorem dL_trade_10 : decode cL_trade 10 = .ok (.astore 4, 2) := by decide +kernel
theorem dL_trade_12 : decode cL_trade 12 = .ok (.iconst 1, 1) := by decide +kernel
theorem dL_trade_13 : decode cL_trade 13 = .ok (.ireturn, 1) := by decide +kernel
theorem dL_trade_14 : decode cL_trade 14 = .ok (.astore 4, 2) := by decide +kernel
theorem dL_trade_16 : decode cL_trade 16 = .ok (.iconst 2, 1) := by decide +kernel
theorem dL_trade_17 : decode cL_trade 17 = .ok (.ireturn, 1) := by decide +kernel
theorem dL_trade_18 : decode cL_trade 18 = .ok (.iconst 0, 1) := by decide +kernel
theorem dL_trade_19 : decode cL_trade 19 = .ok (.ireturn, 1) := by decide +kernel
theorem dL_colours_0 : decode cL_colours 0 = .ok (.aload_n 2, 1) := by decide +kernel
theorem dL_colours_1 : decode cL_colours 1 = .ok (.iconst 0, 1) := by decide +kernel
theorem dL_colours_2 : decode cL_colours 2 = .ok (.aload_n 0, 1) := by decide +kernel
theorem dL_colours_3 : decode cL_colours 3 = .ok (.iload_n 1, 1) := by decide +kernel
theorem dL_colours_4 : decode cL_colours 4 = .ok (.invokevirtual 69, 3) := by decide +kernel
theorem dL_colours_7 : decode cL_colours 7 = .ok (.i2l, 1) := by decide +kernel
theorem dL_colours_8 : decode cL_colours 8 = .ok (.lastore, 1) := by decide +kernel
theorem dL_colours_9 : decode cL_colours 9 = .ok (.goto 6, 3) := by decide +kernel
theorem dL_colours_12 : decode cL_colours 12 = .ok (.astore_n 3, 1) := by decide +kernel
theorem dL_colours_13 : decode cL_colours 13 = .ok (.iconst 1, 1) := by decide +kernel
theorem dL_colours_14 : decode cL_colours 14 = .ok (.ireturn, 1) := by decide +kernel
theorem dL_colours_15 : decode cL_colours 15 = .ok (.iconst 0, 1) := by decide +kernel
theorem dL_colours_16 : decode cL_colours 16 = .ok (.ireturn, 1) := by decide +kernel
theorem dL_relay_0 : decode cL_relay 0 = .ok (.aload 4, 2) := by decide +kernel
theorem dL_relay_2 : decode cL_relay 2 = .ok (.iconst 0, 1) := by decide +kernel
theorem dL_relay_3 : decode cL_relay 3 = .ok (.aload_n 0, 1) := by decide +kernel
theorem dL_relay_4 : decode cL_relay 4 = .ok (.iload_n 1, 1) := by decide +kernel
theorem dL_relay_5 : decode cL_relay 5 = .ok (.iload_n 2, 1) := by decide +kernel
theorem dL_relay_6 : decode cL_relay 6 = .ok (.iload_n 3, 1) := by decide +kernel
theorem dL_relay_7 : decode cL_relay 7 = .ok (.invokevirtual 72, 3) := by decide +kernel
theorem dL_relay_10 : decode cL_relay 10 = .ok (.i2l, 1) := by decide +kernel
theorem dL_relay_11 : decode cL_relay 11 = .ok (.lastore, 1) := by decide +kernel
theorem dL_relay_12 : decode cL_relay 12 = .ok (.goto 11, 3) := by decide +kernel
theorem dL_relay_15 : decode cL_relay 15 = .ok (.astore 5, 2) := by decide +kernel
theorem dL_relay_17 : decode cL_relay 17 = .ok (.iconst 1, 1) := by decide +kernel
theorem dL_relay_18 : decode cL_relay 18 = .ok (.ireturn, 1) := by decide +kernel
theorem dL_relay_19 : decode cL_relay 19 = .ok (.astore 5, 2) := by decide +kernel
theorem dL_relay_21 : decode cL_relay 21 = .ok (.iconst 2, 1) := by decide +kernel
theorem dL_relay_22 : decode cL_relay 22 = .ok (.ireturn, 1) := by decide +kernel
theorem dL_relay_23 : decode cL_relay 23 = .ok (.iconst 0, 1) := by decide +kernel
theorem dL_relay_24 : decode cL_relay 24 = .ok (.ireturn, 1) := by decide +kernel
theorem dL_ringers_0 : decode cL_ringers 0 = .ok (.aload_n 3, 1) := by decide +kernel
theorem dL_ringers_1 : decode cL_ringers 1 = .ok (.iconst 0, 1) := by decide +kernel
theorem dL_ringers_2 : decode cL_ringers 2 = .ok (.aload_n 0, 1) := by decide +kernel
theorem dL_ringers_3 : decode cL_ringers 3 = .ok (.iload_n 1, 1) := by decide +kernel
theorem dL_ringers_4 : decode cL_ringers 4 = .ok (.iload_n 2, 1) := by decide +kernel
theorem dL_ringers_5 : decode cL_ringers 5 = .ok (.invokevirtual 75, 3) := by decide +kernel
theorem dL_ringers_8 : decode cL_ringers 8 = .ok (.i2l, 1) := by decide +kernel
theorem dL_ringers_9 : decode cL_ringers 9 = .ok (.lastore, 1) := by decide +kernel
theorem dL_ringers_10 : decode cL_ringers 10 = .ok (.goto 11, 3) := by decide +kernel
theorem dL_ringers_13 : decode cL_ringers 13 = .ok (.astore 4, 2) := by decide +kernel
theorem dL_ringers_15 : decode cL_ringers 15 = .ok (.iconst 1, 1) := by decide +kernel
theorem dL_ringers_16 : decode cL_ringers 16 = .ok (.ireturn, 1) := by decide +kernel
theorem dL_ringers_17 : decode cL_ringers 17 = .ok (.astore 4, 2) := by decide +kernel
theorem dL_ringers_19 : decode cL_ringers 19 = .ok (.iconst 2, 1) := by decide +kernel
theorem dL_ringers_20 : decode cL_ringers 20 = .ok (.ireturn, 1) := by decide +kernel
theorem dL_ringers_21 : decode cL_ringers 21 = .ok (.iconst 0, 1) := by decide +kernel
theorem dL_ringers_22 : decode cL_ringers 22 = .ok (.ireturn, 1) := by decide +kernel
theorem dL_six_0 : decode cL_six 0 = .ok (.aload_n 3, 1) := by decide +kernel
theorem dL_six_1 : decode cL_six 1 = .ok (.iconst 0, 1) := by decide +kernel
theorem dL_six_2 : decode cL_six 2 = .ok (.aload_n 0, 1) := by decide +kernel
theorem dL_six_3 : decode cL_six 3 = .ok (.iload_n 1, 1) := by decide +kernel
theorem dL_six_4 : decode cL_six 4 = .ok (.iload_n 2, 1) := by decide +kernel
theorem dL_six_5 : decode cL_six 5 = .ok (.invokevirtual 78, 3) := by decide +kernel
theorem dL_six_8 : decode cL_six 8 = .ok (.i2l, 1) := by decide +kernel
theorem dL_six_9 : decode cL_six 9 = .ok (.lastore, 1) := by decide +kernel
theorem dL_six_10 : decode cL_six 10 = .ok (.goto 11, 3) := by decide +kernel
theorem dL_six_13 : decode cL_six 13 = .ok (.astore 4, 2) := by decide +kernel
theorem dL_six_15 : decode cL_six 15 = .ok (.iconst 1, 1) := by decide +kernel
theorem dL_six_16 : decode cL_six 16 = .ok (.ireturn, 1) := by decide +kernel
theorem dL_six_17 : decode cL_six 17 = .ok (.astore 4, 2) := by decide +kernel
theorem dL_six_19 : decode cL_six 19 = .ok (.iconst 2, 1) := by decide +kernel
theorem dL_six_20 : decode cL_six 20 = .ok (.ireturn, 1) := by decide +kernel
theorem dL_six_21 : decode cL_six 21 = .ok (.iconst 0, 1) := by decide +kernel
theorem dL_six_22 : decode cL_six 22 = .ok (.ireturn, 1) := by decide +kernel
theorem dL_lot_0 : decode cL_lot 0 = .ok (.aload 4, 2) := by decide +kernel
theorem dL_lot_2 : decode cL_lot 2 = .ok (.iconst 0, 1) := by decide +kernel
theorem dL_lot_3 : decode cL_lot 3 = .ok (.aload_n 0, 1) := by decide +kernel
theorem dL_lot_4 : decode cL_lot 4 = .ok (.iload_n 1, 1) := by decide +kernel
theorem dL_lot_5 : decode cL_lot 5 = .ok (.iload_n 2, 1) := by decide +kernel
theorem dL_lot_6 : decode cL_lot 6 = .ok (.iload_n 3, 1) := by decide +kernel
theorem dL_lot_7 : decode cL_lot 7 = .ok (.invokevirtual 81, 3) := by decide +kernel
theorem dL_lot_10 : decode cL_lot 10 = .ok (.i2l, 1) := by decide +kernel
theorem dL_lot_11 : decode cL_lot 11 = .ok (.lastore, 1) := by decide +kernel
theorem dL_lot_12 : decode cL_lot 12 = .ok (.goto 11, 3) := by decide +kernel
theorem dL_lot_15 : decode cL_lot 15 = .ok (.astore 5, 2) := by decide +kernel
theorem dL_lot_17 : decode cL_lot 17 = .ok (.iconst 1, 1) := by decide +kernel
theorem dL_lot_18 : decode cL_lot 18 = .ok (.ireturn, 1) := by decide +kernel
theorem dL_lot_19 : decode cL_lot 19 = .ok (.astore 5, 2) := by decide +kernel
theorem dL_lot_21 : decode cL_lot 21 = .ok (.iconst 2, 1) := by decide +kernel
theorem dL_lot_22 : decode cL_lot 22 = .ok (.ireturn, 1) := by decide +kernel
theorem dL_lot_23 : decode cL_lot 23 = .ok (.iconst 0, 1) := by decide +kernel
theorem dL_lot_24 : decode cL_lot 24 = .ok (.ireturn, 1) := by decide +kernel
theorem dL_room_0 : decode cL_room 0 = .ok (.aload 4, 2) := by decide +kernel
theorem dL_room_2 : decode cL_room 2 = .ok (.iconst 0, 1) := by decide +kernel
theorem dL_room_3 : decode cL_room 3 = .ok (.aload_n 0, 1) := by decide +kernel
theorem dL_room_4 : decode cL_room 4 = .ok (.iload_n 1, 1) := by decide +kernel
theorem dL_room_5 : decode cL_room 5 = .ok (.iload_n 2, 1) := by decide +kernel
theorem dL_room_6 : decode cL_room 6 = .ok (.iload_n 3, 1) := by decide +kernel
theorem dL_room_7 : decode cL_room 7 = .ok (.invokevirtual 84, 3) := by decide +kernel
theorem dL_room_10 : decode cL_room 10 = .ok (.i2l, 1) := by decide +kernel
theorem dL_room_11 : decode cL_room 11 = .ok (.lastore, 1) := by decide +kernel
theorem dL_room_12 : decode cL_room 12 = .ok (.goto 11, 3) := by decide +kernel
theorem dL_room_15 : decode cL_room 15 = .ok (.astore 5, 2) := by decide +kernel
theorem dL_room_17 : decode cL_room 17 = .ok (.iconst 1, 1) := by decide +kernel
theorem dL_room_18 : decode cL_room 18 = .ok (.ireturn, 1) := by decide +kernel
theorem dL_room_19 : decode cL_room 19 = .ok (.astore 5, 2) := by decide +kernel
theorem dL_room_21 : decode cL_room 21 = .ok (.iconst 2, 1) := by decide +kernel
theorem dL_room_22 : decode cL_room 22 = .ok (.ireturn, 1) := by decide +kernel
theorem dL_room_23 : decode cL_room 23 = .ok (.iconst 0, 1) := by decide +kernel
theorem dL_room_24 : decode cL_room 24 = .ok (.ireturn, 1) := by decide +kernel
theorem dL_learn_0 : decode cL_learn 0 = .ok (.aload_n 2, 1) := by decide +kernel
theorem dL_learn_1 : decode cL_learn 1 = .ok (.iconst 0, 1) := by decide +kernel
theorem dL_learn_2 : decode cL_learn 2 = .ok (.aload_n 0, 1) := by decide +kernel
theorem dL_learn_3 : decode cL_learn 3 = .ok (.iload_n 1, 1) := by decide +kernel
theorem dL_learn_4 : decode cL_learn 4 = .ok (.invokevirtual 88, 3) := by decide +kernel
theorem dL_learn_7 : decode cL_learn 7 = .ok (.i2l, 1) := by decide +kernel
theorem dL_learn_8 : decode cL_learn 8 = .ok (.lastore, 1) := by decide +kernel
theorem dL_learn_9 : decode cL_learn 9 = .ok (.goto 6, 3) := by decide +kernel
theorem dL_learn_12 : decode cL_learn 12 = .ok (.astore_n 3, 1) := by decide +kernel
theorem dL_learn_13 : decode cL_learn 13 = .ok (.iconst 1, 1) := by decide +kernel
theorem dL_learn_14 : decode cL_learn 14 = .ok (.ireturn, 1) := by decide +kernel
theorem dL_learn_15 : decode cL_learn 15 = .ok (.iconst 0, 1) := by decide +kernel
theorem dL_learn_16 : decode cL_learn 16 = .ok (.ireturn, 1) := by decide +kernel
theorem dL_fooled_0 : decode cL_fooled 0 = .ok (.aload 4, 2) := by decide +kernel
theorem dL_fooled_2 : decode cL_fooled 2 = .ok (.iconst 0, 1) := by decide +kernel
theorem dL_fooled_3 : decode cL_fooled 3 = .ok (.aload_n 0, 1) := by decide +kernel
theorem dL_fooled_4 : decode cL_fooled 4 = .ok (.iload_n 1, 1) := by decide +kernel
theorem dL_fooled_5 : decode cL_fooled 5 = .ok (.iload_n 2, 1) := by decide +kernel
theorem dL_fooled_6 : decode cL_fooled 6 = .ok (.iload_n 3, 1) := by decide +kernel
theorem dL_fooled_7 : decode cL_fooled 7 = .ok (.invokevirtual 91, 3) := by decide +kernel
theorem dL_fooled_10 : decode cL_fooled 10 = .ok (.i2l, 1) := by decide +kernel
theorem dL_fooled_11 : decode cL_fooled 11 = .ok (.lastore, 1) := by decide +kernel
theorem dL_fooled_12 : decode cL_fooled 12 = .ok (.goto 11, 3) := by decide +kernel
theorem dL_fooled_15 : decode cL_fooled 15 = .ok (.astore 5, 2) := by decide +kernel
theorem dL_fooled_17 : decode cL_fooled 17 = .ok (.iconst 1, 1) := by decide +kernel
theorem dL_fooled_18 : decode cL_fooled 18 = .ok (.ireturn, 1) := by decide +kernel
theorem dL_fooled_19 : decode cL_fooled 19 = .ok (.astore 5, 2) := by decide +kernel
theorem dL_fooled_21 : decode cL_fooled 21 = .ok (.iconst 2, 1) := by decide +kernel
theorem dL_fooled_22 : decode cL_fooled 22 = .ok (.ireturn, 1) := by decide +kernel
theorem dL_fooled_23 : decode cL_fooled 23 = .ok (.iconst 0, 1) := by decide +kernel
theorem dL_fooled_24 : decode cL_fooled 24 = .ok (.ireturn, 1) := by decide +kernel
theorem dL_could_0 : decode cL_could 0 = .ok (.aload_n 3, 1) := by decide +kernel
theorem dL_could_1 : decode cL_could 1 = .ok (.iconst 0, 1) := by decide +kernel
theorem dL_could_2 : decode cL_could 2 = .ok (.aload_n 0, 1) := by decide +kernel
theorem dL_could_3 : decode cL_could 3 = .ok (.iload_n 1, 1) := by decide +kernel
theorem dL_could_4 : decode cL_could 4 = .ok (.iload_n 2, 1) := by decide +kernel
theorem dL_could_5 : decode cL_could 5 = .ok (.invokevirtual 94, 3) := by decide +kernel
theorem dL_could_8 : decode cL_could 8 = .ok (.i2l, 1) := by decide +kernel
theorem dL_could_9 : decode cL_could 9 = .ok (.lastore, 1) := by decide +kernel
theorem dL_could_10 : decode cL_could 10 = .ok (.goto 7, 3) := by decide +kernel
theorem dL_could_13 : decode cL_could 13 = .ok (.astore 4, 2) := by decide +kernel
theorem dL_could_15 : decode cL_could 15 = .ok (.iconst 1, 1) := by decide +kernel
theorem dL_could_16 : decode cL_could 16 = .ok (.ireturn, 1) := by decide +kernel
theorem dL_could_17 : decode cL_could 17 = .ok (.iconst 0, 1) := by decide +kernel
theorem dL_could_18 : decode cL_could 18 = .ok (.ireturn, 1) := by decide +kernel
theorem dL_understood_0 : decode cL_understood 0 = .ok (.aload_n 2, 1) := by decide +kernel
theorem dL_understood_1 : decode cL_understood 1 = .ok (.iconst 0, 1) := by decide +kernel
theorem dL_understood_2 : decode cL_understood 2 = .ok (.aload_n 0, 1) := by decide +kernel
theorem dL_understood_3 : decode cL_understood 3 = .ok (.iload_n 1, 1) := by decide +kernel
theorem dL_understood_4 : decode cL_understood 4 = .ok (.invokevirtual 97, 3) := by decide +kernel
theorem dL_understood_7 : decode cL_understood 7 = .ok (.i2l, 1) := by decide +kernel
theorem dL_understood_8 : decode cL_understood 8 = .ok (.lastore, 1) := by decide +kernel
theorem dL_understood_9 : decode cL_understood 9 = .ok (.goto 6, 3) := by decide +kernel
theorem dL_understood_12 : decode cL_understood 12 = .ok (.astore_n 3, 1) := by decide +kernel
theorem dL_understood_13 : decode cL_understood 13 = .ok (.iconst 1, 1) := by decide +kernel
theorem dL_understood_14 : decode cL_understood 14 = .ok (.ireturn, 1) := by decide +kernel
theorem dL_understood_15 : decode cL_understood 15 = .ok (.iconst 0, 1) := by decide +kernel
theorem dL_understood_16 : decode cL_understood 16 = .ok (.ireturn, 1) := by decide +kernel
theorem dL_quiet_0 : decode cL_quiet 0 = .ok (.aload 5, 2) := by decide +kernel
theorem dL_quiet_2 : decode cL_quiet 2 = .ok (.iconst 0, 1) := by decide +kernel
theorem dL_quiet_3 : decode cL_quiet 3 = .ok (.aload_n 0, 1) := by decide +kernel
theorem dL_quiet_4 : decode cL_quiet 4 = .ok (.iload_n 1, 1) := by decide +kernel
theorem dL_quiet_5 : decode cL_quiet 5 = .ok (.iload_n 2, 1) := by decide +kernel
theorem dL_quiet_6 : decode cL_quiet 6 = .ok (.iload_n 3, 1) := by decide +kernel
theorem dL_quiet_7 : decode cL_quiet 7 = .ok (.iload 4, 2) := by decide +kernel
theorem dL_quiet_9 : decode cL_quiet 9 = .ok (.invokevirtual 100, 3) := by decide +kernel
theorem dL_quiet_12 : decode cL_quiet 12 = .ok (.i2l, 1) := by decide +kernel
theorem dL_quiet_13 : decode cL_quiet 13 = .ok (.lastore, 1) := by decide +kernel
theorem dL_quiet_14 : decode cL_quiet 14 = .ok (.goto 15, 3) := by decide +kernel
theorem dL_quiet_17 : decode cL_quiet 17 = .ok (.astore 6, 2) := by decide +kernel
theorem dL_quiet_19 : decode cL_quiet 19 = .ok (.iconst 1, 1) := by decide +kernel
theorem dL_quiet_20 : decode cL_quiet 20 = .ok (.ireturn, 1) := by decide +kernel
theorem dL_quiet_21 : decode cL_quiet 21 = .ok (.astore 6, 2) := by decide +kernel
theorem dL_quiet_23 : decode cL_quiet 23 = .ok (.iconst 2, 1) := by decide +kernel
theorem dL_quiet_24 : decode cL_quiet 24 = .ok (.ireturn, 1) := by decide +kernel
theorem dL_quiet_25 : decode cL_quiet 25 = .ok (.astore 6, 2) := by decide +kernel
theorem dL_quiet_27 : decode cL_quiet 27 = .ok (.iconst 3, 1) := by decide +kernel
theorem dL_quiet_28 : decode cL_quiet 28 = .ok (.ireturn, 1) := by decide +kernel
theorem dL_quiet_29 : decode cL_quiet 29 = .ok (.iconst 0, 1) := by decide +kernel
theorem dL_quiet_30 : decode cL_quiet 30 = .ok (.ireturn, 1) := by decide +kernel
theorem dL_worth_0 : decode cL_worth 0 = .ok (.aload 4, 2) := by decide +kernel
theorem dL_worth_2 : decode cL_worth 2 = .ok (.iconst 0, 1) := by decide +kernel
theorem dL_worth_3 : decode cL_worth 3 = .ok (.aload_n 0, 1) := by decide +kernel
theorem dL_worth_4 : decode cL_worth 4 = .ok (.iload_n 1, 1) := by decide +kernel
theorem dL_worth_5 : decode cL_worth 5 = .ok (.iload_n 2, 1) := by decide +kernel
theorem dL_worth_6 : decode cL_worth 6 = .ok (.iload_n 3, 1) := by decide +kernel
theorem dL_worth_7 : decode cL_worth 7 = .ok (.invokevirtual 104, 3) := by decide +kernel
theorem dL_worth_10 : decode cL_worth 10 = .ok (.i2l, 1) := by decide +kernel
theorem dL_worth_11 : decode cL_worth 11 = .ok (.lastore, 1) := by decide +kernel
theorem dL_worth_12 : decode cL_worth 12 = .ok (.goto 11, 3) := by decide +kernel
theorem dL_worth_15 : decode cL_worth 15 = .ok (.astore 5, 2) := by decide +kernel
theorem dL_worth_17 : decode cL_worth 17 = .ok (.iconst 1, 1) := by decide +kernel
theorem dL_worth_18 : decode cL_worth 18 = .ok (.ireturn, 1) := by decide +kernel
theorem dL_worth_19 : decode cL_worth 19 = .ok (.astore 5, 2) := by decide +kernel
theorem dL_worth_21 : decode cL_worth 21 = .ok (.iconst 2, 1) := by decide +kernel
theorem dL_worth_22 : decode cL_worth 22 = .ok (.ireturn, 1) := by decide +kernel
theorem dL_worth_23 : decode cL_worth 23 = .ok (.iconst 0, 1) := by decide +kernel
theorem dL_worth_24 : decode cL_worth 24 = .ok (.ireturn, 1) := by decide +kernel
theorem dL_sale_0 : decode cL_sale 0 = .ok (.aload 4, 2) := by decide +kernel
theorem dL_sale_2 : decode cL_sale 2 = .ok (.iconst 0, 1) := by decide +kernel
theorem dL_sale_3 : decode cL_sale 3 = .ok (.aload_n 0, 1) := by decide +kernel
theorem dL_sale_4 : decode cL_sale 4 = .ok (.iload_n 1, 1) := by decide +kernel
theorem dL_sale_5 : decode cL_sale 5 = .ok (.iload_n 2, 1) := by decide +kernel
theorem dL_sale_6 : decode cL_sale 6 = .ok (.iload_n 3, 1) := by decide +kernel
theorem dL_sale_7 : decode cL_sale 7 = .ok (.invokevirtual 107, 3) := by decide +kernel
theorem dL_sale_10 : decode cL_sale 10 = .ok (.i2l, 1) := by decide +kernel
theorem dL_sale_11 : decode cL_sale 11 = .ok (.lastore, 1) := by decide +kernel
theorem dL_sale_12 : decode cL_sale 12 = .ok (.goto 11, 3) := by decide +kernel
theorem dL_sale_15 : decode cL_sale 15 = .ok (.astore 5, 2) := by decide +kernel
theorem dL_sale_17 : decode cL_sale 17 = .ok (.iconst 1, 1) := by decide +kernel
theorem dL_sale_18 : decode cL_sale 18 = .ok (.ireturn, 1) := by decide +kernel
theorem dL_sale_19 : decode cL_sale 19 = .ok (.astore 5, 2) := by decide +kernel
theorem dL_sale_21 : decode cL_sale 21 = .ok (.iconst 2, 1) := by decide +kernel
theorem dL_sale_22 : decode cL_sale 22 = .ok (.ireturn, 1) := by decide +kernel
theorem dL_sale_23 : decode cL_sale 23 = .ok (.iconst 0, 1) := by decide +kernel
theorem dL_sale_24 : decode cL_sale 24 = .ok (.ireturn, 1) := by decide +kernel
theorem dL_evening_0 : decode cL_evening 0 = .ok (.aload 4, 2) := by decide +kernel
theorem dL_evening_2 : decode cL_evening 2 = .ok (.iconst 0, 1) := by decide +kernel
theorem dL_evening_3 : decode cL_evening 3 = .ok (.aload_n 0, 1) := by decide +kernel
theorem dL_evening_4 : decode cL_evening 4 = .ok (.iload_n 1, 1) := by decide +kernel
theorem dL_evening_5 : decode cL_evening 5 = .ok (.iload_n 2, 1) := by decide +kernel
theorem dL_evening_6 : decode cL_evening 6 = .ok (.iload_n 3, 1) := by decide +kernel
theorem dL_evening_7 : decode cL_evening 7 = .ok (.invokevirtual 110, 3) := by decide +kernel
theorem dL_evening_10 : decode cL_evening 10 = .ok (.i2l, 1) := by decide +kernel
theorem dL_evening_11 : decode cL_evening 11 = .ok (.lastore, 1) := by decide +kernel
theorem dL_evening_12 : decode cL_evening 12 = .ok (.goto 11, 3) := by decide +kernel
theorem dL_evening_15 : decode cL_evening 15 = .ok (.astore 5, 2) := by decide +kernel
theorem dL_evening_17 : decode cL_evening 17 = .ok (.iconst 1, 1) := by decide +kernel
theorem dL_evening_18 : decode cL_evening 18 = .ok (.ireturn, 1) := by decide +kernel
theorem dL_evening_19 : decode cL_evening 19 = .ok (.astore 5, 2) := by decide +kernel
theorem dL_evening_21 : decode cL_evening 21 = .ok (.iconst 2, 1) := by decide +kernel
theorem dL_evening_22 : decode cL_evening 22 = .ok (.ireturn, 1) := by decide +kernel
theorem dL_evening_23 : decode cL_evening 23 = .ok (.iconst 0, 1) := by decide +kernel
theorem dL_evening_24 : decode cL_evening 24 = .ok (.ireturn, 1) := by decide +kernel
