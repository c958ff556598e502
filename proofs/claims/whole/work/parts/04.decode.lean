theorem dX0_init_0 : decode cX0_init 0 = .ok (.aload_n 0, 1) := by decide +kernel
theorem dX0_init_1 : decode cX0_init 1 = .ok (.invokespecial 3, 3) := by decide +kernel
theorem dX0_init_4 : decode cX0_init 4 = .ok (.aload_n 0, 1) := by decide +kernel
theorem dX0_init_5 : decode cX0_init 5 = .ok (.iconst 5, 1) := by decide +kernel
theorem dX0_init_6 : decode cX0_init 6 = .ok (.newarray .int, 2) := by decide +kernel
theorem dX0_init_8 : decode cX0_init 8 = .ok (.dup, 1) := by decide +kernel
theorem dX0_init_9 : decode cX0_init 9 = .ok (.iconst 0, 1) := by decide +kernel
theorem dX0_init_10 : decode cX0_init 10 = .ok (.iconst 1, 1) := by decide +kernel
theorem dX0_init_11 : decode cX0_init 11 = .ok (.iastore, 1) := by decide +kernel
theorem dX0_init_12 : decode cX0_init 12 = .ok (.dup, 1) := by decide +kernel
theorem dX0_init_13 : decode cX0_init 13 = .ok (.iconst 1, 1) := by decide +kernel
theorem dX0_init_14 : decode cX0_init 14 = .ok (.iconst 5, 1) := by decide +kernel
theorem dX0_init_15 : decode cX0_init 15 = .ok (.iastore, 1) := by decide +kernel
theorem dX0_init_16 : decode cX0_init 16 = .ok (.dup, 1) := by decide +kernel
theorem dX0_init_17 : decode cX0_init 17 = .ok (.iconst 2, 1) := by decide +kernel
theorem dX0_init_18 : decode cX0_init 18 = .ok (.bipush 10, 2) := by decide +kernel
theorem dX0_init_20 : decode cX0_init 20 = .ok (.iastore, 1) := by decide +kernel
theorem dX0_init_21 : decode cX0_init 21 = .ok (.dup, 1) := by decide +kernel
theorem dX0_init_22 : decode cX0_init 22 = .ok (.iconst 3, 1) := by decide +kernel
theorem dX0_init_23 : decode cX0_init 23 = .ok (.bipush 100, 2) := by decide +kernel
theorem dX0_init_25 : decode cX0_init 25 = .ok (.iastore, 1) := by decide +kernel
theorem dX0_init_26 : decode cX0_init 26 = .ok (.dup, 1) := by decide +kernel
theorem dX0_init_27 : decode cX0_init 27 = .ok (.iconst 4, 1) := by decide +kernel
theorem dX0_init_28 : decode cX0_init 28 = .ok (.iconst 1, 1) := by decide +kernel
theorem dX0_init_29 : decode cX0_init 29 = .ok (.iastore, 1) := by decide +kernel
theorem dX0_init_30 : decode cX0_init 30 = .ok (.putfield 9, 3) := by decide +kernel
theorem dX0_init_33 : decode cX0_init 33 = .ok (.return_, 1) := by decide +kernel
theorem dX0_allows_0 : decode cX0_allows 0 = .ok (.iload_n 1, 1) := by decide +kernel
theorem dX0_allows_1 : decode cX0_allows 1 = .ok (.ifCond .lt 30, 3) := by decide +kernel
theorem dX0_allows_4 : decode cX0_allows 4 = .ok (.iload_n 1, 1) := by decide +kernel
theorem dX0_allows_5 : decode cX0_allows 5 = .ok (.iconst 5, 1) := by decide +kernel
theorem dX0_allows_6 : decode cX0_allows 6 = .ok (.if_icmp .ge 25, 3) := by decide +kernel
theorem dX0_allows_9 : decode cX0_allows 9 = .ok (.iload_n 2, 1) := by decide +kernel
theorem dX0_allows_10 : decode cX0_allows 10 = .ok (.getstatic 15, 3) := by decide +kernel
theorem dX0_allows_13 : decode cX0_allows 13 = .ok (.iload_n 1, 1) := by decide +kernel
theorem dX0_allows_14 : decode cX0_allows 14 = .ok (.iaload, 1) := by decide +kernel
theorem dX0_allows_15 : decode cX0_allows 15 = .ok (.if_icmp .lt 16, 3) := by decide +kernel
theorem dX0_allows_18 : decode cX0_allows 18 = .ok (.iload_n 2, 1) := by decide +kernel
theorem dX0_allows_19 : decode cX0_allows 19 = .ok (.getstatic 18, 3) := by decide +kernel
theorem dX0_allows_22 : decode cX0_allows 22 = .ok (.iload_n 1, 1) := by decide +kernel
theorem dX0_allows_23 : decode cX0_allows 23 = .ok (.iaload, 1) := by decide +kernel
theorem dX0_allows_24 : decode cX0_allows 24 = .ok (.if_icmp .gt 7, 3) := by decide +kernel
theorem dX0_allows_27 : decode cX0_allows 27 = .ok (.iconst 1, 1) := by decide +kernel
theorem dX0_allows_28 : decode cX0_allows 28 = .ok (.goto 4, 3) := by decide +kernel
theorem dX0_allows_31 : decode cX0_allows 31 = .ok (.iconst 0, 1) := by decide +kernel
theorem dX0_allows_32 : decode cX0_allows 32 = .ok (.ireturn, 1) := by decide +kernel
theorem dX0_exchange_0 : decode cX0_exchange 0 = .ok (.iload_n 1, 1) := by decide +kernel
theorem dX0_exchange_1 : decode cX0_exchange 1 = .ok (.ifCond .lt 8, 3) := by decide +kernel
theorem dX0_exchange_4 : decode cX0_exchange 4 = .ok (.iload_n 1, 1) := by decide +kernel
theorem dX0_exchange_5 : decode cX0_exchange 5 = .ok (.iconst 5, 1) := by decide +kernel
theorem dX0_exchange_6 : decode cX0_exchange 6 = .ok (.if_icmp .lt 6, 3) := by decide +kernel
theorem dX0_exchange_9 : decode cX0_exchange 9 = .ok (.bipush (-2), 2) := by decide +kernel
theorem dX0_exchange_11 : decode cX0_exchange 11 = .ok (.ireturn, 1) := by decide +kernel
theorem dX0_exchange_12 : decode cX0_exchange 12 = .ok (.aload_n 0, 1) := by decide +kernel
theorem dX0_exchange_13 : decode cX0_exchange 13 = .ok (.getfield 9, 3) := by decide +kernel
theorem dX0_exchange_16 : decode cX0_exchange 16 = .ok (.iload_n 1, 1) := by decide +kernel
theorem dX0_exchange_17 : decode cX0_exchange 17 = .ok (.iaload, 1) := by decide +kernel
theorem dX0_exchange_18 : decode cX0_exchange 18 = .ok (.istore_n 3, 1) := by decide +kernel
theorem dX0_exchange_19 : decode cX0_exchange 19 = .ok (.aload_n 0, 1) := by decide +kernel
theorem dX0_exchange_20 : decode cX0_exchange 20 = .ok (.getfield 9, 3) := by decide +kernel
theorem dX0_exchange_23 : decode cX0_exchange 23 = .ok (.iload_n 1, 1) := by decide +kernel
theorem dX0_exchange_24 : decode cX0_exchange 24 = .ok (.iload_n 2, 1) := by decide +kernel
theorem dX0_exchange_25 : decode cX0_exchange 25 = .ok (.iastore, 1) := by decide +kernel
theorem dX0_exchange_26 : decode cX0_exchange 26 = .ok (.iload_n 3, 1) := by decide +kernel
theorem dX0_exchange_27 : decode cX0_exchange 27 = .ok (.ireturn, 1) := by decide +kernel
theorem dX0_nights_0 : decode cX0_nights 0 = .ok (.aload_n 0, 1) := by decide +kernel
theorem dX0_nights_1 : decode cX0_nights 1 = .ok (.getfield 9, 3) := by decide +kernel
theorem dX0_nights_4 : decode cX0_nights 4 = .ok (.iconst 2, 1) := by decide +kernel
theorem dX0_nights_5 : decode cX0_nights 5 = .ok (.iaload, 1) := by decide +kernel
theorem dX0_nights_6 : decode cX0_nights 6 = .ok (.ireturn, 1) := by decide +kernel
theorem dX0_cow_0 : decode cX0_cow 0 = .ok (.aload_n 0, 1) := by decide +kernel
theorem dX0_cow_1 : decode cX0_cow 1 = .ok (.getfield 9, 3) := by decide +kernel
theorem dX0_cow_4 : decode cX0_cow 4 = .ok (.iconst 1, 1) := by decide +kernel
theorem dX0_cow_5 : decode cX0_cow 5 = .ok (.iaload, 1) := by decide +kernel
theorem dX0_cow_6 : decode cX0_cow 6 = .ok (.ireturn, 1) := by decide +kernel
theorem dX0_promised_0 : decode cX0_promised 0 = .ok (.aload_n 0, 1) := by decide +kernel
theorem dX0_promised_1 : decode cX0_promised 1 = .ok (.getfield 9, 3) := by decide +kernel
theorem dX0_promised_4 : decode cX0_promised 4 = .ok (.iconst 0, 1) := by decide +kernel
theorem dX0_promised_5 : decode cX0_promised 5 = .ok (.iaload, 1) := by decide +kernel
theorem dX0_promised_6 : decode cX0_promised 6 = .ok (.iload_n 1, 1) := by decide +kernel
theorem dX0_promised_7 : decode cX0_promised 7 = .ok (.ishl, 1) := by decide +kernel
theorem dX0_promised_8 : decode cX0_promised 8 = .ok (.ireturn, 1) := by decide +kernel
theorem dX0_paidUnnamed_0 : decode cX0_paidUnnamed 0 = .ok (.aload_n 0, 1) := by decide +kernel
theorem dX0_paidUnnamed_1 : decode cX0_paidUnnamed 1 = .ok (.aload_n 0, 1) := by decide +kernel
theorem dX0_paidUnnamed_2 : decode cX0_paidUnnamed 2 = .ok (.getfield 9, 3) := by decide +kernel
theorem dX0_paidUnnamed_5 : decode cX0_paidUnnamed 5 = .ok (.iconst 2, 1) := by decide +kernel
theorem dX0_paidUnnamed_6 : decode cX0_paidUnnamed 6 = .ok (.iaload, 1) := by decide +kernel
theorem dX0_paidUnnamed_7 : decode cX0_paidUnnamed 7 = .ok (.invokevirtual 21, 3) := by decide +kernel
theorem dX0_paidUnnamed_10 : decode cX0_paidUnnamed 10 = .ok (.aload_n 0, 1) := by decide +kernel
theorem dX0_paidUnnamed_11 : decode cX0_paidUnnamed 11 = .ok (.getfield 9, 3) := by decide +kernel
theorem dX0_paidUnnamed_14 : decode cX0_paidUnnamed 14 = .ok (.iconst 3, 1) := by decide +kernel
theorem dX0_paidUnnamed_15 : decode cX0_paidUnnamed 15 = .ok (.iaload, 1) := by decide +kernel
theorem dX0_paidUnnamed_16 : decode cX0_paidUnnamed 16 = .ok (.iadd, 1) := by decide +kernel
theorem dX0_paidUnnamed_17 : decode cX0_paidUnnamed 17 = .ok (.ireturn, 1) := by decide +kernel
theorem dX0_turns_0 : decode cX0_turns 0 = .ok (.aload_n 0, 1) := by decide +kernel
theorem dX0_turns_1 : decode cX0_turns 1 = .ok (.getfield 9, 3) := by decide +kernel
theorem dX0_turns_4 : decode cX0_turns 4 = .ok (.iconst 2, 1) := by decide +kernel
theorem dX0_turns_5 : decode cX0_turns 5 = .ok (.iaload, 1) := by decide +kernel
theorem dX0_turns_6 : decode cX0_turns 6 = .ok (.aload_n 0, 1) := by decide +kernel
theorem dX0_turns_7 : decode cX0_turns 7 = .ok (.getfield 9, 3) := by decide +kernel
theorem dX0_turns_10 : decode cX0_turns 10 = .ok (.iconst 4, 1) := by decide +kernel
theorem dX0_turns_11 : decode cX0_turns 11 = .ok (.iaload, 1) := by decide +kernel
theorem dX0_turns_12 : decode cX0_turns 12 = .ok (.imul, 1) := by decide +kernel
theorem dX0_turns_13 : decode cX0_turns 13 = .ok (.ireturn, 1) := by decide +kernel
theorem dX0_nightOf_0 : decode cX0_nightOf 0 = .ok (.aload_n 0, 1) := by decide +kernel
theorem dX0_nightOf_1 : decode cX0_nightOf 1 = .ok (.getfield 9, 3) := by decide +kernel
theorem dX0_nightOf_4 : decode cX0_nightOf 4 = .ok (.iconst 4, 1) := by decide +kernel
theorem dX0_nightOf_5 : decode cX0_nightOf 5 = .ok (.iaload, 1) := by decide +kernel
theorem dX0_nightOf_6 : decode cX0_nightOf 6 = .ok (.iconst 1, 1) := by decide +kernel
theorem dX0_nightOf_7 : decode cX0_nightOf 7 = .ok (.if_icmp .ge 7, 3) := by decide +kernel
theorem dX0_nightOf_10 : decode cX0_nightOf 10 = .ok (.iload_n 1, 1) := by decide +kernel
theorem dX0_nightOf_11 : decode cX0_nightOf 11 = .ok (.goto 11, 3) := by decide +kernel
theorem dX0_nightOf_14 : decode cX0_nightOf 14 = .ok (.iload_n 1, 1) := by decide +kernel
theorem dX0_nightOf_15 : decode cX0_nightOf 15 = .ok (.aload_n 0, 1) := by decide +kernel
theorem dX0_nightOf_16 : decode cX0_nightOf 16 = .ok (.getfield 9, 3) := by decide +kernel
theorem dX0_nightOf_19 : decode cX0_nightOf 19 = .ok (.iconst 4, 1) := by decide +kernel
theorem dX0_nightOf_20 : decode cX0_nightOf 20 = .ok (.iaload, 1) := by decide +kernel
theorem dX0_nightOf_21 : decode cX0_nightOf 21 = .ok (.idiv, 1) := by decide +kernel
theorem dX0_nightOf_22 : decode cX0_nightOf 22 = .ok (.ireturn, 1) := by decide +kernel
theorem dX0_paidAt_0 : decode cX0_paidAt 0 = .ok (.iload_n 1, 1) := by decide +kernel
theorem dX0_paidAt_1 : decode cX0_paidAt 1 = .ok (.ifCond .lt 30, 3) := by decide +kernel
theorem dX0_paidAt_4 : decode cX0_paidAt 4 = .ok (.iload_n 1, 1) := by decide +kernel
theorem dX0_paidAt_5 : decode cX0_paidAt 5 = .ok (.aload_n 0, 1) := by decide +kernel
theorem dX0_paidAt_6 : decode cX0_paidAt 6 = .ok (.invokevirtual 25, 3) := by decide +kernel
theorem dX0_paidAt_9 : decode cX0_paidAt 9 = .ok (.if_icmp .ge 22, 3) := by decide +kernel
theorem dX0_paidAt_12 : decode cX0_paidAt 12 = .ok (.aload_n 0, 1) := by decide +kernel
theorem dX0_paidAt_13 : decode cX0_paidAt 13 = .ok (.aload_n 0, 1) := by decide +kernel
theorem dX0_paidAt_14 : decode cX0_paidAt 14 = .ok (.iload_n 1, 1) := by decide +kernel
theorem dX0_paidAt_15 : decode cX0_paidAt 15 = .ok (.invokevirtual 29, 3) := by decide +kernel
theorem dX0_paidAt_18 : decode cX0_paidAt 18 = .ok (.invokevirtual 21, 3) := by decide +kernel
theorem dX0_paidAt_21 : decode cX0_paidAt 21 = .ok (.aload_n 0, 1) := by decide +kernel
theorem dX0_paidAt_22 : decode cX0_paidAt 22 = .ok (.getfield 9, 3) := by decide +kernel
theorem dX0_paidAt_25 : decode cX0_paidAt 25 = .ok (.iconst 1, 1) := by decide +kernel
theorem dX0_paidAt_26 : decode cX0_paidAt 26 = .ok (.iaload, 1) := by decide +kernel
theorem dX0_paidAt_27 : decode cX0_paidAt 27 = .ok (.iload_n 1, 1) := by decide +kernel
theorem dX0_paidAt_28 : decode cX0_paidAt 28 = .ok (.imul, 1) := by decide +kernel
theorem dX0_paidAt_29 : decode cX0_paidAt 29 = .ok (.iadd, 1) := by decide +kernel
theorem dX0_paidAt_30 : decode cX0_paidAt 30 = .ok (.ireturn, 1) := by decide +kernel
theorem dX0_paidAt_31 : decode cX0_paidAt 31 = .ok (.aload_n 0, 1) := by decide +kernel
theorem dX0_paidAt_32 : decode cX0_paidAt 32 = .ok (.invokevirtual 32, 3) := by decide +kernel
theorem dX0_paidAt_35 : decode cX0_paidAt 35 = .ok (.aload_n 0, 1) := by decide +kernel
theorem dX0_paidAt_36 : decode cX0_paidAt 36 = .ok (.getfield 9, 3) := by decide +kernel
theorem dX0_paidAt_39 : decode cX0_paidAt 39 = .ok (.iconst 1, 1) := by decide +kernel
theorem dX0_paidAt_40 : decode cX0_paidAt 40 = .ok (.iaload, 1) := by decide +kernel
theorem dX0_paidAt_41 : decode cX0_paidAt 41 = .ok (.iload_n 2, 1) := by decide +kernel
theorem dX0_paidAt_42 : decode cX0_paidAt 42 = .ok (.aload_n 0, 1) := by decide +kernel
theorem dX0_paidAt_43 : decode cX0_paidAt 43 = .ok (.invokevirtual 25, 3) := by decide +kernel
theorem dX0_paidAt_46 : decode cX0_paidAt 46 = .ok (.invokestatic 35, 3) := by decide +kernel
theorem dX0_paidAt_49 : decode cX0_paidAt 49 = .ok (.imul, 1) := by decide +kernel
theorem dX0_paidAt_50 : decode cX0_paidAt 50 = .ok (.iadd, 1) := by decide +kernel
theorem dX0_paidAt_51 : decode cX0_paidAt 51 = .ok (.ireturn, 1) := by decide +kernel
theorem dX1_init_0 : decode cX1_init 0 = .ok (.aload_n 0, 1) := by decide +kernel
theorem dX1_init_1 : decode cX1_init 1 = .ok (.invokespecial 3, 3) := by decide +kernel
theorem dX1_init_4 : decode cX1_init 4 = .ok (.aload_n 0, 1) := by decide +kernel
theorem dX1_init_5 : decode cX1_init 5 = .ok (.bipush 6, 2) := by decide +kernel
theorem dX1_init_7 : decode cX1_init 7 = .ok (.newarray .int, 2) := by decide +kernel
theorem dX1_init_9 : decode cX1_init 9 = .ok (.putfield 9, 3) := by decide +kernel
theorem dX1_init_12 : decode cX1_init 12 = .ok (.aload_n 0, 1) := by decide +kernel
theorem dX1_init_13 : decode cX1_init 13 = .ok (.bipush 10, 2) := by decide +kernel
theorem dX1_init_15 : decode cX1_init 15 = .ok (.newarray .int, 2) := by decide +kernel
theorem dX1_init_17 : decode cX1_init 17 = .ok (.putfield 15, 3) := by decide +kernel
theorem dX1_init_20 : decode cX1_init 20 = .ok (.return_, 1) := by decide +kernel
theorem dX1_update_0 : decode cX1_update 0 = .ok (.aload_n 0, 1) := by decide +kernel
theorem dX1_update_1 : decode cX1_update 1 = .ok (.getfield 9, 3) := by decide +kernel
theorem dX1_update_4 : decode cX1_update 4 = .ok (.iconst 0, 1) := by decide +kernel
theorem dX1_update_5 : decode cX1_update 5 = .ok (.invokestatic 18, 3) := by decide +kernel
theorem dX1_update_8 : decode cX1_update 8 = .ok (.aload_n 0, 1) := by decide +kernel
theorem dX1_update_9 : decode cX1_update 9 = .ok (.aload_n 2, 1) := by decide +kernel
theorem dX1_update_10 : decode cX1_update 10 = .ok (.invokevirtual 24, 3) := by decide +kernel
theorem dX1_update_13 : decode cX1_update 13 = .ok (.putfield 30, 3) := by decide +kernel
theorem dX1_update_16 : decode cX1_update 16 = .ok (.aload_n 0, 1) := by decide +kernel
theorem dX1_update_17 : decode cX1_update 17 = .ok (.iconst 0, 1) := by decide +kernel
theorem dX1_update_18 : decode cX1_update 18 = .ok (.putfield 34, 3) := by decide +kernel
theorem dX1_update_21 : decode cX1_update 21 = .ok (.iconst 0, 1) := by decide +kernel
theorem dX1_update_22 : decode cX1_update 22 = .ok (.istore 4, 2) := by decide +kernel
theorem dX1_update_24 : decode cX1_update 24 = .ok (.iload 4, 2) := by decide +kernel
theorem dX1_update_26 : decode cX1_update 26 = .ok (.aload_n 1, 1) := by decide +kernel
theorem dX1_update_27 : decode cX1_update 27 = .ok (.invokevirtual 37, 3) := by decide +kernel
theorem dX1_update_30 : decode cX1_update 30 = .ok (.if_icmp .ge 76, 3) := by decide +kernel
theorem dX1_update_33 : decode cX1_update 33 = .ok (.aload_n 3, 1) := by decide +kernel
theorem dX1_update_34 : decode cX1_update 34 = .ok (.aload_n 1, 1) := by decide +kernel
theorem dX1_update_35 : decode cX1_update 35 = .ok (.iload 4, 2) := by decide +kernel
theorem dX1_update_37 : decode cX1_update 37 = .ok (.invokevirtual 40, 3) := by decide +kernel
theorem dX1_update_40 : decode cX1_update 40 = .ok (.ifCond .eq 16, 3) := by decide +kernel
theorem dX1_update_43 : decode cX1_update 43 = .ok (.aload_n 0, 1) := by decide +kernel
theorem dX1_update_44 : decode cX1_update 44 = .ok (.dup, 1) := by decide +kernel
theorem dX1_update_45 : decode cX1_update 45 = .ok (.getfield 34, 3) := by decide +kernel
theorem dX1_update_48 : decode cX1_update 48 = .ok (.iconst 1, 1) := by decide +kernel
theorem dX1_update_49 : decode cX1_update 49 = .ok (.iload 4, 2) := by decide +kernel
theorem dX1_update_51 : decode cX1_update 51 = .ok (.ishl, 1) := by decide +kernel
theorem dX1_update_52 : decode cX1_update 52 = .ok (.ior, 1) := by decide +kernel
theorem dX1_update_53 : decode cX1_update 53 = .ok (.putfield 34, 3) := by decide +kernel
theorem dX1_update_56 : decode cX1_update 56 = .ok (.iconst 0, 1) := by decide +kernel
theorem dX1_update_57 : decode cX1_update 57 = .ok (.istore 5, 2) := by decide +kernel
theorem dX1_update_59 : decode cX1_update 59 = .ok (.iload 5, 2) := by decide +kernel
theorem dX1_update_61 : decode cX1_update 61 = .ok (.aload_n 0, 1) := by decide +kernel
theorem dX1_update_62 : decode cX1_update 62 = .ok (.getfield 30, 3) := by decide +kernel
theorem dX1_update_65 : decode cX1_update 65 = .ok (.if_icmp .ge 35, 3) := by decide +kernel
theorem dX1_update_68 : decode cX1_update 68 = .ok (.aload_n 2, 1) := by decide +kernel
theorem dX1_update_69 : decode cX1_update 69 = .ok (.iload 5, 2) := by decide +kernel
theorem dX1_update_71 : decode cX1_update 71 = .ok (.aload_n 1, 1) := by decide +kernel
theorem dX1_update_72 : decode cX1_update 72 = .ok (.iload 4, 2) := by decide +kernel
theorem dX1_update_74 : decode cX1_update 74 = .ok (.invokevirtual 46, 3) := by decide +kernel
theorem dX1_update_77 : decode cX1_update 77 = .ok (.ifCond .eq 17, 3) := by decide +kernel
theorem dX1_update_80 : decode cX1_update 80 = .ok (.aload_n 0, 1) := by decide +kernel
theorem dX1_update_81 : decode cX1_update 81 = .ok (.getfield 9, 3) := by decide +kernel
theorem dX1_update_84 : decode cX1_update 84 = .ok (.iload 5, 2) := by decide +kernel
theorem dX1_update_86 : decode cX1_update 86 = .ok (.dup2, 1) := by decide +kernel
theorem dX1_update_87 : decode cX1_update 87 = .ok (.iaload, 1) := by decide +kernel
theorem dX1_update_88 : decode cX1_update 88 = .ok (.iconst 1, 1) := by decide +kernel
theorem dX1_update_89 : decode cX1_update 89 = .ok (.iload 4, 2) := by decide +kernel
theorem dX1_update_91 : decode cX1_update 91 = .ok (.ishl, 1) := by decide +kernel
theorem dX1_update_92 : decode cX1_update 92 = .ok (.ior, 1) := by decide +kernel
theorem dX1_update_93 : decode cX1_update 93 = .ok (.iastore, 1) := by decide +kernel
theorem dX1_update_94 : decode cX1_update 94 = .ok (.iinc 5 1, 3) := by decide +kernel
theorem dX1_update_97 : decode cX1_update 97 = .ok (.goto (-38), 3) := by decide +kernel
theorem dX1_update_100 : decode cX1_update 100 = .ok (.iinc 4 1, 3) := by decide +kernel
theorem dX1_update_103 : decode cX1_update 103 = .ok (.goto (-79), 3) := by decide +kernel
theorem dX1_update_106 : decode cX1_update 106 = .ok (.aload_n 0, 1) := by decide +kernel
theorem dX1_update_107 : decode cX1_update 107 = .ok (.aload_n 0, 1) := by decide +kernel
theorem dX1_update_108 : decode cX1_update 108 = .ok (.bipush 63, 2) := by decide +kernel
theorem dX1_update_110 : decode cX1_update 110 = .ok (.invokevirtual 49, 3) := by decide +kernel
theorem dX1_update_113 : decode cX1_update 113 = .ok (.putfield 53, 3) := by decide +kernel
theorem dX1_update_116 : decode cX1_update 116 = .ok (.aload_n 0, 1) := by decide +kernel
theorem dX1_update_117 : decode cX1_update 117 = .ok (.aload_n 1, 1) := by decide +kernel
theorem dX1_update_118 : decode cX1_update 118 = .ok (.invokevirtual 56, 3) := by decide +kernel
theorem dX1_update_121 : decode cX1_update 121 = .ok (.return_, 1) := by decide +kernel
theorem dX1_order_0 : decode cX1_order 0 = .ok (.aload_n 0, 1) := by decide +kernel
theorem dX1_order_1 : decode cX1_order 1 = .ok (.iconst 0, 1) := by decide +kernel
theorem dX1_order_2 : decode cX1_order 2 = .ok (.putfield 60, 3) := by decide +kernel
theorem dX1_order_5 : decode cX1_order 5 = .ok (.bipush 9, 2) := by decide +kernel
theorem dX1_order_7 : decode cX1_order 7 = .ok (.istore_n 2, 1) := by decide +kernel
theorem dX1_order_8 : decode cX1_order 8 = .ok (.iload_n 2, 1) := by decide +kernel
theorem dX1_order_9 : decode cX1_order 9 = .ok (.iconst 1, 1) := by decide +kernel
theorem dX1_order_10 : decode cX1_order 10 = .ok (.if_icmp .lt 74, 3) := by decide +kernel
theorem dX1_order_13 : decode cX1_order 13 = .ok (.iconst 0, 1) := by decide +kernel
theorem dX1_order_14 : decode cX1_order 14 = .ok (.istore_n 3, 1) := by decide +kernel
theorem dX1_order_15 : decode cX1_order 15 = .ok (.iload_n 3, 1) := by decide +kernel
theorem dX1_order_16 : decode cX1_order 16 = .ok (.aload_n 1, 1) := by decide +kernel
theorem dX1_order_17 : decode cX1_order 17 = .ok (.invokevirtual 37, 3) := by decide +kernel
theorem dX1_order_20 : decode cX1_order 20 = .ok (.if_icmp .ge 58, 3) := by decide +kernel
theorem dX1_order_23 : decode cX1_order 23 = .ok (.aload_n 0, 1) := by decide +kernel
theorem dX1_order_24 : decode cX1_order 24 = .ok (.getfield 53, 3) := by decide +kernel
theorem dX1_order_27 : decode cX1_order 27 = .ok (.iconst 1, 1) := by decide +kernel
theorem dX1_order_28 : decode cX1_order 28 = .ok (.iload_n 3, 1) := by decide +kernel
theorem dX1_order_29 : decode cX1_order 29 = .ok (.ishl, 1) := by decide +kernel
theorem dX1_order_30 : decode cX1_order 30 = .ok (.iand, 1) := by decide +kernel
theorem dX1_order_31 : decode cX1_order 31 = .ok (.ifCond .eq 41, 3) := by decide +kernel
theorem dX1_order_34 : decode cX1_order 34 = .ok (.aload_n 1, 1) := by decide +kernel
theorem dX1_order_35 : decode cX1_order 35 = .ok (.iload_n 3, 1) := by decide +kernel
theorem dX1_order_36 : decode cX1_order 36 = .ok (.invokevirtual 63, 3) := by decide +kernel
theorem dX1_order_39 : decode cX1_order 39 = .ok (.iload_n 2, 1) := by decide +kernel
theorem dX1_order_40 : decode cX1_order 40 = .ok (.if_icmp .ne 32, 3) := by decide +kernel
theorem dX1_order_43 : decode cX1_order 43 = .ok (.aload_n 0, 1) := by decide +kernel
theorem dX1_order_44 : decode cX1_order 44 = .ok (.getfield 60, 3) := by decide +kernel
theorem dX1_order_47 : decode cX1_order 47 = .ok (.bipush 10, 2) := by decide +kernel
theorem dX1_order_49 : decode cX1_order 49 = .ok (.if_icmp .ge 23, 3) := by decide +kernel
theorem dX1_order_52 : decode cX1_order 52 = .ok (.aload_n 0, 1) := by decide +kernel
theorem dX1_order_53 : decode cX1_order 53 = .ok (.getfield 15, 3) := by decide +kernel
theorem dX1_order_56 : decode cX1_order 56 = .ok (.aload_n 0, 1) := by decide +kernel
theorem dX1_order_57 : decode cX1_order 57 = .ok (.getfield 60, 3) := by decide +kernel
theorem dX1_order_60 : decode cX1_order 60 = .ok (.iload_n 3, 1) := by decide +kernel
theorem dX1_order_61 : decode cX1_order 61 = .ok (.iastore, 1) := by decide +kernel
theorem dX1_order_62 : decode cX1_order 62 = .ok (.aload_n 0, 1) := by decide +kernel
theorem dX1_order_63 : decode cX1_order 63 = .ok (.dup, 1) := by decide +kernel
theorem dX1_order_64 : decode cX1_order 64 = .ok (.getfield 60, 3) := by decide +kernel
theorem dX1_order_67 : decode cX1_order 67 = .ok (.iconst 1, 1) := by decide +kernel
theorem dX1_order_68 : decode cX1_order 68 = .ok (.iadd, 1) := by decide +kernel
theorem dX1_order_69 : decode cX1_order 69 = .ok (.putfield 60, 3) := by decide +kernel
theorem dX1_order_72 : decode cX1_order 72 = .ok (.iinc 3 1, 3) := by decide +kernel
theorem dX1_order_75 : decode cX1_order 75 = .ok (.goto (-60), 3) := by decide +kernel
theorem dX1_order_78 : decode cX1_order 78 = .ok (.iinc 2 (-1), 3) := by decide +kernel
theorem dX1_order_81 : decode cX1_order 81 = .ok (.goto (-73), 3) := by decide +kernel
theorem dX1_order_84 : decode cX1_order 84 = .ok (.return_, 1) := by decide +kernel
theorem dX1_byAll_0 : decode cX1_byAll 0 = .ok (.aload_n 0, 1) := by decide +kernel
theorem dX1_byAll_1 : decode cX1_byAll 1 = .ok (.getfield 53, 3) := by decide +kernel
theorem dX1_byAll_4 : decode cX1_byAll 4 = .ok (.ireturn, 1) := by decide +kernel
theorem dX1_byPiece_0 : decode cX1_byPiece 0 = .ok (.iload_n 1, 1) := by decide +kernel
theorem dX1_byPiece_1 : decode cX1_byPiece 1 = .ok (.ifCond .lt 20, 3) := by decide +kernel
theorem dX1_byPiece_4 : decode cX1_byPiece 4 = .ok (.iload_n 1, 1) := by decide +kernel
theorem dX1_byPiece_5 : decode cX1_byPiece 5 = .ok (.aload_n 0, 1) := by decide +kernel
theorem dX1_byPiece_6 : decode cX1_byPiece 6 = .ok (.getfield 30, 3) := by decide +kernel
theorem dX1_byPiece_9 : decode cX1_byPiece 9 = .ok (.if_icmp .ge 12, 3) := by decide +kernel
theorem dX1_byPiece_12 : decode cX1_byPiece 12 = .ok (.aload_n 0, 1) := by decide +kernel
theorem dX1_byPiece_13 : decode cX1_byPiece 13 = .ok (.getfield 9, 3) := by decide +kernel
theorem dX1_byPiece_16 : decode cX1_byPiece 16 = .ok (.iload_n 1, 1) := by decide +kernel
theorem dX1_byPiece_17 : decode cX1_byPiece 17 = .ok (.iaload, 1) := by decide +kernel
theorem dX1_byPiece_18 : decode cX1_byPiece 18 = .ok (.goto 4, 3) := by decide +kernel
theorem dX1_byPiece_21 : decode cX1_byPiece 21 = .ok (.iconst 0, 1) := by decide +kernel
theorem dX1_byPiece_22 : decode cX1_byPiece 22 = .ok (.ireturn, 1) := by decide +kernel
theorem dX1_by_0 : decode cX1_by 0 = .ok (.aload_n 0, 1) := by decide +kernel
theorem dX1_by_1 : decode cX1_by 1 = .ok (.getfield 34, 3) := by decide +kernel
theorem dX1_by_4 : decode cX1_by 4 = .ok (.istore_n 2, 1) := by decide +kernel
theorem dX1_by_5 : decode cX1_by 5 = .ok (.iconst 0, 1) := by decide +kernel
theorem dX1_by_6 : decode cX1_by 6 = .ok (.istore_n 3, 1) := by decide +kernel
theorem dX1_by_7 : decode cX1_by 7 = .ok (.iload_n 3, 1) := by decide +kernel
theorem dX1_by_8 : decode cX1_by 8 = .ok (.aload_n 0, 1) := by decide +kernel
theorem dX1_by_9 : decode cX1_by 9 = .ok (.getfield 30, 3) := by decide +kernel
theorem dX1_by_12 : decode cX1_by 12 = .ok (.if_icmp .ge 26, 3) := by decide +kernel
theorem dX1_by_15 : decode cX1_by 15 = .ok (.iload_n 1, 1) := by decide +kernel
theorem dX1_by_16 : decode cX1_by 16 = .ok (.iconst 1, 1) := by decide +kernel
theorem dX1_by_17 : decode cX1_by 17 = .ok (.iload_n 3, 1) := by decide +kernel
theorem dX1_by_18 : decode cX1_by 18 = .ok (.ishl, 1) := by decide +kernel
theorem dX1_by_19 : decode cX1_by 19 = .ok (.iand, 1) := by decide +kernel
theorem dX1_by_20 : decode cX1_by 20 = .ok (.ifCond .eq 12, 3) := by decide +kernel
theorem dX1_by_23 : decode cX1_by 23 = .ok (.iload_n 2, 1) := by decide +kernel
theorem dX1_by_24 : decode cX1_by 24 = .ok (.aload_n 0, 1) := by decide +kernel
theorem dX1_by_25 : decode cX1_by 25 = .ok (.getfield 9, 3) := by decide +kernel
theorem dX1_by_28 : decode cX1_by 28 = .ok (.iload_n 3, 1) := by decide +kernel
theorem dX1_by_29 : decode cX1_by 29 = .ok (.iaload, 1) := by decide +kernel
theorem dX1_by_30 : decode cX1_by 30 = .ok (.iand, 1) := by decide +kernel
theorem dX1_by_31 : decode cX1_by 31 = .ok (.istore_n 2, 1) := by decide +kernel
theorem dX1_by_32 : decode cX1_by 32 = .ok (.iinc 3 1, 3) := by decide +kernel
theorem dX1_by_35 : decode cX1_by 35 = .ok (.goto (-28), 3) := by decide +kernel
theorem dX1_by_38 : decode cX1_by 38 = .ok (.iload_n 2, 1) := by decide +kernel
theorem dX1_by_39 : decode cX1_by 39 = .ok (.ireturn, 1) := by decide +kernel
theorem dX1_fewestPieces_0 : decode cX1_fewestPieces 0 = .ok (.iconst 1, 1) := by decide +kernel
theorem dX1_fewestPieces_1 : decode cX1_fewestPieces 1 = .ok (.aload_n 0, 1) := by decide +kernel
theorem dX1_fewestPieces_2 : decode cX1_fewestPieces 2 = .ok (.getfield 30, 3) := by decide +kernel
theorem dX1_fewestPieces_5 : decode cX1_fewestPieces 5 = .ok (.ishl, 1) := by decide +kernel
theorem dX1_fewestPieces_6 : decode cX1_fewestPieces 6 = .ok (.iconst 1, 1) := by decide +kernel
theorem dX1_fewestPieces_7 : decode cX1_fewestPieces 7 = .ok (.isub, 1) := by decide +kernel
theorem dX1_fewestPieces_8 : decode cX1_fewestPieces 8 = .ok (.istore_n 1, 1) := by decide +kernel
theorem dX1_fewestPieces_9 : decode cX1_fewestPieces 9 = .ok (.iload_n 1, 1) := by decide +kernel
theorem dX1_fewestPieces_10 : decode cX1_fewestPieces 10 = .ok (.istore_n 2, 1) := by decide +kernel
theorem dX1_fewestPieces_11 : decode cX1_fewestPieces 11 = .ok (.iconst 0, 1) := by decide +kernel
theorem dX1_fewestPieces_12 : decode cX1_fewestPieces 12 = .ok (.istore_n 3, 1) := by decide +kernel
theorem dX1_fewestPieces_13 : decode cX1_fewestPieces 13 = .ok (.iload_n 3, 1) := by decide +kernel
theorem dX1_fewestPieces_14 : decode cX1_fewestPieces 14 = .ok (.iload_n 1, 1) := by decide +kernel
theorem dX1_fewestPieces_15 : decode cX1_fewestPieces 15 = .ok (.if_icmp .ge 34, 3) := by decide +kernel
theorem dX1_fewestPieces_18 : decode cX1_fewestPieces 18 = .ok (.iload_n 3, 1) := by decide +kernel
theorem dX1_fewestPieces_19 : decode cX1_fewestPieces 19 = .ok (.invokestatic 66, 3) := by decide +kernel
theorem dX1_fewestPieces_22 : decode cX1_fewestPieces 22 = .ok (.iload_n 2, 1) := by decide +kernel
theorem dX1_fewestPieces_23 : decode cX1_fewestPieces 23 = .ok (.invokestatic 66, 3) := by decide +kernel
theorem dX1_fewestPieces_26 : decode cX1_fewestPieces 26 = .ok (.if_icmp .ge 17, 3) := by decide +kernel
theorem dX1_fewestPieces_29 : decode cX1_fewestPieces 29 = .ok (.aload_n 0, 1) := by decide +kernel
theorem dX1_fewestPieces_30 : decode cX1_fewestPieces 30 = .ok (.iload_n 3, 1) := by decide +kernel
theorem dX1_fewestPieces_31 : decode cX1_fewestPieces 31 = .ok (.invokevirtual 49, 3) := by decide +kernel
theorem dX1_fewestPieces_34 : decode cX1_fewestPieces 34 = .ok (.aload_n 0, 1) := by decide +kernel
theorem dX1_fewestPieces_35 : decode cX1_fewestPieces 35 = .ok (.getfield 53, 3) := by decide +kernel
theorem dX1_fewestPieces_38 : decode cX1_fewestPieces 38 = .ok (.if_icmp .ne 5, 3) := by decide +kernel
theorem dX1_fewestPieces_41 : decode cX1_fewestPieces 41 = .ok (.iload_n 3, 1) := by decide +kernel
theorem dX1_fewestPieces_42 : decode cX1_fewestPieces 42 = .ok (.istore_n 2, 1) := by decide +kernel
theorem dX1_fewestPieces_43 : decode cX1_fewestPieces 43 = .ok (.iinc 3 1, 3) := by decide +kernel
theorem dX1_fewestPieces_46 : decode cX1_fewestPieces 46 = .ok (.goto (-33), 3) := by decide +kernel
theorem dX1_fewestPieces_49 : decode cX1_fewestPieces 49 = .ok (.iload_n 2, 1) := by decide +kernel
theorem dX1_fewestPieces_50 : decode cX1_fewestPieces 50 = .ok (.ireturn, 1) := by decide +kernel
theorem dX1_rowSize_0 : decode cX1_rowSize 0 = .ok (.aload_n 0, 1) := by decide +kernel
theorem dX1_rowSize_1 : decode cX1_rowSize 1 = .ok (.getfield 60, 3) := by decide +kernel
theorem dX1_rowSize_4 : decode cX1_rowSize 4 = .ok (.ireturn, 1) := by decide +kernel
theorem dX1_inRow_0 : decode cX1_inRow 0 = .ok (.iload_n 1, 1) := by decide +kernel
theorem dX1_inRow_1 : decode cX1_inRow 1 = .ok (.ifCond .lt 20, 3) := by decide +kernel
theorem dX1_inRow_4 : decode cX1_inRow 4 = .ok (.iload_n 1, 1) := by decide +kernel
theorem dX1_inRow_5 : decode cX1_inRow 5 = .ok (.aload_n 0, 1) := by decide +kernel
theorem dX1_inRow_6 : decode cX1_inRow 6 = .ok (.getfield 60, 3) := by decide +kernel
theorem dX1_inRow_9 : decode cX1_inRow 9 = .ok (.if_icmp .ge 12, 3) := by decide +kernel
theorem dX1_inRow_12 : decode cX1_inRow 12 = .ok (.aload_n 0, 1) := by decide +kernel
theorem dX1_inRow_13 : decode cX1_inRow 13 = .ok (.getfield 15, 3) := by decide +kernel
theorem dX1_inRow_16 : decode cX1_inRow 16 = .ok (.iload_n 1, 1) := by decide +kernel
theorem dX1_inRow_17 : decode cX1_inRow 17 = .ok (.iaload, 1) := by decide +kernel
theorem dX1_inRow_18 : decode cX1_inRow 18 = .ok (.goto 4, 3) := by decide +kernel
theorem dX1_inRow_21 : decode cX1_inRow 21 = .ok (.iconst (-1), 1) := by decide +kernel
theorem dX1_inRow_22 : decode cX1_inRow 22 = .ok (.ireturn, 1) := by decide +kernel
theorem dX2_init_0 : decode cX2_init 0 = .ok (.aload_n 0, 1) := by decide +kernel
theorem dX2_init_1 : decode cX2_init 1 = .ok (.invokespecial 3, 3) := by decide +kernel
theorem dX2_init_4 : decode cX2_init 4 = .ok (.aload_n 0, 1) := by decide +kernel
theorem dX2_init_5 : decode cX2_init 5 = .ok (.bipush 12, 2) := by decide +kernel
theorem dX2_init_7 : decode cX2_init 7 = .ok (.newarray .int, 2) := by decide +kernel
theorem dX2_init_9 : decode cX2_init 9 = .ok (.putfield 9, 3) := by decide +kernel
theorem dX2_init_12 : decode cX2_init 12 = .ok (.return_, 1) := by decide +kernel
theorem dX2_size_0 : decode cX2_size 0 = .ok (.aload_n 0, 1) := by decide +kernel
theorem dX2_size_1 : decode cX2_size 1 = .ok (.getfield 15, 3) := by decide +kernel
theorem dX2_size_4 : decode cX2_size 4 = .ok (.ireturn, 1) := by decide +kernel
theorem dX2_isFull_0 : decode cX2_isFull 0 = .ok (.aload_n 0, 1) := by decide +kernel
theorem dX2_isFull_1 : decode cX2_isFull 1 = .ok (.getfield 15, 3) := by decide +kernel
theorem dX2_isFull_4 : decode cX2_isFull 4 = .ok (.bipush 12, 2) := by decide +kernel
theorem dX2_isFull_6 : decode cX2_isFull 6 = .ok (.if_icmp .lt 7, 3) := by decide +kernel
theorem dX2_isFull_9 : decode cX2_isFull 9 = .ok (.iconst 1, 1) := by decide +kernel
theorem dX2_isFull_10 : decode cX2_isFull 10 = .ok (.goto 4, 3) := by decide +kernel
theorem dX2_isFull_13 : decode cX2_isFull 13 = .ok (.iconst 0, 1) := by decide +kernel
theorem dX2_isFull_14 : decode cX2_isFull 14 = .ok (.ireturn, 1) := by decide +kernel
theorem dX2_append_0 : decode cX2_append 0 = .ok (.aload_n 0, 1) := by decide +kernel
theorem dX2_append_1 : decode cX2_append 1 = .ok (.getfield 15, 3) := by decide +kernel
theorem dX2_append_4 : decode cX2_append 4 = .ok (.ifCond .lt 32, 3) := by decide +kernel
theorem dX2_append_7 : decode cX2_append 7 = .ok (.aload_n 0, 1) := by decide +kernel
theorem dX2_append_8 : decode cX2_append 8 = .ok (.getfield 15, 3) := by decide +kernel
theorem dX2_append_11 : decode cX2_append 11 = .ok (.bipush 12, 2) := by decide +kernel
theorem dX2_append_13 : decode cX2_append 13 = .ok (.if_icmp .ge 23, 3) := by decide +kernel
theorem dX2_append_16 : decode cX2_append 16 = .ok (.aload_n 0, 1) := by decide +kernel
theorem dX2_append_17 : decode cX2_append 17 = .ok (.getfield 9, 3) := by decide +kernel
theorem dX2_append_20 : decode cX2_append 20 = .ok (.aload_n 0, 1) := by decide +kernel
theorem dX2_append_21 : decode cX2_append 21 = .ok (.getfield 15, 3) := by decide +kernel
theorem dX2_append_24 : decode cX2_append 24 = .ok (.iload_n 1, 1) := by decide +kernel
theorem dX2_append_25 : decode cX2_append 25 = .ok (.iastore, 1) := by decide +kernel
theorem dX2_append_26 : decode cX2_append 26 = .ok (.aload_n 0, 1) := by decide +kernel
theorem dX2_append_27 : decode cX2_append 27 = .ok (.dup, 1) := by decide +kernel
theorem dX2_append_28 : decode cX2_append 28 = .ok (.getfield 15, 3) := by decide +kernel
theorem dX2_append_31 : decode cX2_append 31 = .ok (.iconst 1, 1) := by decide +kernel
theorem dX2_append_32 : decode cX2_append 32 = .ok (.iadd, 1) := by decide +kernel
theorem dX2_append_33 : decode cX2_append 33 = .ok (.putfield 15, 3) := by decide +kernel
theorem dX2_append_36 : decode cX2_append 36 = .ok (.return_, 1) := by decide +kernel
theorem dX2_dropLast_0 : decode cX2_dropLast 0 = .ok (.aload_n 0, 1) := by decide +kernel
theorem dX2_dropLast_1 : decode cX2_dropLast 1 = .ok (.getfield 15, 3) := by decide +kernel
theorem dX2_dropLast_4 : decode cX2_dropLast 4 = .ok (.ifCond .le 13, 3) := by decide +kernel
theorem dX2_dropLast_7 : decode cX2_dropLast 7 = .ok (.aload_n 0, 1) := by decide +kernel
theorem dX2_dropLast_8 : decode cX2_dropLast 8 = .ok (.dup, 1) := by decide +kernel
theorem dX2_dropLast_9 : decode cX2_dropLast 9 = .ok (.getfield 15, 3) := by decide +kernel
theorem dX2_dropLast_12 : decode cX2_dropLast 12 = .ok (.iconst 1, 1) := by decide +kernel
theorem dX2_dropLast_13 : decode cX2_dropLast 13 = .ok (.isub, 1) := by decide +kernel
theorem dX2_dropLast_14 : decode cX2_dropLast 14 = .ok (.putfield 15, 3) := by decide +kernel
theorem dX2_dropLast_17 : decode cX2_dropLast 17 = .ok (.return_, 1) := by decide +kernel
theorem dX2_empty_0 : decode cX2_empty 0 = .ok (.aload_n 0, 1) := by decide +kernel
theorem dX2_empty_1 : decode cX2_empty 1 = .ok (.iconst 0, 1) := by decide +kernel
theorem dX2_empty_2 : decode cX2_empty 2 = .ok (.putfield 15, 3) := by decide +kernel
theorem dX2_empty_5 : decode cX2_empty 5 = .ok (.return_, 1) := by decide +kernel
theorem dX2_firstTurnOf_0 : decode cX2_firstTurnOf 0 = .ok (.aload_n 0, 1) := by decide +kernel
theorem dX2_firstTurnOf_1 : decode cX2_firstTurnOf 1 = .ok (.getfield 15, 3) := by decide +kernel
theorem dX2_firstTurnOf_4 : decode cX2_firstTurnOf 4 = .ok (.iload_n 2, 1) := by decide +kernel
theorem dX2_firstTurnOf_5 : decode cX2_firstTurnOf 5 = .ok (.invokestatic 19, 3) := by decide +kernel
theorem dX2_firstTurnOf_8 : decode cX2_firstTurnOf 8 = .ok (.istore_n 3, 1) := by decide +kernel
theorem dX2_firstTurnOf_9 : decode cX2_firstTurnOf 9 = .ok (.iconst 0, 1) := by decide +kernel
theorem dX2_firstTurnOf_10 : decode cX2_firstTurnOf 10 = .ok (.istore 4, 2) := by decide +kernel
theorem dX2_firstTurnOf_12 : decode cX2_firstTurnOf 12 = .ok (.iload 4, 2) := by decide +kernel
theorem dX2_firstTurnOf_14 : decode cX2_firstTurnOf 14 = .ok (.iload_n 3, 1) := by decide +kernel
theorem dX2_firstTurnOf_15 : decode cX2_firstTurnOf 15 = .ok (.if_icmp .ge 23, 3) := by decide +kernel
theorem dX2_firstTurnOf_18 : decode cX2_firstTurnOf 18 = .ok (.aload_n 0, 1) := by decide +kernel
theorem dX2_firstTurnOf_19 : decode cX2_firstTurnOf 19 = .ok (.getfield 9, 3) := by decide +kernel
theorem dX2_firstTurnOf_22 : decode cX2_firstTurnOf 22 = .ok (.iload 4, 2) := by decide +kernel
theorem dX2_firstTurnOf_24 : decode cX2_firstTurnOf 24 = .ok (.iaload, 1) := by decide +kernel
theorem dX2_firstTurnOf_25 : decode cX2_firstTurnOf 25 = .ok (.iload_n 1, 1) := by decide +kernel
theorem dX2_firstTurnOf_26 : decode cX2_firstTurnOf 26 = .ok (.if_icmp .ne 6, 3) := by decide +kernel
theorem dX2_firstTurnOf_29 : decode cX2_firstTurnOf 29 = .ok (.iload 4, 2) := by decide +kernel
theorem dX2_firstTurnOf_31 : decode cX2_firstTurnOf 31 = .ok (.ireturn, 1) := by decide +kernel
theorem dX2_firstTurnOf_32 : decode cX2_firstTurnOf 32 = .ok (.iinc 4 1, 3) := by decide +kernel
theorem dX2_firstTurnOf_35 : decode cX2_firstTurnOf 35 = .ok (.goto (-23), 3) := by decide +kernel
theorem dX2_firstTurnOf_38 : decode cX2_firstTurnOf 38 = .ok (.iconst (-1), 1) := by decide +kernel
theorem dX2_firstTurnOf_39 : decode cX2_firstTurnOf 39 = .ok (.ireturn, 1) := by decide +kernel
theorem dX3_init_0 : decode cX3_init 0 = .ok (.aload_n 0, 1) := by decide +kernel
theorem dX3_init_1 : decode cX3_init 1 = .ok (.invokespecial 3, 3) := by decide +kernel
theorem dX3_init_4 : decode cX3_init 4 = .ok (.aload_n 0, 1) := by decide +kernel
theorem dX3_init_5 : decode cX3_init 5 = .ok (.bipush 10, 2) := by decide +kernel
theorem dX3_init_7 : decode cX3_init 7 = .ok (.newarray .int, 2) := by decide +kernel
theorem dX3_init_9 : decode cX3_init 9 = .ok (.putfield 9, 3) := by decide +kernel
theorem dX3_init_12 : decode cX3_init 12 = .ok (.aload_n 0, 1) := by decide +kernel
theorem dX3_init_13 : decode cX3_init 13 = .ok (.bipush 10, 2) := by decide +kernel
theorem dX3_init_15 : decode cX3_init 15 = .ok (.newarray .int, 2) := by decide +kernel
theorem dX3_init_17 : decode cX3_init 17 = .ok (.putfield 15, 3) := by decide +kernel
theorem dX3_init_20 : decode cX3_init 20 = .ok (.aload_n 0, 1) := by decide +kernel
theorem dX3_init_21 : decode cX3_init 21 = .ok (.bipush 60, 2) := by decide +kernel
theorem dX3_init_23 : decode cX3_init 23 = .ok (.newarray .int, 2) := by decide +kernel
theorem dX3_init_25 : decode cX3_init 25 = .ok (.putfield 18, 3) := by decide +kernel
theorem dX3_init_28 : decode cX3_init 28 = .ok (.aload_n 0, 1) := by decide +kernel
theorem dX3_init_29 : decode cX3_init 29 = .ok (.bipush 42, 2) := by decide +kernel
theorem dX3_init_31 : decode cX3_init 31 = .ok (.newarray .int, 2) := by decide +kernel
theorem dX3_init_33 : decode cX3_init 33 = .ok (.putfield 21, 3) := by decide +kernel
theorem dX3_init_36 : decode cX3_init 36 = .ok (.aload_n 0, 1) := by decide +kernel
theorem dX3_init_37 : decode cX3_init 37 = .ok (.sipush 1024, 3) := by decide +kernel
theorem dX3_init_40 : decode cX3_init 40 = .ok (.newarray .int, 2) := by decide +kernel
theorem dX3_init_42 : decode cX3_init 42 = .ok (.putfield 24, 3) := by decide +kernel
theorem dX3_init_45 : decode cX3_init 45 = .ok (.aload_n 0, 1) := by decide +kernel
theorem dX3_init_46 : decode cX3_init 46 = .ok (.iconst (-1), 1) := by decide +kernel
theorem dX3_init_47 : decode cX3_init 47 = .ok (.putfield 27, 3) := by decide +kernel
theorem dX3_init_50 : decode cX3_init 50 = .ok (.return_, 1) := by decide +kernel
theorem dX3_parse_0 : decode cX3_parse 0 = .ok (.aload_n 0, 1) := by decide +kernel
theorem dX3_parse_1 : decode cX3_parse 1 = .ok (.iconst 0, 1) := by decide +kernel
theorem dX3_parse_2 : decode cX3_parse 2 = .ok (.putfield 31, 3) := by decide +kernel
theorem dX3_parse_5 : decode cX3_parse 5 = .ok (.aload_n 0, 1) := by decide +kernel
theorem dX3_parse_6 : decode cX3_parse 6 = .ok (.aload_n 0, 1) := by decide +kernel
theorem dX3_parse_7 : decode cX3_parse 7 = .ok (.aload_n 1, 1) := by decide +kernel
theorem dX3_parse_8 : decode cX3_parse 8 = .ok (.invokevirtual 34, 3) := by decide +kernel
theorem dX3_parse_11 : decode cX3_parse 11 = .ok (.putfield 27, 3) := by decide +kernel
theorem dX3_parse_14 : decode cX3_parse 14 = .ok (.aload_n 0, 1) := by decide +kernel
theorem dX3_parse_15 : decode cX3_parse 15 = .ok (.getfield 27, 3) := by decide +kernel
theorem dX3_parse_18 : decode cX3_parse 18 = .ok (.iconst (-1), 1) := by decide +kernel
theorem dX3_parse_19 : decode cX3_parse 19 = .ok (.if_icmp .eq 8, 3) := by decide +kernel
theorem dX3_parse_22 : decode cX3_parse 22 = .ok (.aload_n 0, 1) := by decide +kernel
theorem dX3_parse_23 : decode cX3_parse 23 = .ok (.iconst 0, 1) := by decide +kernel
theorem dX3_parse_24 : decode cX3_parse 24 = .ok (.putfield 31, 3) := by decide +kernel
theorem dX3_parse_27 : decode cX3_parse 27 = .ok (.aload_n 0, 1) := by decide +kernel
theorem dX3_parse_28 : decode cX3_parse 28 = .ok (.invokevirtual 38, 3) := by decide +kernel
theorem dX3_parse_31 : decode cX3_parse 31 = .ok (.aload_n 0, 1) := by decide +kernel
theorem dX3_parse_32 : decode cX3_parse 32 = .ok (.invokevirtual 41, 3) := by decide +kernel
theorem dX3_parse_35 : decode cX3_parse 35 = .ok (.return_, 1) := by decide +kernel
theorem dX3_scan_0 : decode cX3_scan 0 = .ok (.iconst 0, 1) := by decide +kernel
theorem dX3_scan_1 : decode cX3_scan 1 = .ok (.istore_n 2, 1) := by decide +kernel
theorem dX3_scan_2 : decode cX3_scan 2 = .ok (.aload_n 1, 1) := by decide +kernel
theorem dX3_scan_3 : decode cX3_scan 3 = .ok (.invokevirtual 44, 3) := by decide +kernel
theorem dX3_scan_6 : decode cX3_scan 6 = .ok (.ifCond .ne 5, 3) := by decide +kernel
theorem dX3_scan_9 : decode cX3_scan 9 = .ok (.iconst (-1), 1) := by decide +kernel
theorem dX3_scan_10 : decode cX3_scan 10 = .ok (.ireturn, 1) := by decide +kernel
theorem dX3_scan_11 : decode cX3_scan 11 = .ok (.iconst 0, 1) := by decide +kernel
theorem dX3_scan_12 : decode cX3_scan 12 = .ok (.istore_n 3, 1) := by decide +kernel
theorem dX3_scan_13 : decode cX3_scan 13 = .ok (.iload_n 3, 1) := by decide +kernel
theorem dX3_scan_14 : decode cX3_scan 14 = .ok (.bipush 10, 2) := by decide +kernel
theorem dX3_scan_16 : decode cX3_scan 16 = .ok (.if_icmp .ge 107, 3) := by decide +kernel
theorem dX3_scan_19 : decode cX3_scan 19 = .ok (.aload_n 1, 1) := by decide +kernel
theorem dX3_scan_20 : decode cX3_scan 20 = .ok (.iload_n 2, 1) := by decide +kernel
theorem dX3_scan_21 : decode cX3_scan 21 = .ok (.invokevirtual 49, 3) := by decide +kernel
theorem dX3_scan_24 : decode cX3_scan 24 = .ok (.istore 4, 2) := by decide +kernel
theorem dX3_scan_26 : decode cX3_scan 26 = .ok (.iload 4, 2) := by decide +kernel
theorem dX3_scan_28 : decode cX3_scan 28 = .ok (.bipush 49, 2) := by decide +kernel
theorem dX3_scan_30 : decode cX3_scan 30 = .ok (.if_icmp .lt 10, 3) := by decide +kernel
theorem dX3_scan_33 : decode cX3_scan 33 = .ok (.iload 4, 2) := by decide +kernel
theorem dX3_scan_35 : decode cX3_scan 35 = .ok (.bipush 57, 2) := by decide +kernel
theorem dX3_scan_37 : decode cX3_scan 37 = .ok (.if_icmp .le 5, 3) := by decide +kernel
theorem dX3_scan_40 : decode cX3_scan 40 = .ok (.iload_n 2, 1) := by decide +kernel
theorem dX3_scan_41 : decode cX3_scan 41 = .ok (.ireturn, 1) := by decide +kernel
theorem dX3_scan_42 : decode cX3_scan 42 = .ok (.iinc 2 1, 3) := by decide +kernel
theorem dX3_scan_45 : decode cX3_scan 45 = .ok (.aload_n 0, 1) := by decide +kernel
theorem dX3_scan_46 : decode cX3_scan 46 = .ok (.aload_n 1, 1) := by decide +kernel
theorem dX3_scan_47 : decode cX3_scan 47 = .ok (.iload_n 2, 1) := by decide +kernel
theorem dX3_scan_48 : decode cX3_scan 48 = .ok (.iload_n 3, 1) := by decide +kernel
theorem dX3_scan_49 : decode cX3_scan 49 = .ok (.invokevirtual 53, 3) := by decide +kernel
theorem dX3_scan_52 : decode cX3_scan 52 = .ok (.istore 5, 2) := by decide +kernel
theorem dX3_scan_54 : decode cX3_scan 54 = .ok (.iload_n 2, 1) := by decide +kernel
theorem dX3_scan_55 : decode cX3_scan 55 = .ok (.iload 5, 2) := by decide +kernel
theorem dX3_scan_57 : decode cX3_scan 57 = .ok (.iadd, 1) := by decide +kernel
theorem dX3_scan_58 : decode cX3_scan 58 = .ok (.istore_n 2, 1) := by decide +kernel
theorem dX3_scan_59 : decode cX3_scan 59 = .ok (.iload 5, 2) := by decide +kernel
theorem dX3_scan_61 : decode cX3_scan 61 = .ok (.ifCond .ne 5, 3) := by decide +kernel
theorem dX3_scan_64 : decode cX3_scan 64 = .ok (.iload_n 2, 1) := by decide +kernel
theorem dX3_scan_65 : decode cX3_scan 65 = .ok (.ireturn, 1) := by decide +kernel
theorem dX3_scan_66 : decode cX3_scan 66 = .ok (.aload_n 0, 1) := by decide +kernel
theorem dX3_scan_67 : decode cX3_scan 67 = .ok (.getfield 9, 3) := by decide +kernel
theorem dX3_scan_70 : decode cX3_scan 70 = .ok (.iload_n 3, 1) := by decide +kernel
theorem dX3_scan_71 : decode cX3_scan 71 = .ok (.iload 4, 2) := by decide +kernel
theorem dX3_scan_73 : decode cX3_scan 73 = .ok (.bipush 48, 2) := by decide +kernel
theorem dX3_scan_75 : decode cX3_scan 75 = .ok (.isub, 1) := by decide +kernel
theorem dX3_scan_76 : decode cX3_scan 76 = .ok (.iastore, 1) := by decide +kernel
theorem dX3_scan_77 : decode cX3_scan 77 = .ok (.aload_n 0, 1) := by decide +kernel
theorem dX3_scan_78 : decode cX3_scan 78 = .ok (.getfield 15, 3) := by decide +kernel
theorem dX3_scan_81 : decode cX3_scan 81 = .ok (.iload_n 3, 1) := by decide +kernel
theorem dX3_scan_82 : decode cX3_scan 82 = .ok (.iload 5, 2) := by decide +kernel
theorem dX3_scan_84 : decode cX3_scan 84 = .ok (.iastore, 1) := by decide +kernel
theorem dX3_scan_85 : decode cX3_scan 85 = .ok (.aload_n 0, 1) := by decide +kernel
theorem dX3_scan_86 : decode cX3_scan 86 = .ok (.iload_n 3, 1) := by decide +kernel
theorem dX3_scan_87 : decode cX3_scan 87 = .ok (.iconst 1, 1) := by decide +kernel
theorem dX3_scan_88 : decode cX3_scan 88 = .ok (.iadd, 1) := by decide +kernel
theorem dX3_scan_89 : decode cX3_scan 89 = .ok (.putfield 31, 3) := by decide +kernel
theorem dX3_scan_92 : decode cX3_scan 92 = .ok (.iload_n 2, 1) := by decide +kernel
theorem dX3_scan_93 : decode cX3_scan 93 = .ok (.aload_n 1, 1) := by decide +kernel
theorem dX3_scan_94 : decode cX3_scan 94 = .ok (.invokevirtual 44, 3) := by decide +kernel
theorem dX3_scan_97 : decode cX3_scan 97 = .ok (.if_icmp .ne 5, 3) := by decide +kernel
theorem dX3_scan_100 : decode cX3_scan 100 = .ok (.iconst (-1), 1) := by decide +kernel
theorem dX3_scan_101 : decode cX3_scan 101 = .ok (.ireturn, 1) := by decide +kernel
theorem dX3_scan_102 : decode cX3_scan 102 = .ok (.aload_n 1, 1) := by decide +kernel
theorem dX3_scan_103 : decode cX3_scan 103 = .ok (.iload_n 2, 1) := by decide +kernel
theorem dX3_scan_104 : decode cX3_scan 104 = .ok (.invokevirtual 49, 3) := by decide +kernel
theorem dX3_scan_107 : decode cX3_scan 107 = .ok (.bipush 59, 2) := by decide +kernel
theorem dX3_scan_109 : decode cX3_scan 109 = .ok (.if_icmp .eq 5, 3) := by decide +kernel
theorem dX3_scan_112 : decode cX3_scan 112 = .ok (.iload_n 2, 1) := by decide +kernel
theorem dX3_scan_113 : decode cX3_scan 113 = .ok (.ireturn, 1) := by decide +kernel
theorem dX3_scan_114 : decode cX3_scan 114 = .ok (.iinc 2 1, 3) := by decide +kernel
theorem dX3_scan_117 : decode cX3_scan 117 = .ok (.iinc 3 1, 3) := by decide +kernel
theorem dX3_scan_120 : decode cX3_scan 120 = .ok (.goto (-107), 3) := by decide +kernel
theorem dX3_scan_123 : decode cX3_scan 123 = .ok (.iload_n 2, 1) := by decide +kernel
theorem dX3_scan_124 : decode cX3_scan 124 = .ok (.ireturn, 1) := by decide +kernel
theorem dX3_takeLetters_0 : decode cX3_takeLetters 0 = .ok (.iconst 0, 1) := by decide +kernel
theorem dX3_takeLetters_1 : decode cX3_takeLetters 1 = .ok (.istore 4, 2) := by decide +kernel
theorem dX3_takeLetters_3 : decode cX3_takeLetters 3 = .ok (.iload 4, 2) := by decide +kernel
theorem dX3_takeLetters_5 : decode cX3_takeLetters 5 = .ok (.bipush 6, 2) := by decide +kernel
theorem dX3_takeLetters_7 : decode cX3_takeLetters 7 = .ok (.if_icmp .ge 45, 3) := by decide +kernel
theorem dX3_takeLetters_10 : decode cX3_takeLetters 10 = .ok (.aload_n 1, 1) := by decide +kernel
theorem dX3_takeLetters_11 : decode cX3_takeLetters 11 = .ok (.iload_n 2, 1) := by decide +kernel
theorem dX3_takeLetters_12 : decode cX3_takeLetters 12 = .ok (.iload 4, 2) := by decide +kernel
theorem dX3_takeLetters_14 : decode cX3_takeLetters 14 = .ok (.iadd, 1) := by decide +kernel
theorem dX3_takeLetters_15 : decode cX3_takeLetters 15 = .ok (.invokevirtual 49, 3) := by decide +kernel
theorem dX3_takeLetters_18 : decode cX3_takeLetters 18 = .ok (.invokestatic 57, 3) := by decide +kernel
theorem dX3_takeLetters_21 : decode cX3_takeLetters 21 = .ok (.istore 5, 2) := by decide +kernel
theorem dX3_takeLetters_23 : decode cX3_takeLetters 23 = .ok (.iload 5, 2) := by decide +kernel
theorem dX3_takeLetters_25 : decode cX3_takeLetters 25 = .ok (.iconst (-1), 1) := by decide +kernel
theorem dX3_takeLetters_26 : decode cX3_takeLetters 26 = .ok (.if_icmp .ne 6, 3) := by decide +kernel
theorem dX3_takeLetters_29 : decode cX3_takeLetters 29 = .ok (.iload 4, 2) := by decide +kernel
theorem dX3_takeLetters_31 : decode cX3_takeLetters 31 = .ok (.ireturn, 1) := by decide +kernel
theorem dX3_takeLetters_32 : decode cX3_takeLetters 32 = .ok (.aload_n 0, 1) := by decide +kernel
theorem dX3_takeLetters_33 : decode cX3_takeLetters 33 = .ok (.getfield 18, 3) := by decide +kernel
theorem dX3_takeLetters_36 : decode cX3_takeLetters 36 = .ok (.iload_n 3, 1) := by decide +kernel
theorem dX3_takeLetters_37 : decode cX3_takeLetters 37 = .ok (.bipush 6, 2) := by decide +kernel
theorem dX3_takeLetters_39 : decode cX3_takeLetters 39 = .ok (.imul, 1) := by decide +kernel
theorem dX3_takeLetters_40 : decode cX3_takeLetters 40 = .ok (.iload 4, 2) := by decide +kernel
theorem dX3_takeLetters_42 : decode cX3_takeLetters 42 = .ok (.iadd, 1) := by decide +kernel
theorem dX3_takeLetters_43 : decode cX3_takeLetters 43 = .ok (.iload 5, 2) := by decide +kernel
theorem dX3_takeLetters_45 : decode cX3_takeLetters 45 = .ok (.iastore, 1) := by decide +kernel
theorem dX3_takeLetters_46 : decode cX3_takeLetters 46 = .ok (.iinc 4 1, 3) := by decide +kernel
theorem dX3_takeLetters_49 : decode cX3_takeLetters 49 = .ok (.goto (-46), 3) := by decide +kernel
theorem dX3_takeLetters_52 : decode cX3_takeLetters 52 = .ok (.bipush 6, 2) := by decide +kernel
theorem dX3_takeLetters_54 : decode cX3_takeLetters 54 = .ok (.ireturn, 1) := by decide +kernel
theorem dX3_groupBySound_0 : decode cX3_groupBySound 0 = .ok (.aload_n 0, 1) := by decide +kernel
theorem dX3_groupBySound_1 : decode cX3_groupBySound 1 = .ok (.getfield 21, 3) := by decide +kernel
theorem dX3_groupBySound_4 : decode cX3_groupBySound 4 = .ok (.iconst 0, 1) := by decide +kernel
theorem dX3_groupBySound_5 : decode cX3_groupBySound 5 = .ok (.invokestatic 60, 3) := by decide +kernel
theorem dX3_groupBySound_8 : decode cX3_groupBySound 8 = .ok (.iconst 0, 1) := by decide +kernel
theorem dX3_groupBySound_9 : decode cX3_groupBySound 9 = .ok (.istore_n 1, 1) := by decide +kernel
theorem dX3_groupBySound_10 : decode cX3_groupBySound 10 = .ok (.iload_n 1, 1) := by decide +kernel
theorem dX3_groupBySound_11 : decode cX3_groupBySound 11 = .ok (.bipush 6, 2) := by decide +kernel
theorem dX3_groupBySound_13 : decode cX3_groupBySound 13 = .ok (.if_icmp .ge 49, 3) := by decide +kernel
theorem dX3_groupBySound_16 : decode cX3_groupBySound 16 = .ok (.iconst 0, 1) := by decide +kernel
theorem dX3_groupBySound_17 : decode cX3_groupBySound 17 = .ok (.istore_n 2, 1) := by decide +kernel
theorem dX3_groupBySound_18 : decode cX3_groupBySound 18 = .ok (.iload_n 2, 1) := by decide +kernel
theorem dX3_groupBySound_19 : decode cX3_groupBySound 19 = .ok (.aload_n 0, 1) := by decide +kernel
theorem dX3_groupBySound_20 : decode cX3_groupBySound 20 = .ok (.getfield 31, 3) := by decide +kernel
theorem dX3_groupBySound_23 : decode cX3_groupBySound 23 = .ok (.if_icmp .ge 33, 3) := by decide +kernel
theorem dX3_groupBySound_26 : decode cX3_groupBySound 26 = .ok (.aload_n 0, 1) := by decide +kernel
theorem dX3_groupBySound_27 : decode cX3_groupBySound 27 = .ok (.getfield 21, 3) := by decide +kernel
theorem dX3_groupBySound_30 : decode cX3_groupBySound 30 = .ok (.iload_n 1, 1) := by decide +kernel
theorem dX3_groupBySound_31 : decode cX3_groupBySound 31 = .ok (.bipush 7, 2) := by decide +kernel
theorem dX3_groupBySound_33 : decode cX3_groupBySound 33 = .ok (.imul, 1) := by decide +kernel
theorem dX3_groupBySound_34 : decode cX3_groupBySound 34 = .ok (.aload_n 0, 1) := by decide +kernel
theorem dX3_groupBySound_35 : decode cX3_groupBySound 35 = .ok (.iload_n 2, 1) := by decide +kernel
theorem dX3_groupBySound_36 : decode cX3_groupBySound 36 = .ok (.iload_n 1, 1) := by decide +kernel
theorem dX3_groupBySound_37 : decode cX3_groupBySound 37 = .ok (.invokevirtual 66, 3) := by decide +kernel
theorem dX3_groupBySound_40 : decode cX3_groupBySound 40 = .ok (.iadd, 1) := by decide +kernel
theorem dX3_groupBySound_41 : decode cX3_groupBySound 41 = .ok (.iconst 1, 1) := by decide +kernel
theorem dX3_groupBySound_42 : decode cX3_groupBySound 42 = .ok (.iadd, 1) := by decide +kernel
theorem dX3_groupBySound_43 : decode cX3_groupBySound 43 = .ok (.dup2, 1) := by decide +kernel
theorem dX3_groupBySound_44 : decode cX3_groupBySound 44 = .ok (.iaload, 1) := by decide +kernel
theorem dX3_groupBySound_45 : decode cX3_groupBySound 45 = .ok (.iconst 1, 1) := by decide +kernel
theorem dX3_groupBySound_46 : decode cX3_groupBySound 46 = .ok (.iload_n 2, 1) := by decide +kernel
theorem dX3_groupBySound_47 : decode cX3_groupBySound 47 = .ok (.ishl, 1) := by decide +kernel
theorem dX3_groupBySound_48 : decode cX3_groupBySound 48 = .ok (.ior, 1) := by decide +kernel
theorem dX3_groupBySound_49 : decode cX3_groupBySound 49 = .ok (.iastore, 1) := by decide +kernel
theorem dX3_groupBySound_50 : decode cX3_groupBySound 50 = .ok (.iinc 2 1, 3) := by decide +kernel
theorem dX3_groupBySound_53 : decode cX3_groupBySound 53 = .ok (.goto (-35), 3) := by decide +kernel
theorem dX3_groupBySound_56 : decode cX3_groupBySound 56 = .ok (.iinc 1 1, 3) := by decide +kernel
theorem dX3_groupBySound_59 : decode cX3_groupBySound 59 = .ok (.goto (-49), 3) := by decide +kernel
theorem dX3_groupBySound_62 : decode cX3_groupBySound 62 = .ok (.return_, 1) := by decide +kernel
theorem dX3_addOdds_0 : decode cX3_addOdds 0 = .ok (.iconst 0, 1) := by decide +kernel
theorem dX3_addOdds_1 : decode cX3_addOdds 1 = .ok (.istore_n 1, 1) := by decide +kernel
theorem dX3_addOdds_2 : decode cX3_addOdds 2 = .ok (.iload_n 1, 1) := by decide +kernel
theorem dX3_addOdds_3 : decode cX3_addOdds 3 = .ok (.aload_n 0, 1) := by decide +kernel
theorem dX3_addOdds_4 : decode cX3_addOdds 4 = .ok (.getfield 31, 3) := by decide +kernel
theorem dX3_addOdds_7 : decode cX3_addOdds 7 = .ok (.if_icmp .ge 47, 3) := by decide +kernel
theorem dX3_addOdds_10 : decode cX3_addOdds 10 = .ok (.iconst 1, 1) := by decide +kernel
theorem dX3_addOdds_11 : decode cX3_addOdds 11 = .ok (.iload_n 1, 1) := by decide +kernel
theorem dX3_addOdds_12 : decode cX3_addOdds 12 = .ok (.ishl, 1) := by decide +kernel
theorem dX3_addOdds_13 : decode cX3_addOdds 13 = .ok (.istore_n 2, 1) := by decide +kernel
theorem dX3_addOdds_14 : decode cX3_addOdds 14 = .ok (.iconst 0, 1) := by decide +kernel
theorem dX3_addOdds_15 : decode cX3_addOdds 15 = .ok (.istore_n 3, 1) := by decide +kernel
theorem dX3_addOdds_16 : decode cX3_addOdds 16 = .ok (.iload_n 3, 1) := by decide +kernel
theorem dX3_addOdds_17 : decode cX3_addOdds 17 = .ok (.iload_n 2, 1) := by decide +kernel
theorem dX3_addOdds_18 : decode cX3_addOdds 18 = .ok (.if_icmp .ge 30, 3) := by decide +kernel
theorem dX3_addOdds_21 : decode cX3_addOdds 21 = .ok (.aload_n 0, 1) := by decide +kernel
theorem dX3_addOdds_22 : decode cX3_addOdds 22 = .ok (.getfield 24, 3) := by decide +kernel
theorem dX3_addOdds_25 : decode cX3_addOdds 25 = .ok (.iload_n 2, 1) := by decide +kernel
theorem dX3_addOdds_26 : decode cX3_addOdds 26 = .ok (.iload_n 3, 1) := by decide +kernel
theorem dX3_addOdds_27 : decode cX3_addOdds 27 = .ok (.ior, 1) := by decide +kernel
theorem dX3_addOdds_28 : decode cX3_addOdds 28 = .ok (.aload_n 0, 1) := by decide +kernel
theorem dX3_addOdds_29 : decode cX3_addOdds 29 = .ok (.getfield 24, 3) := by decide +kernel
theorem dX3_addOdds_32 : decode cX3_addOdds 32 = .ok (.iload_n 3, 1) := by decide +kernel
theorem dX3_addOdds_33 : decode cX3_addOdds 33 = .ok (.iaload, 1) := by decide +kernel
theorem dX3_addOdds_34 : decode cX3_addOdds 34 = .ok (.aload_n 0, 1) := by decide +kernel
theorem dX3_addOdds_35 : decode cX3_addOdds 35 = .ok (.getfield 9, 3) := by decide +kernel
theorem dX3_addOdds_38 : decode cX3_addOdds 38 = .ok (.iload_n 1, 1) := by decide +kernel
theorem dX3_addOdds_39 : decode cX3_addOdds 39 = .ok (.iaload, 1) := by decide +kernel
theorem dX3_addOdds_40 : decode cX3_addOdds 40 = .ok (.iadd, 1) := by decide +kernel
theorem dX3_addOdds_41 : decode cX3_addOdds 41 = .ok (.iastore, 1) := by decide +kernel
theorem dX3_addOdds_42 : decode cX3_addOdds 42 = .ok (.iinc 3 1, 3) := by decide +kernel
theorem dX3_addOdds_45 : decode cX3_addOdds 45 = .ok (.goto (-29), 3) := by decide +kernel
theorem dX3_addOdds_48 : decode cX3_addOdds 48 = .ok (.iinc 1 1, 3) := by decide +kernel
theorem dX3_addOdds_51 : decode cX3_addOdds 51 = .ok (.goto (-49), 3) := by decide +kernel
theorem dX3_addOdds_54 : decode cX3_addOdds 54 = .ok (.return_, 1) := by decide +kernel
theorem dX3_size_0 : decode cX3_size 0 = .ok (.aload_n 0, 1) := by decide +kernel
theorem dX3_size_1 : decode cX3_size 1 = .ok (.getfield 31, 3) := by decide +kernel
theorem dX3_size_4 : decode cX3_size 4 = .ok (.ireturn, 1) := by decide +kernel
theorem dX3_faultPlace_0 : decode cX3_faultPlace 0 = .ok (.aload_n 0, 1) := by decide +kernel
theorem dX3_faultPlace_1 : decode cX3_faultPlace 1 = .ok (.getfield 27, 3) := by decide +kernel
theorem dX3_faultPlace_4 : decode cX3_faultPlace 4 = .ok (.ireturn, 1) := by decide +kernel
theorem dX3_all_0 : decode cX3_all 0 = .ok (.iconst 1, 1) := by decide +kernel
theorem dX3_all_1 : decode cX3_all 1 = .ok (.aload_n 0, 1) := by decide +kernel
theorem dX3_all_2 : decode cX3_all 2 = .ok (.getfield 31, 3) := by decide +kernel
theorem dX3_all_5 : decode cX3_all 5 = .ok (.ishl, 1) := by decide +kernel
theorem dX3_all_6 : decode cX3_all 6 = .ok (.iconst 1, 1) := by decide +kernel
theorem dX3_all_7 : decode cX3_all 7 = .ok (.isub, 1) := by decide +kernel
theorem dX3_all_8 : decode cX3_all 8 = .ok (.ireturn, 1) := by decide +kernel
theorem dX3_has_0 : decode cX3_has 0 = .ok (.iload_n 1, 1) := by decide +kernel
theorem dX3_has_1 : decode cX3_has 1 = .ok (.ifCond .lt 15, 3) := by decide +kernel
theorem dX3_has_4 : decode cX3_has 4 = .ok (.iload_n 1, 1) := by decide +kernel
theorem dX3_has_5 : decode cX3_has 5 = .ok (.aload_n 0, 1) := by decide +kernel
theorem dX3_has_6 : decode cX3_has 6 = .ok (.getfield 31, 3) := by decide +kernel
theorem dX3_has_9 : decode cX3_has 9 = .ok (.if_icmp .ge 7, 3) := by decide +kernel
theorem dX3_has_12 : decode cX3_has 12 = .ok (.iconst 1, 1) := by decide +kernel
theorem dX3_has_13 : decode cX3_has 13 = .ok (.goto 4, 3) := by decide +kernel
theorem dX3_has_16 : decode cX3_has 16 = .ok (.iconst 0, 1) := by decide +kernel
theorem dX3_has_17 : decode cX3_has 17 = .ok (.ireturn, 1) := by decide +kernel
theorem dX3_oddsOf_0 : decode cX3_oddsOf 0 = .ok (.iload_n 1, 1) := by decide +kernel
theorem dX3_oddsOf_1 : decode cX3_oddsOf 1 = .ok (.ifCond .lt 20, 3) := by decide +kernel
theorem dX3_oddsOf_4 : decode cX3_oddsOf 4 = .ok (.iload_n 1, 1) := by decide +kernel
theorem dX3_oddsOf_5 : decode cX3_oddsOf 5 = .ok (.aload_n 0, 1) := by decide +kernel
theorem dX3_oddsOf_6 : decode cX3_oddsOf 6 = .ok (.getfield 31, 3) := by decide +kernel
theorem dX3_oddsOf_9 : decode cX3_oddsOf 9 = .ok (.if_icmp .ge 12, 3) := by decide +kernel
theorem dX3_oddsOf_12 : decode cX3_oddsOf 12 = .ok (.aload_n 0, 1) := by decide +kernel
theorem dX3_oddsOf_13 : decode cX3_oddsOf 13 = .ok (.getfield 9, 3) := by decide +kernel
theorem dX3_oddsOf_16 : decode cX3_oddsOf 16 = .ok (.iload_n 1, 1) := by decide +kernel
theorem dX3_oddsOf_17 : decode cX3_oddsOf 17 = .ok (.iaload, 1) := by decide +kernel
theorem dX3_oddsOf_18 : decode cX3_oddsOf 18 = .ok (.goto 4, 3) := by decide +kernel
theorem dX3_oddsOf_21 : decode cX3_oddsOf 21 = .ok (.iconst 0, 1) := by decide +kernel
theorem dX3_oddsOf_22 : decode cX3_oddsOf 22 = .ok (.ireturn, 1) := by decide +kernel
theorem dX3_oddsOfAll_0 : decode cX3_oddsOfAll 0 = .ok (.aload_n 0, 1) := by decide +kernel
theorem dX3_oddsOfAll_1 : decode cX3_oddsOfAll 1 = .ok (.getfield 24, 3) := by decide +kernel
theorem dX3_oddsOfAll_4 : decode cX3_oddsOfAll 4 = .ok (.iload_n 1, 1) := by decide +kernel
theorem dX3_oddsOfAll_5 : decode cX3_oddsOfAll 5 = .ok (.iconst 1, 1) := by decide +kernel
theorem dX3_oddsOfAll_6 : decode cX3_oddsOfAll 6 = .ok (.aload_n 0, 1) := by decide +kernel
theorem dX3_oddsOfAll_7 : decode cX3_oddsOfAll 7 = .ok (.getfield 31, 3) := by decide +kernel
theorem dX3_oddsOfAll_10 : decode cX3_oddsOfAll 10 = .ok (.ishl, 1) := by decide +kernel
theorem dX3_oddsOfAll_11 : decode cX3_oddsOfAll 11 = .ok (.iconst 1, 1) := by decide +kernel
theorem dX3_oddsOfAll_12 : decode cX3_oddsOfAll 12 = .ok (.isub, 1) := by decide +kernel
theorem dX3_oddsOfAll_13 : decode cX3_oddsOfAll 13 = .ok (.iand, 1) := by decide +kernel
theorem dX3_oddsOfAll_14 : decode cX3_oddsOfAll 14 = .ok (.iaload, 1) := by decide +kernel
theorem dX3_oddsOfAll_15 : decode cX3_oddsOfAll 15 = .ok (.ireturn, 1) := by decide +kernel
theorem dX3_lengthOf_0 : decode cX3_lengthOf 0 = .ok (.iload_n 1, 1) := by decide +kernel
theorem dX3_lengthOf_1 : decode cX3_lengthOf 1 = .ok (.ifCond .lt 20, 3) := by decide +kernel
theorem dX3_lengthOf_4 : decode cX3_lengthOf 4 = .ok (.iload_n 1, 1) := by decide +kernel
theorem dX3_lengthOf_5 : decode cX3_lengthOf 5 = .ok (.aload_n 0, 1) := by decide +kernel
theorem dX3_lengthOf_6 : decode cX3_lengthOf 6 = .ok (.getfield 31, 3) := by decide +kernel
theorem dX3_lengthOf_9 : decode cX3_lengthOf 9 = .ok (.if_icmp .ge 12, 3) := by decide +kernel
theorem dX3_lengthOf_12 : decode cX3_lengthOf 12 = .ok (.aload_n 0, 1) := by decide +kernel
theorem dX3_lengthOf_13 : decode cX3_lengthOf 13 = .ok (.getfield 15, 3) := by decide +kernel
theorem dX3_lengthOf_16 : decode cX3_lengthOf 16 = .ok (.iload_n 1, 1) := by decide +kernel
theorem dX3_lengthOf_17 : decode cX3_lengthOf 17 = .ok (.iaload, 1) := by decide +kernel
theorem dX3_lengthOf_18 : decode cX3_lengthOf 18 = .ok (.goto 4, 3) := by decide +kernel
theorem dX3_lengthOf_21 : decode cX3_lengthOf 21 = .ok (.iconst 0, 1) := by decide +kernel
theorem dX3_lengthOf_22 : decode cX3_lengthOf 22 = .ok (.ireturn, 1) := by decide +kernel
theorem dX3_letterAt_0 : decode cX3_letterAt 0 = .ok (.iload_n 1, 1) := by decide +kernel
theorem dX3_letterAt_1 : decode cX3_letterAt 1 = .ok (.ifCond .lt 25, 3) := by decide +kernel
theorem dX3_letterAt_4 : decode cX3_letterAt 4 = .ok (.iload_n 1, 1) := by decide +kernel
theorem dX3_letterAt_5 : decode cX3_letterAt 5 = .ok (.aload_n 0, 1) := by decide +kernel
theorem dX3_letterAt_6 : decode cX3_letterAt 6 = .ok (.getfield 31, 3) := by decide +kernel
theorem dX3_letterAt_9 : decode cX3_letterAt 9 = .ok (.if_icmp .ge 17, 3) := by decide +kernel
theorem dX3_letterAt_12 : decode cX3_letterAt 12 = .ok (.iload_n 2, 1) := by decide +kernel
theorem dX3_letterAt_13 : decode cX3_letterAt 13 = .ok (.ifCond .lt 13, 3) := by decide +kernel
theorem dX3_letterAt_16 : decode cX3_letterAt 16 = .ok (.iload_n 2, 1) := by decide +kernel
theorem dX3_letterAt_17 : decode cX3_letterAt 17 = .ok (.aload_n 0, 1) := by decide +kernel
theorem dX3_letterAt_18 : decode cX3_letterAt 18 = .ok (.getfield 15, 3) := by decide +kernel
theorem dX3_letterAt_21 : decode cX3_letterAt 21 = .ok (.iload_n 1, 1) := by decide +kernel
theorem dX3_letterAt_22 : decode cX3_letterAt 22 = .ok (.iaload, 1) := by decide +kernel
theorem dX3_letterAt_23 : decode cX3_letterAt 23 = .ok (.if_icmp .lt 5, 3) := by decide +kernel
theorem dX3_letterAt_26 : decode cX3_letterAt 26 = .ok (.iconst (-1), 1) := by decide +kernel
theorem dX3_letterAt_27 : decode cX3_letterAt 27 = .ok (.ireturn, 1) := by decide +kernel
theorem dX3_letterAt_28 : decode cX3_letterAt 28 = .ok (.aload_n 0, 1) := by decide +kernel
theorem dX3_letterAt_29 : decode cX3_letterAt 29 = .ok (.getfield 18, 3) := by decide +kernel
theorem dX3_letterAt_32 : decode cX3_letterAt 32 = .ok (.iload_n 1, 1) := by decide +kernel
theorem dX3_letterAt_33 : decode cX3_letterAt 33 = .ok (.bipush 6, 2) := by decide +kernel
theorem dX3_letterAt_35 : decode cX3_letterAt 35 = .ok (.imul, 1) := by decide +kernel
theorem dX3_letterAt_36 : decode cX3_letterAt 36 = .ok (.iload_n 2, 1) := by decide +kernel
theorem dX3_letterAt_37 : decode cX3_letterAt 37 = .ok (.iadd, 1) := by decide +kernel
theorem dX3_letterAt_38 : decode cX3_letterAt 38 = .ok (.iaload, 1) := by decide +kernel
theorem dX3_letterAt_39 : decode cX3_letterAt 39 = .ok (.ireturn, 1) := by decide +kernel
theorem dX3_soundingAt_0 : decode cX3_soundingAt 0 = .ok (.iload_n 1, 1) := by decide +kernel
theorem dX3_soundingAt_1 : decode cX3_soundingAt 1 = .ok (.ifCond .lt 20, 3) := by decide +kernel
theorem dX3_soundingAt_4 : decode cX3_soundingAt 4 = .ok (.iload_n 1, 1) := by decide +kernel
theorem dX3_soundingAt_5 : decode cX3_soundingAt 5 = .ok (.bipush 6, 2) := by decide +kernel
theorem dX3_soundingAt_7 : decode cX3_soundingAt 7 = .ok (.if_icmp .ge 14, 3) := by decide +kernel
theorem dX3_soundingAt_10 : decode cX3_soundingAt 10 = .ok (.iload_n 2, 1) := by decide +kernel
theorem dX3_soundingAt_11 : decode cX3_soundingAt 11 = .ok (.iconst (-1), 1) := by decide +kernel
theorem dX3_soundingAt_12 : decode cX3_soundingAt 12 = .ok (.if_icmp .lt 9, 3) := by decide +kernel
theorem dX3_soundingAt_15 : decode cX3_soundingAt 15 = .ok (.iload_n 2, 1) := by decide +kernel
theorem dX3_soundingAt_16 : decode cX3_soundingAt 16 = .ok (.bipush 6, 2) := by decide +kernel
theorem dX3_soundingAt_18 : decode cX3_soundingAt 18 = .ok (.if_icmp .lt 5, 3) := by decide +kernel
theorem dX3_soundingAt_21 : decode cX3_soundingAt 21 = .ok (.iconst 0, 1) := by decide +kernel
theorem dX3_soundingAt_22 : decode cX3_soundingAt 22 = .ok (.ireturn, 1) := by decide +kernel
theorem dX3_soundingAt_23 : decode cX3_soundingAt 23 = .ok (.aload_n 0, 1) := by decide +kernel
theorem dX3_soundingAt_24 : decode cX3_soundingAt 24 = .ok (.getfield 21, 3) := by decide +kernel
theorem dX3_soundingAt_27 : decode cX3_soundingAt 27 = .ok (.iload_n 1, 1) := by decide +kernel
theorem dX3_soundingAt_28 : decode cX3_soundingAt 28 = .ok (.bipush 7, 2) := by decide +kernel
theorem dX3_soundingAt_30 : decode cX3_soundingAt 30 = .ok (.imul, 1) := by decide +kernel
theorem dX3_soundingAt_31 : decode cX3_soundingAt 31 = .ok (.iload_n 2, 1) := by decide +kernel
theorem dX3_soundingAt_32 : decode cX3_soundingAt 32 = .ok (.iadd, 1) := by decide +kernel
theorem dX3_soundingAt_33 : decode cX3_soundingAt 33 = .ok (.iconst 1, 1) := by decide +kernel
theorem dX3_soundingAt_34 : decode cX3_soundingAt 34 = .ok (.iadd, 1) := by decide +kernel
theorem dX3_soundingAt_35 : decode cX3_soundingAt 35 = .ok (.iaload, 1) := by decide +kernel
theorem dX3_soundingAt_36 : decode cX3_soundingAt 36 = .ok (.ireturn, 1) := by decide +kernel
theorem dX3_oneLetterFrom_0 : decode cX3_oneLetterFrom 0 = .ok (.iconst 0, 1) := by decide +kernel
theorem dX3_oneLetterFrom_1 : decode cX3_oneLetterFrom 1 = .ok (.istore_n 2, 1) := by decide +kernel
theorem dX3_oneLetterFrom_2 : decode cX3_oneLetterFrom 2 = .ok (.iconst 0, 1) := by decide +kernel
theorem dX3_oneLetterFrom_3 : decode cX3_oneLetterFrom 3 = .ok (.istore_n 3, 1) := by decide +kernel
theorem dX3_oneLetterFrom_4 : decode cX3_oneLetterFrom 4 = .ok (.iconst 0, 1) := by decide +kernel
theorem dX3_oneLetterFrom_5 : decode cX3_oneLetterFrom 5 = .ok (.istore 4, 2) := by decide +kernel
theorem dX3_oneLetterFrom_7 : decode cX3_oneLetterFrom 7 = .ok (.iload 4, 2) := by decide +kernel
theorem dX3_oneLetterFrom_9 : decode cX3_oneLetterFrom 9 = .ok (.bipush 6, 2) := by decide +kernel
theorem dX3_oneLetterFrom_11 : decode cX3_oneLetterFrom 11 = .ok (.if_icmp .ge 43, 3) := by decide +kernel
theorem dX3_oneLetterFrom_14 : decode cX3_oneLetterFrom 14 = .ok (.aload_n 0, 1) := by decide +kernel
theorem dX3_oneLetterFrom_15 : decode cX3_oneLetterFrom 15 = .ok (.invokevirtual 70, 3) := by decide +kernel
theorem dX3_oneLetterFrom_18 : decode cX3_oneLetterFrom 18 = .ok (.aload_n 0, 1) := by decide +kernel
theorem dX3_oneLetterFrom_19 : decode cX3_oneLetterFrom 19 = .ok (.iload 4, 2) := by decide +kernel
theorem dX3_oneLetterFrom_21 : decode cX3_oneLetterFrom 21 = .ok (.aload_n 0, 1) := by decide +kernel
theorem dX3_oneLetterFrom_22 : decode cX3_oneLetterFrom 22 = .ok (.iload_n 1, 1) := by decide +kernel
theorem dX3_oneLetterFrom_23 : decode cX3_oneLetterFrom 23 = .ok (.iload 4, 2) := by decide +kernel
theorem dX3_oneLetterFrom_25 : decode cX3_oneLetterFrom 25 = .ok (.invokevirtual 66, 3) := by decide +kernel
theorem dX3_oneLetterFrom_28 : decode cX3_oneLetterFrom 28 = .ok (.invokevirtual 73, 3) := by decide +kernel
theorem dX3_oneLetterFrom_31 : decode cX3_oneLetterFrom 31 = .ok (.iconst (-1), 1) := by decide +kernel
theorem dX3_oneLetterFrom_32 : decode cX3_oneLetterFrom 32 = .ok (.ixor, 1) := by decide +kernel
theorem dX3_oneLetterFrom_33 : decode cX3_oneLetterFrom 33 = .ok (.iand, 1) := by decide +kernel
theorem dX3_oneLetterFrom_34 : decode cX3_oneLetterFrom 34 = .ok (.istore 5, 2) := by decide +kernel
theorem dX3_oneLetterFrom_36 : decode cX3_oneLetterFrom 36 = .ok (.iload_n 3, 1) := by decide +kernel
theorem dX3_oneLetterFrom_37 : decode cX3_oneLetterFrom 37 = .ok (.iload_n 2, 1) := by decide +kernel
theorem dX3_oneLetterFrom_38 : decode cX3_oneLetterFrom 38 = .ok (.iload 5, 2) := by decide +kernel
theorem dX3_oneLetterFrom_40 : decode cX3_oneLetterFrom 40 = .ok (.iand, 1) := by decide +kernel
theorem dX3_oneLetterFrom_41 : decode cX3_oneLetterFrom 41 = .ok (.ior, 1) := by decide +kernel
theorem dX3_oneLetterFrom_42 : decode cX3_oneLetterFrom 42 = .ok (.istore_n 3, 1) := by decide +kernel
theorem dX3_oneLetterFrom_43 : decode cX3_oneLetterFrom 43 = .ok (.iload_n 2, 1) := by decide +kernel
theorem dX3_oneLetterFrom_44 : decode cX3_oneLetterFrom 44 = .ok (.iload 5, 2) := by decide +kernel
theorem dX3_oneLetterFrom_46 : decode cX3_oneLetterFrom 46 = .ok (.ior, 1) := by decide +kernel
theorem dX3_oneLetterFrom_47 : decode cX3_oneLetterFrom 47 = .ok (.istore_n 2, 1) := by decide +kernel
theorem dX3_oneLetterFrom_48 : decode cX3_oneLetterFrom 48 = .ok (.iinc 4 1, 3) := by decide +kernel
theorem dX3_oneLetterFrom_51 : decode cX3_oneLetterFrom 51 = .ok (.goto (-44), 3) := by decide +kernel
theorem dX3_oneLetterFrom_54 : decode cX3_oneLetterFrom 54 = .ok (.iload_n 2, 1) := by decide +kernel
theorem dX3_oneLetterFrom_55 : decode cX3_oneLetterFrom 55 = .ok (.iload_n 3, 1) := by decide +kernel
theorem dX3_oneLetterFrom_56 : decode cX3_oneLetterFrom 56 = .ok (.iconst (-1), 1) := by decide +kernel
theorem dX3_oneLetterFrom_57 : decode cX3_oneLetterFrom 57 = .ok (.ixor, 1) := by decide +kernel
theorem dX3_oneLetterFrom_58 : decode cX3_oneLetterFrom 58 = .ok (.iand, 1) := by decide +kernel
theorem dX3_oneLetterFrom_59 : decode cX3_oneLetterFrom 59 = .ok (.aload_n 0, 1) := by decide +kernel
theorem dX3_oneLetterFrom_60 : decode cX3_oneLetterFrom 60 = .ok (.iload_n 1, 1) := by decide +kernel
theorem dX3_oneLetterFrom_61 : decode cX3_oneLetterFrom 61 = .ok (.invokevirtual 76, 3) := by decide +kernel
theorem dX3_oneLetterFrom_64 : decode cX3_oneLetterFrom 64 = .ok (.iand, 1) := by decide +kernel
theorem dX3_oneLetterFrom_65 : decode cX3_oneLetterFrom 65 = .ok (.ireturn, 1) := by decide +kernel
theorem dX3_oneLetterFromAny_0 : decode cX3_oneLetterFromAny 0 = .ok (.iconst 0, 1) := by decide +kernel
theorem dX3_oneLetterFromAny_1 : decode cX3_oneLetterFromAny 1 = .ok (.istore_n 2, 1) := by decide +kernel
theorem dX3_oneLetterFromAny_2 : decode cX3_oneLetterFromAny 2 = .ok (.iconst 0, 1) := by decide +kernel
theorem dX3_oneLetterFromAny_3 : decode cX3_oneLetterFromAny 3 = .ok (.istore_n 3, 1) := by decide +kernel
theorem dX3_oneLetterFromAny_4 : decode cX3_oneLetterFromAny 4 = .ok (.iload_n 3, 1) := by decide +kernel
theorem dX3_oneLetterFromAny_5 : decode cX3_oneLetterFromAny 5 = .ok (.aload_n 0, 1) := by decide +kernel
theorem dX3_oneLetterFromAny_6 : decode cX3_oneLetterFromAny 6 = .ok (.getfield 31, 3) := by decide +kernel
theorem dX3_oneLetterFromAny_9 : decode cX3_oneLetterFromAny 9 = .ok (.if_icmp .ge 25, 3) := by decide +kernel
theorem dX3_oneLetterFromAny_12 : decode cX3_oneLetterFromAny 12 = .ok (.iload_n 1, 1) := by decide +kernel
theorem dX3_oneLetterFromAny_13 : decode cX3_oneLetterFromAny 13 = .ok (.iconst 1, 1) := by decide +kernel
theorem dX3_oneLetterFromAny_14 : decode cX3_oneLetterFromAny 14 = .ok (.iload_n 3, 1) := by decide +kernel
theorem dX3_oneLetterFromAny_15 : decode cX3_oneLetterFromAny 15 = .ok (.ishl, 1) := by decide +kernel
theorem dX3_oneLetterFromAny_16 : decode cX3_oneLetterFromAny 16 = .ok (.iand, 1) := by decide +kernel
theorem dX3_oneLetterFromAny_17 : decode cX3_oneLetterFromAny 17 = .ok (.ifCond .eq 11, 3) := by decide +kernel
theorem dX3_oneLetterFromAny_20 : decode cX3_oneLetterFromAny 20 = .ok (.iload_n 2, 1) := by decide +kernel
theorem dX3_oneLetterFromAny_21 : decode cX3_oneLetterFromAny 21 = .ok (.aload_n 0, 1) := by decide +kernel
theorem dX3_oneLetterFromAny_22 : decode cX3_oneLetterFromAny 22 = .ok (.iload_n 3, 1) := by decide +kernel
theorem dX3_oneLetterFromAny_23 : decode cX3_oneLetterFromAny 23 = .ok (.invokevirtual 79, 3) := by decide +kernel
theorem dX3_oneLetterFromAny_26 : decode cX3_oneLetterFromAny 26 = .ok (.ior, 1) := by decide +kernel
theorem dX3_oneLetterFromAny_27 : decode cX3_oneLetterFromAny 27 = .ok (.istore_n 2, 1) := by decide +kernel
theorem dX3_oneLetterFromAny_28 : decode cX3_oneLetterFromAny 28 = .ok (.iinc 3 1, 3) := by decide +kernel
theorem dX3_oneLetterFromAny_31 : decode cX3_oneLetterFromAny 31 = .ok (.goto (-27), 3) := by decide +kernel
theorem dX3_oneLetterFromAny_34 : decode cX3_oneLetterFromAny 34 = .ok (.iload_n 2, 1) := by decide +kernel
theorem dX3_oneLetterFromAny_35 : decode cX3_oneLetterFromAny 35 = .ok (.ireturn, 1) := by decide +kernel
theorem dX3_asLongAs_0 : decode cX3_asLongAs 0 = .ok (.iconst 0, 1) := by decide +kernel
theorem dX3_asLongAs_1 : decode cX3_asLongAs 1 = .ok (.istore_n 2, 1) := by decide +kernel
theorem dX3_asLongAs_2 : decode cX3_asLongAs 2 = .ok (.iconst 0, 1) := by decide +kernel
theorem dX3_asLongAs_3 : decode cX3_asLongAs 3 = .ok (.istore_n 3, 1) := by decide +kernel
theorem dX3_asLongAs_4 : decode cX3_asLongAs 4 = .ok (.iload_n 3, 1) := by decide +kernel
theorem dX3_asLongAs_5 : decode cX3_asLongAs 5 = .ok (.aload_n 0, 1) := by decide +kernel
theorem dX3_asLongAs_6 : decode cX3_asLongAs 6 = .ok (.getfield 31, 3) := by decide +kernel
theorem dX3_asLongAs_9 : decode cX3_asLongAs 9 = .ok (.if_icmp .ge 29, 3) := by decide +kernel
theorem dX3_asLongAs_12 : decode cX3_asLongAs 12 = .ok (.aload_n 0, 1) := by decide +kernel
theorem dX3_asLongAs_13 : decode cX3_asLongAs 13 = .ok (.getfield 15, 3) := by decide +kernel
theorem dX3_asLongAs_16 : decode cX3_asLongAs 16 = .ok (.iload_n 3, 1) := by decide +kernel
theorem dX3_asLongAs_17 : decode cX3_asLongAs 17 = .ok (.iaload, 1) := by decide +kernel
theorem dX3_asLongAs_18 : decode cX3_asLongAs 18 = .ok (.aload_n 0, 1) := by decide +kernel
theorem dX3_asLongAs_19 : decode cX3_asLongAs 19 = .ok (.iload_n 1, 1) := by decide +kernel
theorem dX3_asLongAs_20 : decode cX3_asLongAs 20 = .ok (.invokevirtual 82, 3) := by decide +kernel
theorem dX3_asLongAs_23 : decode cX3_asLongAs 23 = .ok (.if_icmp .ne 9, 3) := by decide +kernel
theorem dX3_asLongAs_26 : decode cX3_asLongAs 26 = .ok (.iload_n 2, 1) := by decide +kernel
theorem dX3_asLongAs_27 : decode cX3_asLongAs 27 = .ok (.iconst 1, 1) := by decide +kernel
theorem dX3_asLongAs_28 : decode cX3_asLongAs 28 = .ok (.iload_n 3, 1) := by decide +kernel
theorem dX3_asLongAs_29 : decode cX3_asLongAs 29 = .ok (.ishl, 1) := by decide +kernel
theorem dX3_asLongAs_30 : decode cX3_asLongAs 30 = .ok (.ior, 1) := by decide +kernel
theorem dX3_asLongAs_31 : decode cX3_asLongAs 31 = .ok (.istore_n 2, 1) := by decide +kernel
theorem dX3_asLongAs_32 : decode cX3_asLongAs 32 = .ok (.iinc 3 1, 3) := by decide +kernel
theorem dX3_asLongAs_35 : decode cX3_asLongAs 35 = .ok (.goto (-31), 3) := by decide +kernel
theorem dX3_asLongAs_38 : decode cX3_asLongAs 38 = .ok (.iload_n 2, 1) := by decide +kernel
theorem dX3_asLongAs_39 : decode cX3_asLongAs 39 = .ok (.ireturn, 1) := by decide +kernel
theorem dX3_songByte_0 : decode cX3_songByte 0 = .ok (.aload_n 0, 1) := by decide +kernel
theorem dX3_songByte_1 : decode cX3_songByte 1 = .ok (.iload_n 1, 1) := by decide +kernel
theorem dX3_songByte_2 : decode cX3_songByte 2 = .ok (.invokevirtual 85, 3) := by decide +kernel
theorem dX3_songByte_5 : decode cX3_songByte 5 = .ok (.istore_n 3, 1) := by decide +kernel
theorem dX3_songByte_6 : decode cX3_songByte 6 = .ok (.iload_n 2, 1) := by decide +kernel
theorem dX3_songByte_7 : decode cX3_songByte 7 = .ok (.ifCond .lt 8, 3) := by decide +kernel
theorem dX3_songByte_10 : decode cX3_songByte 10 = .ok (.iload_n 2, 1) := by decide +kernel
theorem dX3_songByte_11 : decode cX3_songByte 11 = .ok (.iload_n 3, 1) := by decide +kernel
theorem dX3_songByte_12 : decode cX3_songByte 12 = .ok (.if_icmp .lt 5, 3) := by decide +kernel
theorem dX3_songByte_15 : decode cX3_songByte 15 = .ok (.iconst (-1), 1) := by decide +kernel
theorem dX3_songByte_16 : decode cX3_songByte 16 = .ok (.ireturn, 1) := by decide +kernel
theorem dX3_songByte_17 : decode cX3_songByte 17 = .ok (.iconst 0, 1) := by decide +kernel
theorem dX3_songByte_18 : decode cX3_songByte 18 = .ok (.istore 4, 2) := by decide +kernel
theorem dX3_songByte_20 : decode cX3_songByte 20 = .ok (.iload 4, 2) := by decide +kernel
theorem dX3_songByte_22 : decode cX3_songByte 22 = .ok (.bipush 6, 2) := by decide +kernel
theorem dX3_songByte_24 : decode cX3_songByte 24 = .ok (.if_icmp .ge 29, 3) := by decide +kernel
theorem dX3_songByte_27 : decode cX3_songByte 27 = .ok (.iload_n 1, 1) := by decide +kernel
theorem dX3_songByte_28 : decode cX3_songByte 28 = .ok (.aload_n 0, 1) := by decide +kernel
theorem dX3_songByte_29 : decode cX3_songByte 29 = .ok (.iload_n 2, 1) := by decide +kernel
theorem dX3_songByte_30 : decode cX3_songByte 30 = .ok (.iload 4, 2) := by decide +kernel
theorem dX3_songByte_32 : decode cX3_songByte 32 = .ok (.invokevirtual 73, 3) := by decide +kernel
theorem dX3_songByte_35 : decode cX3_songByte 35 = .ok (.iconst (-1), 1) := by decide +kernel
theorem dX3_songByte_36 : decode cX3_songByte 36 = .ok (.ixor, 1) := by decide +kernel
theorem dX3_songByte_37 : decode cX3_songByte 37 = .ok (.iand, 1) := by decide +kernel
theorem dX3_songByte_38 : decode cX3_songByte 38 = .ok (.ifCond .ne 9, 3) := by decide +kernel
theorem dX3_songByte_41 : decode cX3_songByte 41 = .ok (.bipush 97, 2) := by decide +kernel
theorem dX3_songByte_43 : decode cX3_songByte 43 = .ok (.iload 4, 2) := by decide +kernel
theorem dX3_songByte_45 : decode cX3_songByte 45 = .ok (.iadd, 1) := by decide +kernel
theorem dX3_songByte_46 : decode cX3_songByte 46 = .ok (.ireturn, 1) := by decide +kernel
theorem dX3_songByte_47 : decode cX3_songByte 47 = .ok (.iinc 4 1, 3) := by decide +kernel
theorem dX3_songByte_50 : decode cX3_songByte 50 = .ok (.goto (-30), 3) := by decide +kernel
theorem dX3_songByte_53 : decode cX3_songByte 53 = .ok (.bipush 46, 2) := by decide +kernel
theorem dX3_songByte_55 : decode cX3_songByte 55 = .ok (.ireturn, 1) := by decide +kernel
theorem dX3_commonLength_0 : decode cX3_commonLength 0 = .ok (.iconst 0, 1) := by decide +kernel
theorem dX3_commonLength_1 : decode cX3_commonLength 1 = .ok (.istore_n 2, 1) := by decide +kernel
theorem dX3_commonLength_2 : decode cX3_commonLength 2 = .ok (.iconst 0, 1) := by decide +kernel
theorem dX3_commonLength_3 : decode cX3_commonLength 3 = .ok (.istore_n 3, 1) := by decide +kernel
theorem dX3_commonLength_4 : decode cX3_commonLength 4 = .ok (.iload_n 3, 1) := by decide +kernel
theorem dX3_commonLength_5 : decode cX3_commonLength 5 = .ok (.aload_n 0, 1) := by decide +kernel
theorem dX3_commonLength_6 : decode cX3_commonLength 6 = .ok (.getfield 31, 3) := by decide +kernel
theorem dX3_commonLength_9 : decode cX3_commonLength 9 = .ok (.if_icmp .ge 40, 3) := by decide +kernel
theorem dX3_commonLength_12 : decode cX3_commonLength 12 = .ok (.iload_n 1, 1) := by decide +kernel
theorem dX3_commonLength_13 : decode cX3_commonLength 13 = .ok (.iconst 1, 1) := by decide +kernel
theorem dX3_commonLength_14 : decode cX3_commonLength 14 = .ok (.iload_n 3, 1) := by decide +kernel
theorem dX3_commonLength_15 : decode cX3_commonLength 15 = .ok (.ishl, 1) := by decide +kernel
theorem dX3_commonLength_16 : decode cX3_commonLength 16 = .ok (.iand, 1) := by decide +kernel
theorem dX3_commonLength_17 : decode cX3_commonLength 17 = .ok (.ifCond .eq 26, 3) := by decide +kernel
theorem dX3_commonLength_20 : decode cX3_commonLength 20 = .ok (.iload_n 2, 1) := by decide +kernel
theorem dX3_commonLength_21 : decode cX3_commonLength 21 = .ok (.ifCond .eq 15, 3) := by decide +kernel
theorem dX3_commonLength_24 : decode cX3_commonLength 24 = .ok (.iload_n 2, 1) := by decide +kernel
theorem dX3_commonLength_25 : decode cX3_commonLength 25 = .ok (.aload_n 0, 1) := by decide +kernel
theorem dX3_commonLength_26 : decode cX3_commonLength 26 = .ok (.getfield 15, 3) := by decide +kernel
theorem dX3_commonLength_29 : decode cX3_commonLength 29 = .ok (.iload_n 3, 1) := by decide +kernel
theorem dX3_commonLength_30 : decode cX3_commonLength 30 = .ok (.iaload, 1) := by decide +kernel
theorem dX3_commonLength_31 : decode cX3_commonLength 31 = .ok (.if_icmp .eq 5, 3) := by decide +kernel
theorem dX3_commonLength_34 : decode cX3_commonLength 34 = .ok (.iconst 0, 1) := by decide +kernel
theorem dX3_commonLength_35 : decode cX3_commonLength 35 = .ok (.ireturn, 1) := by decide +kernel
theorem dX3_commonLength_36 : decode cX3_commonLength 36 = .ok (.aload_n 0, 1) := by decide +kernel
theorem dX3_commonLength_37 : decode cX3_commonLength 37 = .ok (.getfield 15, 3) := by decide +kernel
theorem dX3_commonLength_40 : decode cX3_commonLength 40 = .ok (.iload_n 3, 1) := by decide +kernel
theorem dX3_commonLength_41 : decode cX3_commonLength 41 = .ok (.iaload, 1) := by decide +kernel
theorem dX3_commonLength_42 : decode cX3_commonLength 42 = .ok (.istore_n 2, 1) := by decide +kernel
theorem dX3_commonLength_43 : decode cX3_commonLength 43 = .ok (.iinc 3 1, 3) := by decide +kernel
theorem dX3_commonLength_46 : decode cX3_commonLength 46 = .ok (.goto (-42), 3) := by decide +kernel
theorem dX3_commonLength_49 : decode cX3_commonLength 49 = .ok (.iload_n 2, 1) := by decide +kernel
theorem dX3_commonLength_50 : decode cX3_commonLength 50 = .ok (.ireturn, 1) := by decide +kernel
theorem dX4_init_0 : decode cX4_init 0 = .ok (.aload_n 0, 1) := by decide +kernel
theorem dX4_init_1 : decode cX4_init 1 = .ok (.invokespecial 3, 3) := by decide +kernel
theorem dX4_init_4 : decode cX4_init 4 = .ok (.aload_n 0, 1) := by decide +kernel
theorem dX4_init_5 : decode cX4_init 5 = .ok (.bipush 6, 2) := by decide +kernel
theorem dX4_init_7 : decode cX4_init 7 = .ok (.newarray .boolean, 2) := by decide +kernel
theorem dX4_init_9 : decode cX4_init 9 = .ok (.putfield 9, 3) := by decide +kernel
theorem dX4_init_12 : decode cX4_init 12 = .ok (.aload_n 0, 1) := by decide +kernel
theorem dX4_init_13 : decode cX4_init 13 = .ok (.bipush 6, 2) := by decide +kernel
theorem dX4_init_15 : decode cX4_init 15 = .ok (.newarray .int, 2) := by decide +kernel
theorem dX4_init_17 : decode cX4_init 17 = .ok (.putfield 15, 3) := by decide +kernel
theorem dX4_init_20 : decode cX4_init 20 = .ok (.aload_n 0, 1) := by decide +kernel
theorem dX4_init_21 : decode cX4_init 21 = .ok (.bipush 18, 2) := by decide +kernel
theorem dX4_init_23 : decode cX4_init 23 = .ok (.newarray .int, 2) := by decide +kernel
theorem dX4_init_25 : decode cX4_init 25 = .ok (.putfield 19, 3) := by decide +kernel
theorem dX4_init_28 : decode cX4_init 28 = .ok (.aload_n 0, 1) := by decide +kernel
theorem dX4_init_29 : decode cX4_init 29 = .ok (.iconst (-1), 1) := by decide +kernel
theorem dX4_init_30 : decode cX4_init 30 = .ok (.putfield 22, 3) := by decide +kernel
theorem dX4_init_33 : decode cX4_init 33 = .ok (.return_, 1) := by decide +kernel
theorem dX4_parse_0 : decode cX4_parse 0 = .ok (.aload_n 0, 1) := by decide +kernel
theorem dX4_parse_1 : decode cX4_parse 1 = .ok (.iconst 0, 1) := by decide +kernel
theorem dX4_parse_2 : decode cX4_parse 2 = .ok (.putfield 26, 3) := by decide +kernel
theorem dX4_parse_5 : decode cX4_parse 5 = .ok (.aload_n 0, 1) := by decide +kernel
theorem dX4_parse_6 : decode cX4_parse 6 = .ok (.aload_n 0, 1) := by decide +kernel
theorem dX4_parse_7 : decode cX4_parse 7 = .ok (.aload_n 1, 1) := by decide +kernel
theorem dX4_parse_8 : decode cX4_parse 8 = .ok (.invokevirtual 29, 3) := by decide +kernel
theorem dX4_parse_11 : decode cX4_parse 11 = .ok (.putfield 22, 3) := by decide +kernel
theorem dX4_parse_14 : decode cX4_parse 14 = .ok (.aload_n 0, 1) := by decide +kernel
theorem dX4_parse_15 : decode cX4_parse 15 = .ok (.getfield 22, 3) := by decide +kernel
theorem dX4_parse_18 : decode cX4_parse 18 = .ok (.iconst (-1), 1) := by decide +kernel
theorem dX4_parse_19 : decode cX4_parse 19 = .ok (.if_icmp .eq 8, 3) := by decide +kernel
theorem dX4_parse_22 : decode cX4_parse 22 = .ok (.aload_n 0, 1) := by decide +kernel
theorem dX4_parse_23 : decode cX4_parse 23 = .ok (.iconst 0, 1) := by decide +kernel
theorem dX4_parse_24 : decode cX4_parse 24 = .ok (.putfield 26, 3) := by decide +kernel
theorem dX4_parse_27 : decode cX4_parse 27 = .ok (.return_, 1) := by decide +kernel
theorem dX4_scan_0 : decode cX4_scan 0 = .ok (.iconst 0, 1) := by decide +kernel
theorem dX4_scan_1 : decode cX4_scan 1 = .ok (.istore_n 2, 1) := by decide +kernel
theorem dX4_scan_2 : decode cX4_scan 2 = .ok (.aload_n 1, 1) := by decide +kernel
theorem dX4_scan_3 : decode cX4_scan 3 = .ok (.invokevirtual 33, 3) := by decide +kernel
theorem dX4_scan_6 : decode cX4_scan 6 = .ok (.ifCond .ne 5, 3) := by decide +kernel
theorem dX4_scan_9 : decode cX4_scan 9 = .ok (.iconst (-1), 1) := by decide +kernel
theorem dX4_scan_10 : decode cX4_scan 10 = .ok (.ireturn, 1) := by decide +kernel
theorem dX4_scan_11 : decode cX4_scan 11 = .ok (.iconst 0, 1) := by decide +kernel
theorem dX4_scan_12 : decode cX4_scan 12 = .ok (.istore_n 3, 1) := by decide +kernel
theorem dX4_scan_13 : decode cX4_scan 13 = .ok (.iload_n 3, 1) := by decide +kernel
theorem dX4_scan_14 : decode cX4_scan 14 = .ok (.bipush 6, 2) := by decide +kernel
theorem dX4_scan_16 : decode cX4_scan 16 = .ok (.if_icmp .ge 114, 3) := by decide +kernel
theorem dX4_scan_19 : decode cX4_scan 19 = .ok (.aload_n 1, 1) := by decide +kernel
theorem dX4_scan_20 : decode cX4_scan 20 = .ok (.iload_n 2, 1) := by decide +kernel
theorem dX4_scan_21 : decode cX4_scan 21 = .ok (.invokevirtual 38, 3) := by decide +kernel
theorem dX4_scan_24 : decode cX4_scan 24 = .ok (.istore 4, 2) := by decide +kernel
theorem dX4_scan_26 : decode cX4_scan 26 = .ok (.iload 4, 2) := by decide +kernel
theorem dX4_scan_28 : decode cX4_scan 28 = .ok (.bipush 43, 2) := by decide +kernel
theorem dX4_scan_30 : decode cX4_scan 30 = .ok (.if_icmp .eq 12, 3) := by decide +kernel
theorem dX4_scan_33 : decode cX4_scan 33 = .ok (.iload 4, 2) := by decide +kernel
theorem dX4_scan_35 : decode cX4_scan 35 = .ok (.bipush 45, 2) := by decide +kernel
theorem dX4_scan_37 : decode cX4_scan 37 = .ok (.if_icmp .eq 5, 3) := by decide +kernel
theorem dX4_scan_40 : decode cX4_scan 40 = .ok (.iload_n 2, 1) := by decide +kernel
theorem dX4_scan_41 : decode cX4_scan 41 = .ok (.ireturn, 1) := by decide +kernel
theorem dX4_scan_42 : decode cX4_scan 42 = .ok (.iinc 2 1, 3) := by decide +kernel
theorem dX4_scan_45 : decode cX4_scan 45 = .ok (.aload_n 0, 1) := by decide +kernel
theorem dX4_scan_46 : decode cX4_scan 46 = .ok (.aload_n 1, 1) := by decide +kernel
theorem dX4_scan_47 : decode cX4_scan 47 = .ok (.iload_n 2, 1) := by decide +kernel
theorem dX4_scan_48 : decode cX4_scan 48 = .ok (.iload_n 3, 1) := by decide +kernel
theorem dX4_scan_49 : decode cX4_scan 49 = .ok (.invokevirtual 42, 3) := by decide +kernel
theorem dX4_scan_52 : decode cX4_scan 52 = .ok (.istore 5, 2) := by decide +kernel
theorem dX4_scan_54 : decode cX4_scan 54 = .ok (.iload_n 2, 1) := by decide +kernel
theorem dX4_scan_55 : decode cX4_scan 55 = .ok (.iload 5, 2) := by decide +kernel
theorem dX4_scan_57 : decode cX4_scan 57 = .ok (.iadd, 1) := by decide +kernel
theorem dX4_scan_58 : decode cX4_scan 58 = .ok (.istore_n 2, 1) := by decide +kernel
theorem dX4_scan_59 : decode cX4_scan 59 = .ok (.iload 5, 2) := by decide +kernel
theorem dX4_scan_61 : decode cX4_scan 61 = .ok (.ifCond .ne 5, 3) := by decide +kernel
theorem dX4_scan_64 : decode cX4_scan 64 = .ok (.iload_n 2, 1) := by decide +kernel
theorem dX4_scan_65 : decode cX4_scan 65 = .ok (.ireturn, 1) := by decide +kernel
theorem dX4_scan_66 : decode cX4_scan 66 = .ok (.aload_n 0, 1) := by decide +kernel
theorem dX4_scan_67 : decode cX4_scan 67 = .ok (.getfield 9, 3) := by decide +kernel
theorem dX4_scan_70 : decode cX4_scan 70 = .ok (.iload_n 3, 1) := by decide +kernel
theorem dX4_scan_71 : decode cX4_scan 71 = .ok (.iload 4, 2) := by decide +kernel
theorem dX4_scan_73 : decode cX4_scan 73 = .ok (.bipush 43, 2) := by decide +kernel
theorem dX4_scan_75 : decode cX4_scan 75 = .ok (.if_icmp .ne 7, 3) := by decide +kernel
theorem dX4_scan_78 : decode cX4_scan 78 = .ok (.iconst 1, 1) := by decide +kernel
theorem dX4_scan_79 : decode cX4_scan 79 = .ok (.goto 4, 3) := by decide +kernel
theorem dX4_scan_82 : decode cX4_scan 82 = .ok (.iconst 0, 1) := by decide +kernel
theorem dX4_scan_83 : decode cX4_scan 83 = .ok (.bastore, 1) := by decide +kernel
theorem dX4_scan_84 : decode cX4_scan 84 = .ok (.aload_n 0, 1) := by decide +kernel
theorem dX4_scan_85 : decode cX4_scan 85 = .ok (.getfield 15, 3) := by decide +kernel
theorem dX4_scan_88 : decode cX4_scan 88 = .ok (.iload_n 3, 1) := by decide +kernel
theorem dX4_scan_89 : decode cX4_scan 89 = .ok (.iload 5, 2) := by decide +kernel
theorem dX4_scan_91 : decode cX4_scan 91 = .ok (.iastore, 1) := by decide +kernel
theorem dX4_scan_92 : decode cX4_scan 92 = .ok (.aload_n 0, 1) := by decide +kernel
theorem dX4_scan_93 : decode cX4_scan 93 = .ok (.iload_n 3, 1) := by decide +kernel
theorem dX4_scan_94 : decode cX4_scan 94 = .ok (.iconst 1, 1) := by decide +kernel
theorem dX4_scan_95 : decode cX4_scan 95 = .ok (.iadd, 1) := by decide +kernel
theorem dX4_scan_96 : decode cX4_scan 96 = .ok (.putfield 26, 3) := by decide +kernel
theorem dX4_scan_99 : decode cX4_scan 99 = .ok (.iload_n 2, 1) := by decide +kernel
theorem dX4_scan_100 : decode cX4_scan 100 = .ok (.aload_n 1, 1) := by decide +kernel
theorem dX4_scan_101 : decode cX4_scan 101 = .ok (.invokevirtual 33, 3) := by decide +kernel
theorem dX4_scan_104 : decode cX4_scan 104 = .ok (.if_icmp .ne 5, 3) := by decide +kernel
theorem dX4_scan_107 : decode cX4_scan 107 = .ok (.iconst (-1), 1) := by decide +kernel
theorem dX4_scan_108 : decode cX4_scan 108 = .ok (.ireturn, 1) := by decide +kernel
theorem dX4_scan_109 : decode cX4_scan 109 = .ok (.aload_n 1, 1) := by decide +kernel
theorem dX4_scan_110 : decode cX4_scan 110 = .ok (.iload_n 2, 1) := by decide +kernel
theorem dX4_scan_111 : decode cX4_scan 111 = .ok (.invokevirtual 38, 3) := by decide +kernel
theorem dX4_scan_114 : decode cX4_scan 114 = .ok (.bipush 59, 2) := by decide +kernel
theorem dX4_scan_116 : decode cX4_scan 116 = .ok (.if_icmp .eq 5, 3) := by decide +kernel
theorem dX4_scan_119 : decode cX4_scan 119 = .ok (.iload_n 2, 1) := by decide +kernel
theorem dX4_scan_120 : decode cX4_scan 120 = .ok (.ireturn, 1) := by decide +kernel
theorem dX4_scan_121 : decode cX4_scan 121 = .ok (.iinc 2 1, 3) := by decide +kernel
theorem dX4_scan_124 : decode cX4_scan 124 = .ok (.iinc 3 1, 3) := by decide +kernel
theorem dX4_scan_127 : decode cX4_scan 127 = .ok (.goto (-114), 3) := by decide +kernel
theorem dX4_scan_130 : decode cX4_scan 130 = .ok (.iload_n 2, 1) := by decide +kernel
theorem dX4_scan_131 : decode cX4_scan 131 = .ok (.ireturn, 1) := by decide +kernel
theorem dX4_takeLetters_0 : decode cX4_takeLetters 0 = .ok (.iconst 0, 1) := by decide +kernel
theorem dX4_takeLetters_1 : decode cX4_takeLetters 1 = .ok (.istore 4, 2) := by decide +kernel
theorem dX4_takeLetters_3 : decode cX4_takeLetters 3 = .ok (.iload 4, 2) := by decide +kernel
theorem dX4_takeLetters_5 : decode cX4_takeLetters 5 = .ok (.iconst 3, 1) := by decide +kernel
theorem dX4_takeLetters_6 : decode cX4_takeLetters 6 = .ok (.if_icmp .ge 44, 3) := by decide +kernel
theorem dX4_takeLetters_9 : decode cX4_takeLetters 9 = .ok (.aload_n 1, 1) := by decide +kernel
theorem dX4_takeLetters_10 : decode cX4_takeLetters 10 = .ok (.iload_n 2, 1) := by decide +kernel
theorem dX4_takeLetters_11 : decode cX4_takeLetters 11 = .ok (.iload 4, 2) := by decide +kernel
theorem dX4_takeLetters_13 : decode cX4_takeLetters 13 = .ok (.iadd, 1) := by decide +kernel
theorem dX4_takeLetters_14 : decode cX4_takeLetters 14 = .ok (.invokevirtual 38, 3) := by decide +kernel
theorem dX4_takeLetters_17 : decode cX4_takeLetters 17 = .ok (.invokestatic 46, 3) := by decide +kernel
theorem dX4_takeLetters_20 : decode cX4_takeLetters 20 = .ok (.istore 5, 2) := by decide +kernel
theorem dX4_takeLetters_22 : decode cX4_takeLetters 22 = .ok (.iload 5, 2) := by decide +kernel
theorem dX4_takeLetters_24 : decode cX4_takeLetters 24 = .ok (.iconst (-1), 1) := by decide +kernel
theorem dX4_takeLetters_25 : decode cX4_takeLetters 25 = .ok (.if_icmp .ne 6, 3) := by decide +kernel
theorem dX4_takeLetters_28 : decode cX4_takeLetters 28 = .ok (.iload 4, 2) := by decide +kernel
theorem dX4_takeLetters_30 : decode cX4_takeLetters 30 = .ok (.ireturn, 1) := by decide +kernel
theorem dX4_takeLetters_31 : decode cX4_takeLetters 31 = .ok (.aload_n 0, 1) := by decide +kernel
theorem dX4_takeLetters_32 : decode cX4_takeLetters 32 = .ok (.getfield 19, 3) := by decide +kernel
theorem dX4_takeLetters_35 : decode cX4_takeLetters 35 = .ok (.iload_n 3, 1) := by decide +kernel
theorem dX4_takeLetters_36 : decode cX4_takeLetters 36 = .ok (.iconst 3, 1) := by decide +kernel
theorem dX4_takeLetters_37 : decode cX4_takeLetters 37 = .ok (.imul, 1) := by decide +kernel
theorem dX4_takeLetters_38 : decode cX4_takeLetters 38 = .ok (.iload 4, 2) := by decide +kernel
theorem dX4_takeLetters_40 : decode cX4_takeLetters 40 = .ok (.iadd, 1) := by decide +kernel
theorem dX4_takeLetters_41 : decode cX4_takeLetters 41 = .ok (.iload 5, 2) := by decide +kernel
theorem dX4_takeLetters_43 : decode cX4_takeLetters 43 = .ok (.iastore, 1) := by decide +kernel
theorem dX4_takeLetters_44 : decode cX4_takeLetters 44 = .ok (.iinc 4 1, 3) := by decide +kernel
theorem dX4_takeLetters_47 : decode cX4_takeLetters 47 = .ok (.goto (-44), 3) := by decide +kernel
theorem dX4_takeLetters_50 : decode cX4_takeLetters 50 = .ok (.iconst 3, 1) := by decide +kernel
theorem dX4_takeLetters_51 : decode cX4_takeLetters 51 = .ok (.ireturn, 1) := by decide +kernel
theorem dX4_size_0 : decode cX4_size 0 = .ok (.aload_n 0, 1) := by decide +kernel
theorem dX4_size_1 : decode cX4_size 1 = .ok (.getfield 26, 3) := by decide +kernel
theorem dX4_size_4 : decode cX4_size 4 = .ok (.ireturn, 1) := by decide +kernel
theorem dX4_faultPlace_0 : decode cX4_faultPlace 0 = .ok (.aload_n 0, 1) := by decide +kernel
theorem dX4_faultPlace_1 : decode cX4_faultPlace 1 = .ok (.getfield 22, 3) := by decide +kernel
theorem dX4_faultPlace_4 : decode cX4_faultPlace 4 = .ok (.ireturn, 1) := by decide +kernel
theorem dX4_has_0 : decode cX4_has 0 = .ok (.iload_n 1, 1) := by decide +kernel
theorem dX4_has_1 : decode cX4_has 1 = .ok (.ifCond .lt 15, 3) := by decide +kernel
theorem dX4_has_4 : decode cX4_has 4 = .ok (.iload_n 1, 1) := by decide +kernel
theorem dX4_has_5 : decode cX4_has 5 = .ok (.aload_n 0, 1) := by decide +kernel
theorem dX4_has_6 : decode cX4_has 6 = .ok (.getfield 26, 3) := by decide +kernel
theorem dX4_has_9 : decode cX4_has 9 = .ok (.if_icmp .ge 7, 3) := by decide +kernel
theorem dX4_has_12 : decode cX4_has 12 = .ok (.iconst 1, 1) := by decide +kernel
theorem dX4_has_13 : decode cX4_has 13 = .ok (.goto 4, 3) := by decide +kernel
theorem dX4_has_16 : decode cX4_has 16 = .ok (.iconst 0, 1) := by decide +kernel
theorem dX4_has_17 : decode cX4_has 17 = .ok (.ireturn, 1) := by decide +kernel
theorem dX4_isTrueOf_0 : decode cX4_isTrueOf 0 = .ok (.iload_n 1, 1) := by decide +kernel
theorem dX4_isTrueOf_1 : decode cX4_isTrueOf 1 = .ok (.ifCond .lt 11, 3) := by decide +kernel
theorem dX4_isTrueOf_4 : decode cX4_isTrueOf 4 = .ok (.iload_n 1, 1) := by decide +kernel
theorem dX4_isTrueOf_5 : decode cX4_isTrueOf 5 = .ok (.aload_n 0, 1) := by decide +kernel
theorem dX4_isTrueOf_6 : decode cX4_isTrueOf 6 = .ok (.getfield 26, 3) := by decide +kernel
theorem dX4_isTrueOf_9 : decode cX4_isTrueOf 9 = .ok (.if_icmp .lt 5, 3) := by decide +kernel
theorem dX4_isTrueOf_12 : decode cX4_isTrueOf 12 = .ok (.iconst 0, 1) := by decide +kernel
theorem dX4_isTrueOf_13 : decode cX4_isTrueOf 13 = .ok (.ireturn, 1) := by decide +kernel
theorem dX4_isTrueOf_14 : decode cX4_isTrueOf 14 = .ok (.aload_n 2, 1) := by decide +kernel
theorem dX4_isTrueOf_15 : decode cX4_isTrueOf 15 = .ok (.iload_n 3, 1) := by decide +kernel
theorem dX4_isTrueOf_16 : decode cX4_isTrueOf 16 = .ok (.invokevirtual 49, 3) := by decide +kernel
theorem dX4_isTrueOf_19 : decode cX4_isTrueOf 19 = .ok (.aload_n 0, 1) := by decide +kernel
theorem dX4_isTrueOf_20 : decode cX4_isTrueOf 20 = .ok (.getfield 15, 3) := by decide +kernel
theorem dX4_isTrueOf_23 : decode cX4_isTrueOf 23 = .ok (.iload_n 1, 1) := by decide +kernel
theorem dX4_isTrueOf_24 : decode cX4_isTrueOf 24 = .ok (.iaload, 1) := by decide +kernel
theorem dX4_isTrueOf_25 : decode cX4_isTrueOf 25 = .ok (.isub, 1) := by decide +kernel
theorem dX4_isTrueOf_26 : decode cX4_isTrueOf 26 = .ok (.istore 4, 2) := by decide +kernel
theorem dX4_isTrueOf_28 : decode cX4_isTrueOf 28 = .ok (.iconst 0, 1) := by decide +kernel
theorem dX4_isTrueOf_29 : decode cX4_isTrueOf 29 = .ok (.istore 5, 2) := by decide +kernel
theorem dX4_isTrueOf_31 : decode cX4_isTrueOf 31 = .ok (.iload 5, 2) := by decide +kernel
theorem dX4_isTrueOf_33 : decode cX4_isTrueOf 33 = .ok (.iload 4, 2) := by decide +kernel
theorem dX4_isTrueOf_35 : decode cX4_isTrueOf 35 = .ok (.if_icmp .gt 28, 3) := by decide +kernel
theorem dX4_isTrueOf_38 : decode cX4_isTrueOf 38 = .ok (.aload_n 0, 1) := by decide +kernel
theorem dX4_isTrueOf_39 : decode cX4_isTrueOf 39 = .ok (.iload_n 1, 1) := by decide +kernel
theorem dX4_isTrueOf_40 : decode cX4_isTrueOf 40 = .ok (.aload_n 2, 1) := by decide +kernel
theorem dX4_isTrueOf_41 : decode cX4_isTrueOf 41 = .ok (.iload_n 3, 1) := by decide +kernel
theorem dX4_isTrueOf_42 : decode cX4_isTrueOf 42 = .ok (.iload 5, 2) := by decide +kernel
theorem dX4_isTrueOf_44 : decode cX4_isTrueOf 44 = .ok (.invokevirtual 54, 3) := by decide +kernel
theorem dX4_isTrueOf_47 : decode cX4_isTrueOf 47 = .ok (.ifCond .eq 10, 3) := by decide +kernel
theorem dX4_isTrueOf_50 : decode cX4_isTrueOf 50 = .ok (.aload_n 0, 1) := by decide +kernel
theorem dX4_isTrueOf_51 : decode cX4_isTrueOf 51 = .ok (.getfield 9, 3) := by decide +kernel
theorem dX4_isTrueOf_54 : decode cX4_isTrueOf 54 = .ok (.iload_n 1, 1) := by decide +kernel
theorem dX4_isTrueOf_55 : decode cX4_isTrueOf 55 = .ok (.baload, 1) := by decide +kernel
theorem dX4_isTrueOf_56 : decode cX4_isTrueOf 56 = .ok (.ireturn, 1) := by decide +kernel
theorem dX4_isTrueOf_57 : decode cX4_isTrueOf 57 = .ok (.iinc 5 1, 3) := by decide +kernel
theorem dX4_isTrueOf_60 : decode cX4_isTrueOf 60 = .ok (.goto (-29), 3) := by decide +kernel
theorem dX4_isTrueOf_63 : decode cX4_isTrueOf 63 = .ok (.aload_n 0, 1) := by decide +kernel
theorem dX4_isTrueOf_64 : decode cX4_isTrueOf 64 = .ok (.getfield 9, 3) := by decide +kernel
theorem dX4_isTrueOf_67 : decode cX4_isTrueOf 67 = .ok (.iload_n 1, 1) := by decide +kernel
theorem dX4_isTrueOf_68 : decode cX4_isTrueOf 68 = .ok (.baload, 1) := by decide +kernel
theorem dX4_isTrueOf_69 : decode cX4_isTrueOf 69 = .ok (.ifCond .ne 7, 3) := by decide +kernel
theorem dX4_isTrueOf_72 : decode cX4_isTrueOf 72 = .ok (.iconst 1, 1) := by decide +kernel
theorem dX4_isTrueOf_73 : decode cX4_isTrueOf 73 = .ok (.goto 4, 3) := by decide +kernel
theorem dX4_isTrueOf_76 : decode cX4_isTrueOf 76 = .ok (.iconst 0, 1) := by decide +kernel
theorem dX4_isTrueOf_77 : decode cX4_isTrueOf 77 = .ok (.ireturn, 1) := by decide +kernel
theorem dX4_isAt_0 : decode cX4_isAt 0 = .ok (.iconst 0, 1) := by decide +kernel
theorem dX4_isAt_1 : decode cX4_isAt 1 = .ok (.istore 5, 2) := by decide +kernel
theorem dX4_isAt_3 : decode cX4_isAt 3 = .ok (.iload 5, 2) := by decide +kernel
theorem dX4_isAt_5 : decode cX4_isAt 5 = .ok (.aload_n 0, 1) := by decide +kernel
theorem dX4_isAt_6 : decode cX4_isAt 6 = .ok (.getfield 15, 3) := by decide +kernel
theorem dX4_isAt_9 : decode cX4_isAt 9 = .ok (.iload_n 1, 1) := by decide +kernel
theorem dX4_isAt_10 : decode cX4_isAt 10 = .ok (.iaload, 1) := by decide +kernel
theorem dX4_isAt_11 : decode cX4_isAt 11 = .ok (.if_icmp .ge 35, 3) := by decide +kernel
theorem dX4_isAt_14 : decode cX4_isAt 14 = .ok (.aload_n 2, 1) := by decide +kernel
theorem dX4_isAt_15 : decode cX4_isAt 15 = .ok (.iload_n 3, 1) := by decide +kernel
theorem dX4_isAt_16 : decode cX4_isAt 16 = .ok (.iload 4, 2) := by decide +kernel
theorem dX4_isAt_18 : decode cX4_isAt 18 = .ok (.iload 5, 2) := by decide +kernel
theorem dX4_isAt_20 : decode cX4_isAt 20 = .ok (.iadd, 1) := by decide +kernel
theorem dX4_isAt_21 : decode cX4_isAt 21 = .ok (.invokevirtual 58, 3) := by decide +kernel
theorem dX4_isAt_24 : decode cX4_isAt 24 = .ok (.aload_n 0, 1) := by decide +kernel
theorem dX4_isAt_25 : decode cX4_isAt 25 = .ok (.getfield 19, 3) := by decide +kernel
theorem dX4_isAt_28 : decode cX4_isAt 28 = .ok (.iload_n 1, 1) := by decide +kernel
theorem dX4_isAt_29 : decode cX4_isAt 29 = .ok (.iconst 3, 1) := by decide +kernel
theorem dX4_isAt_30 : decode cX4_isAt 30 = .ok (.imul, 1) := by decide +kernel
theorem dX4_isAt_31 : decode cX4_isAt 31 = .ok (.iload 5, 2) := by decide +kernel
theorem dX4_isAt_33 : decode cX4_isAt 33 = .ok (.iadd, 1) := by decide +kernel
theorem dX4_isAt_34 : decode cX4_isAt 34 = .ok (.iaload, 1) := by decide +kernel
theorem dX4_isAt_35 : decode cX4_isAt 35 = .ok (.if_icmp .eq 5, 3) := by decide +kernel
theorem dX4_isAt_38 : decode cX4_isAt 38 = .ok (.iconst 0, 1) := by decide +kernel
theorem dX4_isAt_39 : decode cX4_isAt 39 = .ok (.ireturn, 1) := by decide +kernel
theorem dX4_isAt_40 : decode cX4_isAt 40 = .ok (.iinc 5 1, 3) := by decide +kernel
theorem dX4_isAt_43 : decode cX4_isAt 43 = .ok (.goto (-40), 3) := by decide +kernel
theorem dX4_isAt_46 : decode cX4_isAt 46 = .ok (.iconst 1, 1) := by decide +kernel
theorem dX4_isAt_47 : decode cX4_isAt 47 = .ok (.ireturn, 1) := by decide +kernel
theorem dX5_init_0 : decode cX5_init 0 = .ok (.aload_n 0, 1) := by decide +kernel
theorem dX5_init_1 : decode cX5_init 1 = .ok (.invokespecial 3, 3) := by decide +kernel
theorem dX5_init_4 : decode cX5_init 4 = .ok (.aload_n 0, 1) := by decide +kernel
theorem dX5_init_5 : decode cX5_init 5 = .ok (.bipush 60, 2) := by decide +kernel
theorem dX5_init_7 : decode cX5_init 7 = .ok (.newarray .int, 2) := by decide +kernel
theorem dX5_init_9 : decode cX5_init 9 = .ok (.putfield 9, 3) := by decide +kernel
theorem dX5_init_12 : decode cX5_init 12 = .ok (.aload_n 0, 1) := by decide +kernel
theorem dX5_init_13 : decode cX5_init 13 = .ok (.iconst (-1), 1) := by decide +kernel
theorem dX5_init_14 : decode cX5_init 14 = .ok (.putfield 15, 3) := by decide +kernel
theorem dX5_init_17 : decode cX5_init 17 = .ok (.return_, 1) := by decide +kernel
theorem dX5_isLost_0 : decode cX5_isLost 0 = .ok (.aload_n 0, 1) := by decide +kernel
theorem dX5_isLost_1 : decode cX5_isLost 1 = .ok (.getfield 15, 3) := by decide +kernel
theorem dX5_isLost_4 : decode cX5_isLost 4 = .ok (.iconst (-1), 1) := by decide +kernel
theorem dX5_isLost_5 : decode cX5_isLost 5 = .ok (.if_icmp .ne 7, 3) := by decide +kernel
theorem dX5_isLost_8 : decode cX5_isLost 8 = .ok (.iconst 1, 1) := by decide +kernel
theorem dX5_isLost_9 : decode cX5_isLost 9 = .ok (.goto 4, 3) := by decide +kernel
theorem dX5_isLost_12 : decode cX5_isLost 12 = .ok (.iconst 0, 1) := by decide +kernel
theorem dX5_isLost_13 : decode cX5_isLost 13 = .ok (.ireturn, 1) := by decide +kernel
theorem dX5_form_0 : decode cX5_form 0 = .ok (.aload_n 0, 1) := by decide +kernel
theorem dX5_form_1 : decode cX5_form 1 = .ok (.getfield 19, 3) := by decide +kernel
theorem dX5_form_4 : decode cX5_form 4 = .ok (.ireturn, 1) := by decide +kernel
theorem dX5_size_0 : decode cX5_size 0 = .ok (.aload_n 0, 1) := by decide +kernel
theorem dX5_size_1 : decode cX5_size 1 = .ok (.getfield 15, 3) := by decide +kernel
theorem dX5_size_4 : decode cX5_size 4 = .ok (.ireturn, 1) := by decide +kernel
theorem dX5_begin_0 : decode cX5_begin 0 = .ok (.aload_n 0, 1) := by decide +kernel
theorem dX5_begin_1 : decode cX5_begin 1 = .ok (.iload_n 1, 1) := by decide +kernel
theorem dX5_begin_2 : decode cX5_begin 2 = .ok (.putfield 19, 3) := by decide +kernel
theorem dX5_begin_5 : decode cX5_begin 5 = .ok (.aload_n 0, 1) := by decide +kernel
theorem dX5_begin_6 : decode cX5_begin 6 = .ok (.iload_n 2, 1) := by decide +kernel
theorem dX5_begin_7 : decode cX5_begin 7 = .ok (.bipush 60, 2) := by decide +kernel
theorem dX5_begin_9 : decode cX5_begin 9 = .ok (.invokestatic 22, 3) := by decide +kernel
theorem dX5_begin_12 : decode cX5_begin 12 = .ok (.invokevirtual 28, 3) := by decide +kernel
theorem dX5_begin_15 : decode cX5_begin 15 = .ok (.aload_n 0, 1) := by decide +kernel
theorem dX5_begin_16 : decode cX5_begin 16 = .ok (.getfield 9, 3) := by decide +kernel
theorem dX5_begin_19 : decode cX5_begin 19 = .ok (.iconst 0, 1) := by decide +kernel
theorem dX5_begin_20 : decode cX5_begin 20 = .ok (.invokestatic 32, 3) := by decide +kernel
theorem dX5_begin_23 : decode cX5_begin 23 = .ok (.return_, 1) := by decide +kernel
theorem dX5_become_0 : decode cX5_become 0 = .ok (.aload_n 0, 1) := by decide +kernel
theorem dX5_become_1 : decode cX5_become 1 = .ok (.iload_n 1, 1) := by decide +kernel
theorem dX5_become_2 : decode cX5_become 2 = .ok (.putfield 15, 3) := by decide +kernel
theorem dX5_become_5 : decode cX5_become 5 = .ok (.return_, 1) := by decide +kernel
theorem dX5_holds_0 : decode cX5_holds 0 = .ok (.iload_n 1, 1) := by decide +kernel
theorem dX5_holds_1 : decode cX5_holds 1 = .ok (.ifCond .lt 25, 3) := by decide +kernel
theorem dX5_holds_4 : decode cX5_holds 4 = .ok (.iload_n 2, 1) := by decide +kernel
theorem dX5_holds_5 : decode cX5_holds 5 = .ok (.ifCond .lt 21, 3) := by decide +kernel
theorem dX5_holds_8 : decode cX5_holds 8 = .ok (.iload_n 1, 1) := by decide +kernel
theorem dX5_holds_9 : decode cX5_holds 9 = .ok (.i2l, 1) := by decide +kernel
theorem dX5_holds_10 : decode cX5_holds 10 = .ok (.iload_n 2, 1) := by decide +kernel
theorem dX5_holds_11 : decode cX5_holds 11 = .ok (.i2l, 1) := by decide +kernel
theorem dX5_holds_12 : decode cX5_holds 12 = .ok (.ladd, 1) := by decide +kernel
theorem dX5_holds_13 : decode cX5_holds 13 = .ok (.aload_n 0, 1) := by decide +kernel
theorem dX5_holds_14 : decode cX5_holds 14 = .ok (.getfield 15, 3) := by decide +kernel
theorem dX5_holds_17 : decode cX5_holds 17 = .ok (.i2l, 1) := by decide +kernel
theorem dX5_holds_18 : decode cX5_holds 18 = .ok (.lcmp, 1) := by decide +kernel
theorem dX5_holds_19 : decode cX5_holds 19 = .ok (.ifCond .gt 7, 3) := by decide +kernel
theorem dX5_holds_22 : decode cX5_holds 22 = .ok (.iconst 1, 1) := by decide +kernel
theorem dX5_holds_23 : decode cX5_holds 23 = .ok (.goto 4, 3) := by decide +kernel
theorem dX5_holds_26 : decode cX5_holds 26 = .ok (.iconst 0, 1) := by decide +kernel
theorem dX5_holds_27 : decode cX5_holds 27 = .ok (.ireturn, 1) := by decide +kernel
theorem dX5_item_0 : decode cX5_item 0 = .ok (.iload_n 1, 1) := by decide +kernel
theorem dX5_item_1 : decode cX5_item 1 = .ok (.ifCond .lt 29, 3) := by decide +kernel
theorem dX5_item_4 : decode cX5_item 4 = .ok (.iload_n 1, 1) := by decide +kernel
theorem dX5_item_5 : decode cX5_item 5 = .ok (.aload_n 0, 1) := by decide +kernel
theorem dX5_item_6 : decode cX5_item 6 = .ok (.getfield 15, 3) := by decide +kernel
theorem dX5_item_9 : decode cX5_item 9 = .ok (.if_icmp .ge 21, 3) := by decide +kernel
theorem dX5_item_12 : decode cX5_item 12 = .ok (.iload_n 1, 1) := by decide +kernel
theorem dX5_item_13 : decode cX5_item 13 = .ok (.aload_n 0, 1) := by decide +kernel
theorem dX5_item_14 : decode cX5_item 14 = .ok (.getfield 9, 3) := by decide +kernel
theorem dX5_item_17 : decode cX5_item 17 = .ok (.arraylength, 1) := by decide +kernel
theorem dX5_item_18 : decode cX5_item 18 = .ok (.if_icmp .ge 12, 3) := by decide +kernel
theorem dX5_item_21 : decode cX5_item 21 = .ok (.aload_n 0, 1) := by decide +kernel
theorem dX5_item_22 : decode cX5_item 22 = .ok (.getfield 9, 3) := by decide +kernel
theorem dX5_item_25 : decode cX5_item 25 = .ok (.iload_n 1, 1) := by decide +kernel
theorem dX5_item_26 : decode cX5_item 26 = .ok (.iaload, 1) := by decide +kernel
theorem dX5_item_27 : decode cX5_item 27 = .ok (.goto 4, 3) := by decide +kernel
theorem dX5_item_30 : decode cX5_item 30 = .ok (.iconst 0, 1) := by decide +kernel
theorem dX5_item_31 : decode cX5_item 31 = .ok (.ireturn, 1) := by decide +kernel
theorem dX5_put_0 : decode cX5_put 0 = .ok (.iload_n 1, 1) := by decide +kernel
theorem dX5_put_1 : decode cX5_put 1 = .ok (.ifCond .lt 31, 3) := by decide +kernel
theorem dX5_put_4 : decode cX5_put 4 = .ok (.iload_n 1, 1) := by decide +kernel
theorem dX5_put_5 : decode cX5_put 5 = .ok (.aload_n 0, 1) := by decide +kernel
theorem dX5_put_6 : decode cX5_put 6 = .ok (.getfield 15, 3) := by decide +kernel
theorem dX5_put_9 : decode cX5_put 9 = .ok (.if_icmp .ge 23, 3) := by decide +kernel
theorem dX5_put_12 : decode cX5_put 12 = .ok (.iload_n 1, 1) := by decide +kernel
theorem dX5_put_13 : decode cX5_put 13 = .ok (.aload_n 0, 1) := by decide +kernel
theorem dX5_put_14 : decode cX5_put 14 = .ok (.getfield 9, 3) := by decide +kernel
theorem dX5_put_17 : decode cX5_put 17 = .ok (.arraylength, 1) := by decide +kernel
theorem dX5_put_18 : decode cX5_put 18 = .ok (.if_icmp .ge 14, 3) := by decide +kernel
theorem dX5_put_21 : decode cX5_put 21 = .ok (.aload_n 0, 1) := by decide +kernel
theorem dX5_put_22 : decode cX5_put 22 = .ok (.getfield 9, 3) := by decide +kernel
theorem dX5_put_25 : decode cX5_put 25 = .ok (.iload_n 1, 1) := by decide +kernel
theorem dX5_put_26 : decode cX5_put 26 = .ok (.aload_n 0, 1) := by decide +kernel
theorem dX5_put_27 : decode cX5_put 27 = .ok (.iload_n 2, 1) := by decide +kernel
theorem dX5_put_28 : decode cX5_put 28 = .ok (.invokevirtual 38, 3) := by decide +kernel
theorem dX5_put_31 : decode cX5_put 31 = .ok (.iastore, 1) := by decide +kernel
theorem dX5_put_32 : decode cX5_put 32 = .ok (.return_, 1) := by decide +kernel
theorem dX5_asOfForm_0 : decode cX5_asOfForm 0 = .ok (.aload_n 0, 1) := by decide +kernel
theorem dX5_asOfForm_1 : decode cX5_asOfForm 1 = .ok (.getfield 19, 3) := by decide +kernel
theorem dX5_asOfForm_4 : decode cX5_asOfForm 4 = .ok (.ifCond .ne 6, 3) := by decide +kernel
theorem dX5_asOfForm_7 : decode cX5_asOfForm 7 = .ok (.iload_n 1, 1) := by decide +kernel
theorem dX5_asOfForm_8 : decode cX5_asOfForm 8 = .ok (.i2b, 1) := by decide +kernel
theorem dX5_asOfForm_9 : decode cX5_asOfForm 9 = .ok (.ireturn, 1) := by decide +kernel
theorem dX5_asOfForm_10 : decode cX5_asOfForm 10 = .ok (.aload_n 0, 1) := by decide +kernel
theorem dX5_asOfForm_11 : decode cX5_asOfForm 11 = .ok (.getfield 19, 3) := by decide +kernel
theorem dX5_asOfForm_14 : decode cX5_asOfForm 14 = .ok (.iconst 1, 1) := by decide +kernel
theorem dX5_asOfForm_15 : decode cX5_asOfForm 15 = .ok (.if_icmp .ne 8, 3) := by decide +kernel
theorem dX5_asOfForm_18 : decode cX5_asOfForm 18 = .ok (.iload_n 1, 1) := by decide +kernel
theorem dX5_asOfForm_19 : decode cX5_asOfForm 19 = .ok (.i2s, 1) := by decide +kernel
theorem dX5_asOfForm_20 : decode cX5_asOfForm 20 = .ok (.goto 4, 3) := by decide +kernel
theorem dX5_asOfForm_23 : decode cX5_asOfForm 23 = .ok (.iload_n 1, 1) := by decide +kernel
theorem dX5_asOfForm_24 : decode cX5_asOfForm 24 = .ok (.ireturn, 1) := by decide +kernel
theorem dX5_take_0 : decode cX5_take 0 = .ok (.aload_n 1, 1) := by decide +kernel
theorem dX5_take_1 : decode cX5_take 1 = .ok (.iload_n 2, 1) := by decide +kernel
theorem dX5_take_2 : decode cX5_take 2 = .ok (.iload 4, 2) := by decide +kernel
theorem dX5_take_4 : decode cX5_take 4 = .ok (.invokevirtual 42, 3) := by decide +kernel
theorem dX5_take_7 : decode cX5_take 7 = .ok (.ifCond .eq 28, 3) := by decide +kernel
theorem dX5_take_10 : decode cX5_take 10 = .ok (.aload_n 0, 1) := by decide +kernel
theorem dX5_take_11 : decode cX5_take 11 = .ok (.iload_n 3, 1) := by decide +kernel
theorem dX5_take_12 : decode cX5_take 12 = .ok (.iload 4, 2) := by decide +kernel
theorem dX5_take_14 : decode cX5_take 14 = .ok (.invokevirtual 42, 3) := by decide +kernel
theorem dX5_take_17 : decode cX5_take 17 = .ok (.ifCond .eq 18, 3) := by decide +kernel
theorem dX5_take_20 : decode cX5_take 20 = .ok (.aload_n 1, 1) := by decide +kernel
theorem dX5_take_21 : decode cX5_take 21 = .ok (.getfield 9, 3) := by decide +kernel
theorem dX5_take_24 : decode cX5_take 24 = .ok (.iload_n 2, 1) := by decide +kernel
theorem dX5_take_25 : decode cX5_take 25 = .ok (.aload_n 0, 1) := by decide +kernel
theorem dX5_take_26 : decode cX5_take 26 = .ok (.getfield 9, 3) := by decide +kernel
theorem dX5_take_29 : decode cX5_take 29 = .ok (.iload_n 3, 1) := by decide +kernel
theorem dX5_take_30 : decode cX5_take 30 = .ok (.iload 4, 2) := by decide +kernel
theorem dX5_take_32 : decode cX5_take 32 = .ok (.invokestatic 46, 3) := by decide +kernel
theorem dX5_take_35 : decode cX5_take 35 = .ok (.return_, 1) := by decide +kernel
theorem dX6_init_0 : decode cX6_init 0 = .ok (.aload_n 0, 1) := by decide +kernel
theorem dX6_init_1 : decode cX6_init 1 = .ok (.invokespecial 3, 3) := by decide +kernel
theorem dX6_init_4 : decode cX6_init 4 = .ok (.aload_n 0, 1) := by decide +kernel
theorem dX6_init_5 : decode cX6_init 5 = .ok (.bipush 6, 2) := by decide +kernel
theorem dX6_init_7 : decode cX6_init 7 = .ok (.newarray .int, 2) := by decide +kernel
theorem dX6_init_9 : decode cX6_init 9 = .ok (.putfield 9, 3) := by decide +kernel
theorem dX6_init_12 : decode cX6_init 12 = .ok (.aload_n 0, 1) := by decide +kernel
theorem dX6_init_13 : decode cX6_init 13 = .ok (.iconst (-1), 1) := by decide +kernel
theorem dX6_init_14 : decode cX6_init 14 = .ok (.putfield 15, 3) := by decide +kernel
theorem dX6_init_17 : decode cX6_init 17 = .ok (.return_, 1) := by decide +kernel
theorem dX6_parse_0 : decode cX6_parse 0 = .ok (.aload_n 0, 1) := by decide +kernel
theorem dX6_parse_1 : decode cX6_parse 1 = .ok (.iconst 0, 1) := by decide +kernel
theorem dX6_parse_2 : decode cX6_parse 2 = .ok (.putfield 19, 3) := by decide +kernel
theorem dX6_parse_5 : decode cX6_parse 5 = .ok (.aload_n 0, 1) := by decide +kernel
theorem dX6_parse_6 : decode cX6_parse 6 = .ok (.iconst (-1), 1) := by decide +kernel
theorem dX6_parse_7 : decode cX6_parse 7 = .ok (.putfield 15, 3) := by decide +kernel
theorem dX6_parse_10 : decode cX6_parse 10 = .ok (.aload_n 1, 1) := by decide +kernel
theorem dX6_parse_11 : decode cX6_parse 11 = .ok (.invokevirtual 22, 3) := by decide +kernel
theorem dX6_parse_14 : decode cX6_parse 14 = .ok (.bipush 6, 2) := by decide +kernel
theorem dX6_parse_16 : decode cX6_parse 16 = .ok (.invokestatic 27, 3) := by decide +kernel
theorem dX6_parse_19 : decode cX6_parse 19 = .ok (.istore_n 2, 1) := by decide +kernel
theorem dX6_parse_20 : decode cX6_parse 20 = .ok (.iconst 0, 1) := by decide +kernel
theorem dX6_parse_21 : decode cX6_parse 21 = .ok (.istore_n 3, 1) := by decide +kernel
theorem dX6_parse_22 : decode cX6_parse 22 = .ok (.iload_n 3, 1) := by decide +kernel
theorem dX6_parse_23 : decode cX6_parse 23 = .ok (.iload_n 2, 1) := by decide +kernel
theorem dX6_parse_24 : decode cX6_parse 24 = .ok (.if_icmp .ge 50, 3) := by decide +kernel
theorem dX6_parse_27 : decode cX6_parse 27 = .ok (.aload_n 1, 1) := by decide +kernel
theorem dX6_parse_28 : decode cX6_parse 28 = .ok (.iload_n 3, 1) := by decide +kernel
theorem dX6_parse_29 : decode cX6_parse 29 = .ok (.invokevirtual 33, 3) := by decide +kernel
theorem dX6_parse_32 : decode cX6_parse 32 = .ok (.istore 4, 2) := by decide +kernel
theorem dX6_parse_34 : decode cX6_parse 34 = .ok (.aload_n 0, 1) := by decide +kernel
theorem dX6_parse_35 : decode cX6_parse 35 = .ok (.getfield 9, 3) := by decide +kernel
theorem dX6_parse_38 : decode cX6_parse 38 = .ok (.iload_n 3, 1) := by decide +kernel
theorem dX6_parse_39 : decode cX6_parse 39 = .ok (.iload 4, 2) := by decide +kernel
theorem dX6_parse_41 : decode cX6_parse 41 = .ok (.invokestatic 37, 3) := by decide +kernel
theorem dX6_parse_44 : decode cX6_parse 44 = .ok (.iastore, 1) := by decide +kernel
theorem dX6_parse_45 : decode cX6_parse 45 = .ok (.aload_n 0, 1) := by decide +kernel
theorem dX6_parse_46 : decode cX6_parse 46 = .ok (.getfield 9, 3) := by decide +kernel
theorem dX6_parse_49 : decode cX6_parse 49 = .ok (.iload_n 3, 1) := by decide +kernel
theorem dX6_parse_50 : decode cX6_parse 50 = .ok (.iaload, 1) := by decide +kernel
theorem dX6_parse_51 : decode cX6_parse 51 = .ok (.iconst (-1), 1) := by decide +kernel
theorem dX6_parse_52 : decode cX6_parse 52 = .ok (.if_icmp .ne 16, 3) := by decide +kernel
theorem dX6_parse_55 : decode cX6_parse 55 = .ok (.iload 4, 2) := by decide +kernel
theorem dX6_parse_57 : decode cX6_parse 57 = .ok (.bipush 46, 2) := by decide +kernel
theorem dX6_parse_59 : decode cX6_parse 59 = .ok (.if_icmp .eq 9, 3) := by decide +kernel
theorem dX6_parse_62 : decode cX6_parse 62 = .ok (.aload_n 0, 1) := by decide +kernel
theorem dX6_parse_63 : decode cX6_parse 63 = .ok (.iload_n 3, 1) := by decide +kernel
theorem dX6_parse_64 : decode cX6_parse 64 = .ok (.putfield 15, 3) := by decide +kernel
theorem dX6_parse_67 : decode cX6_parse 67 = .ok (.return_, 1) := by decide +kernel
theorem dX6_parse_68 : decode cX6_parse 68 = .ok (.iinc 3 1, 3) := by decide +kernel
theorem dX6_parse_71 : decode cX6_parse 71 = .ok (.goto (-49), 3) := by decide +kernel
theorem dX6_parse_74 : decode cX6_parse 74 = .ok (.aload_n 0, 1) := by decide +kernel
theorem dX6_parse_75 : decode cX6_parse 75 = .ok (.iload_n 2, 1) := by decide +kernel
theorem dX6_parse_76 : decode cX6_parse 76 = .ok (.putfield 19, 3) := by decide +kernel
theorem dX6_parse_79 : decode cX6_parse 79 = .ok (.return_, 1) := by decide +kernel
theorem dX6_size_0 : decode cX6_size 0 = .ok (.aload_n 0, 1) := by decide +kernel
theorem dX6_size_1 : decode cX6_size 1 = .ok (.getfield 19, 3) := by decide +kernel
theorem dX6_size_4 : decode cX6_size 4 = .ok (.ireturn, 1) := by decide +kernel
theorem dX6_faultPlace_0 : decode cX6_faultPlace 0 = .ok (.aload_n 0, 1) := by decide +kernel
theorem dX6_faultPlace_1 : decode cX6_faultPlace 1 = .ok (.getfield 15, 3) := by decide +kernel
theorem dX6_faultPlace_4 : decode cX6_faultPlace 4 = .ok (.ireturn, 1) := by decide +kernel
theorem dX6_isTrueOf_0 : decode cX6_isTrueOf 0 = .ok (.aload_n 0, 1) := by decide +kernel
theorem dX6_isTrueOf_1 : decode cX6_isTrueOf 1 = .ok (.getfield 19, 3) := by decide +kernel
theorem dX6_isTrueOf_4 : decode cX6_isTrueOf 4 = .ok (.ifCond .ne 5, 3) := by decide +kernel
theorem dX6_isTrueOf_7 : decode cX6_isTrueOf 7 = .ok (.iconst 1, 1) := by decide +kernel
theorem dX6_isTrueOf_8 : decode cX6_isTrueOf 8 = .ok (.ireturn, 1) := by decide +kernel
theorem dX6_isTrueOf_9 : decode cX6_isTrueOf 9 = .ok (.aload_n 1, 1) := by decide +kernel
theorem dX6_isTrueOf_10 : decode cX6_isTrueOf 10 = .ok (.iload_n 2, 1) := by decide +kernel
theorem dX6_isTrueOf_11 : decode cX6_isTrueOf 11 = .ok (.invokevirtual 40, 3) := by decide +kernel
theorem dX6_isTrueOf_14 : decode cX6_isTrueOf 14 = .ok (.aload_n 0, 1) := by decide +kernel
theorem dX6_isTrueOf_15 : decode cX6_isTrueOf 15 = .ok (.getfield 19, 3) := by decide +kernel
theorem dX6_isTrueOf_18 : decode cX6_isTrueOf 18 = .ok (.if_icmp .eq 5, 3) := by decide +kernel
theorem dX6_isTrueOf_21 : decode cX6_isTrueOf 21 = .ok (.iconst 0, 1) := by decide +kernel
theorem dX6_isTrueOf_22 : decode cX6_isTrueOf 22 = .ok (.ireturn, 1) := by decide +kernel
theorem dX6_isTrueOf_23 : decode cX6_isTrueOf 23 = .ok (.iconst 0, 1) := by decide +kernel
theorem dX6_isTrueOf_24 : decode cX6_isTrueOf 24 = .ok (.istore_n 3, 1) := by decide +kernel
theorem dX6_isTrueOf_25 : decode cX6_isTrueOf 25 = .ok (.iload_n 3, 1) := by decide +kernel
theorem dX6_isTrueOf_26 : decode cX6_isTrueOf 26 = .ok (.aload_n 0, 1) := by decide +kernel
theorem dX6_isTrueOf_27 : decode cX6_isTrueOf 27 = .ok (.getfield 19, 3) := by decide +kernel
theorem dX6_isTrueOf_30 : decode cX6_isTrueOf 30 = .ok (.if_icmp .ge 36, 3) := by decide +kernel
theorem dX6_isTrueOf_33 : decode cX6_isTrueOf 33 = .ok (.aload_n 0, 1) := by decide +kernel
theorem dX6_isTrueOf_34 : decode cX6_isTrueOf 34 = .ok (.getfield 9, 3) := by decide +kernel
theorem dX6_isTrueOf_37 : decode cX6_isTrueOf 37 = .ok (.iload_n 3, 1) := by decide +kernel
theorem dX6_isTrueOf_38 : decode cX6_isTrueOf 38 = .ok (.iaload, 1) := by decide +kernel
theorem dX6_isTrueOf_39 : decode cX6_isTrueOf 39 = .ok (.iconst (-1), 1) := by decide +kernel
theorem dX6_isTrueOf_40 : decode cX6_isTrueOf 40 = .ok (.if_icmp .eq 20, 3) := by decide +kernel
theorem dX6_isTrueOf_43 : decode cX6_isTrueOf 43 = .ok (.aload_n 0, 1) := by decide +kernel
theorem dX6_isTrueOf_44 : decode cX6_isTrueOf 44 = .ok (.getfield 9, 3) := by decide +kernel
theorem dX6_isTrueOf_47 : decode cX6_isTrueOf 47 = .ok (.iload_n 3, 1) := by decide +kernel
theorem dX6_isTrueOf_48 : decode cX6_isTrueOf 48 = .ok (.iaload, 1) := by decide +kernel
theorem dX6_isTrueOf_49 : decode cX6_isTrueOf 49 = .ok (.aload_n 1, 1) := by decide +kernel
theorem dX6_isTrueOf_50 : decode cX6_isTrueOf 50 = .ok (.iload_n 2, 1) := by decide +kernel
theorem dX6_isTrueOf_51 : decode cX6_isTrueOf 51 = .ok (.iload_n 3, 1) := by decide +kernel
theorem dX6_isTrueOf_52 : decode cX6_isTrueOf 52 = .ok (.invokevirtual 45, 3) := by decide +kernel
theorem dX6_isTrueOf_55 : decode cX6_isTrueOf 55 = .ok (.if_icmp .eq 5, 3) := by decide +kernel
theorem dX6_isTrueOf_58 : decode cX6_isTrueOf 58 = .ok (.iconst 0, 1) := by decide +kernel
theorem dX6_isTrueOf_59 : decode cX6_isTrueOf 59 = .ok (.ireturn, 1) := by decide +kernel
theorem dX6_isTrueOf_60 : decode cX6_isTrueOf 60 = .ok (.iinc 3 1, 3) := by decide +kernel
theorem dX6_isTrueOf_63 : decode cX6_isTrueOf 63 = .ok (.goto (-38), 3) := by decide +kernel
theorem dX6_isTrueOf_66 : decode cX6_isTrueOf 66 = .ok (.iconst 1, 1) := by decide +kernel
theorem dX6_isTrueOf_67 : decode cX6_isTrueOf 67 = .ok (.ireturn, 1) := by decide +kernel
theorem dX7_init_0 : decode cX7_init 0 = .ok (.aload_n 0, 1) := by decide +kernel
theorem dX7_init_1 : decode cX7_init 1 = .ok (.invokespecial 3, 3) := by decide +kernel
theorem dX7_init_4 : decode cX7_init 4 = .ok (.aload_n 0, 1) := by decide +kernel
theorem dX7_init_5 : decode cX7_init 5 = .ok (.sipush 1024, 3) := by decide +kernel
theorem dX7_init_8 : decode cX7_init 8 = .ok (.newarray .int, 2) := by decide +kernel
theorem dX7_init_10 : decode cX7_init 10 = .ok (.putfield 9, 3) := by decide +kernel
theorem dX7_init_13 : decode cX7_init 13 = .ok (.aload_n 0, 1) := by decide +kernel
theorem dX7_init_14 : decode cX7_init 14 = .ok (.iconst 1, 1) := by decide +kernel
theorem dX7_init_15 : decode cX7_init 15 = .ok (.putfield 15, 3) := by decide +kernel
theorem dX7_init_18 : decode cX7_init 18 = .ok (.aload_n 0, 1) := by decide +kernel
theorem dX7_init_19 : decode cX7_init 19 = .ok (.aload_n 1, 1) := by decide +kernel
theorem dX7_init_20 : decode cX7_init 20 = .ok (.putfield 19, 3) := by decide +kernel
theorem dX7_init_23 : decode cX7_init 23 = .ok (.return_, 1) := by decide +kernel
theorem dX7_forgetAll_0 : decode cX7_forgetAll 0 = .ok (.aload_n 0, 1) := by decide +kernel
theorem dX7_forgetAll_1 : decode cX7_forgetAll 1 = .ok (.iconst 1, 1) := by decide +kernel
theorem dX7_forgetAll_2 : decode cX7_forgetAll 2 = .ok (.putfield 15, 3) := by decide +kernel
theorem dX7_forgetAll_5 : decode cX7_forgetAll 5 = .ok (.return_, 1) := by decide +kernel
theorem dX7_bestPlace_0 : decode cX7_bestPlace 0 = .ok (.iconst 0, 1) := by decide +kernel
theorem dX7_bestPlace_1 : decode cX7_bestPlace 1 = .ok (.istore_n 2, 1) := by decide +kernel
theorem dX7_bestPlace_2 : decode cX7_bestPlace 2 = .ok (.iconst 1, 1) := by decide +kernel
theorem dX7_bestPlace_3 : decode cX7_bestPlace 3 = .ok (.istore_n 3, 1) := by decide +kernel
theorem dX7_bestPlace_4 : decode cX7_bestPlace 4 = .ok (.iload_n 3, 1) := by decide +kernel
theorem dX7_bestPlace_5 : decode cX7_bestPlace 5 = .ok (.bipush 6, 2) := by decide +kernel
theorem dX7_bestPlace_7 : decode cX7_bestPlace 7 = .ok (.if_icmp .ge 26, 3) := by decide +kernel
theorem dX7_bestPlace_10 : decode cX7_bestPlace 10 = .ok (.aload_n 0, 1) := by decide +kernel
theorem dX7_bestPlace_11 : decode cX7_bestPlace 11 = .ok (.iload_n 1, 1) := by decide +kernel
theorem dX7_bestPlace_12 : decode cX7_bestPlace 12 = .ok (.iload_n 3, 1) := by decide +kernel
theorem dX7_bestPlace_13 : decode cX7_bestPlace 13 = .ok (.invokevirtual 23, 3) := by decide +kernel
theorem dX7_bestPlace_16 : decode cX7_bestPlace 16 = .ok (.aload_n 0, 1) := by decide +kernel
theorem dX7_bestPlace_17 : decode cX7_bestPlace 17 = .ok (.iload_n 1, 1) := by decide +kernel
theorem dX7_bestPlace_18 : decode cX7_bestPlace 18 = .ok (.iload_n 2, 1) := by decide +kernel
theorem dX7_bestPlace_19 : decode cX7_bestPlace 19 = .ok (.invokevirtual 23, 3) := by decide +kernel
theorem dX7_bestPlace_22 : decode cX7_bestPlace 22 = .ok (.if_icmp .ge 5, 3) := by decide +kernel
theorem dX7_bestPlace_25 : decode cX7_bestPlace 25 = .ok (.iload_n 3, 1) := by decide +kernel
theorem dX7_bestPlace_26 : decode cX7_bestPlace 26 = .ok (.istore_n 2, 1) := by decide +kernel
theorem dX7_bestPlace_27 : decode cX7_bestPlace 27 = .ok (.iinc 3 1, 3) := by decide +kernel
theorem dX7_bestPlace_30 : decode cX7_bestPlace 30 = .ok (.goto (-26), 3) := by decide +kernel
theorem dX7_bestPlace_33 : decode cX7_bestPlace 33 = .ok (.iload_n 2, 1) := by decide +kernel
theorem dX7_bestPlace_34 : decode cX7_bestPlace 34 = .ok (.ireturn, 1) := by decide +kernel
theorem dX7_leftAtWorst_0 : decode cX7_leftAtWorst 0 = .ok (.iconst 0, 1) := by decide +kernel
theorem dX7_leftAtWorst_1 : decode cX7_leftAtWorst 1 = .ok (.istore_n 3, 1) := by decide +kernel
theorem dX7_leftAtWorst_2 : decode cX7_leftAtWorst 2 = .ok (.iconst (-1), 1) := by decide +kernel
theorem dX7_leftAtWorst_3 : decode cX7_leftAtWorst 3 = .ok (.istore 4, 2) := by decide +kernel
theorem dX7_leftAtWorst_5 : decode cX7_leftAtWorst 5 = .ok (.iload 4, 2) := by decide +kernel
theorem dX7_leftAtWorst_7 : decode cX7_leftAtWorst 7 = .ok (.bipush 6, 2) := by decide +kernel
theorem dX7_leftAtWorst_9 : decode cX7_leftAtWorst 9 = .ok (.if_icmp .ge 29, 3) := by decide +kernel
theorem dX7_leftAtWorst_12 : decode cX7_leftAtWorst 12 = .ok (.iload_n 3, 1) := by decide +kernel
theorem dX7_leftAtWorst_13 : decode cX7_leftAtWorst 13 = .ok (.iload_n 1, 1) := by decide +kernel
theorem dX7_leftAtWorst_14 : decode cX7_leftAtWorst 14 = .ok (.aload_n 0, 1) := by decide +kernel
theorem dX7_leftAtWorst_15 : decode cX7_leftAtWorst 15 = .ok (.getfield 19, 3) := by decide +kernel
theorem dX7_leftAtWorst_18 : decode cX7_leftAtWorst 18 = .ok (.iload_n 2, 1) := by decide +kernel
theorem dX7_leftAtWorst_19 : decode cX7_leftAtWorst 19 = .ok (.iload 4, 2) := by decide +kernel
theorem dX7_leftAtWorst_21 : decode cX7_leftAtWorst 21 = .ok (.invokevirtual 27, 3) := by decide +kernel
theorem dX7_leftAtWorst_24 : decode cX7_leftAtWorst 24 = .ok (.iand, 1) := by decide +kernel
theorem dX7_leftAtWorst_25 : decode cX7_leftAtWorst 25 = .ok (.invokestatic 32, 3) := by decide +kernel
theorem dX7_leftAtWorst_28 : decode cX7_leftAtWorst 28 = .ok (.invokestatic 38, 3) := by decide +kernel
theorem dX7_leftAtWorst_31 : decode cX7_leftAtWorst 31 = .ok (.istore_n 3, 1) := by decide +kernel
theorem dX7_leftAtWorst_32 : decode cX7_leftAtWorst 32 = .ok (.iinc 4 1, 3) := by decide +kernel
theorem dX7_leftAtWorst_35 : decode cX7_leftAtWorst 35 = .ok (.goto (-30), 3) := by decide +kernel
theorem dX7_leftAtWorst_38 : decode cX7_leftAtWorst 38 = .ok (.iload_n 3, 1) := by decide +kernel
theorem dX7_leftAtWorst_39 : decode cX7_leftAtWorst 39 = .ok (.ireturn, 1) := by decide +kernel
theorem dX7_nightsAtWorst_0 : decode cX7_nightsAtWorst 0 = .ok (.iload_n 1, 1) := by decide +kernel
theorem dX7_nightsAtWorst_1 : decode cX7_nightsAtWorst 1 = .ok (.sipush 1023, 3) := by decide +kernel
theorem dX7_nightsAtWorst_4 : decode cX7_nightsAtWorst 4 = .ok (.iand, 1) := by decide +kernel
theorem dX7_nightsAtWorst_5 : decode cX7_nightsAtWorst 5 = .ok (.istore_n 2, 1) := by decide +kernel
theorem dX7_nightsAtWorst_6 : decode cX7_nightsAtWorst 6 = .ok (.aload_n 0, 1) := by decide +kernel
theorem dX7_nightsAtWorst_7 : decode cX7_nightsAtWorst 7 = .ok (.getfield 15, 3) := by decide +kernel
theorem dX7_nightsAtWorst_10 : decode cX7_nightsAtWorst 10 = .ok (.ifCond .ne 11, 3) := by decide +kernel
theorem dX7_nightsAtWorst_13 : decode cX7_nightsAtWorst 13 = .ok (.aload_n 0, 1) := by decide +kernel
theorem dX7_nightsAtWorst_14 : decode cX7_nightsAtWorst 14 = .ok (.getfield 43, 3) := by decide +kernel
theorem dX7_nightsAtWorst_17 : decode cX7_nightsAtWorst 17 = .ok (.iload_n 2, 1) := by decide +kernel
theorem dX7_nightsAtWorst_18 : decode cX7_nightsAtWorst 18 = .ok (.if_icmp .eq 18, 3) := by decide +kernel
theorem dX7_nightsAtWorst_21 : decode cX7_nightsAtWorst 21 = .ok (.aload_n 0, 1) := by decide +kernel
theorem dX7_nightsAtWorst_22 : decode cX7_nightsAtWorst 22 = .ok (.iconst 0, 1) := by decide +kernel
theorem dX7_nightsAtWorst_23 : decode cX7_nightsAtWorst 23 = .ok (.putfield 15, 3) := by decide +kernel
theorem dX7_nightsAtWorst_26 : decode cX7_nightsAtWorst 26 = .ok (.aload_n 0, 1) := by decide +kernel
theorem dX7_nightsAtWorst_27 : decode cX7_nightsAtWorst 27 = .ok (.iload_n 2, 1) := by decide +kernel
theorem dX7_nightsAtWorst_28 : decode cX7_nightsAtWorst 28 = .ok (.putfield 43, 3) := by decide +kernel
theorem dX7_nightsAtWorst_31 : decode cX7_nightsAtWorst 31 = .ok (.aload_n 0, 1) := by decide +kernel
theorem dX7_nightsAtWorst_32 : decode cX7_nightsAtWorst 32 = .ok (.iload_n 2, 1) := by decide +kernel
theorem dX7_nightsAtWorst_33 : decode cX7_nightsAtWorst 33 = .ok (.invokevirtual 47, 3) := by decide +kernel
theorem dX7_nightsAtWorst_36 : decode cX7_nightsAtWorst 36 = .ok (.aload_n 0, 1) := by decide +kernel
theorem dX7_nightsAtWorst_37 : decode cX7_nightsAtWorst 37 = .ok (.getfield 9, 3) := by decide +kernel
theorem dX7_nightsAtWorst_40 : decode cX7_nightsAtWorst 40 = .ok (.iload_n 2, 1) := by decide +kernel
theorem dX7_nightsAtWorst_41 : decode cX7_nightsAtWorst 41 = .ok (.iaload, 1) := by decide +kernel
theorem dX7_nightsAtWorst_42 : decode cX7_nightsAtWorst 42 = .ok (.ireturn, 1) := by decide +kernel
theorem dX7_settle_0 : decode cX7_settle 0 = .ok (.iconst 1, 1) := by decide +kernel
theorem dX7_settle_1 : decode cX7_settle 1 = .ok (.iload_n 1, 1) := by decide +kernel
theorem dX7_settle_2 : decode cX7_settle 2 = .ok (.invokestatic 32, 3) := by decide +kernel
theorem dX7_settle_5 : decode cX7_settle 5 = .ok (.ishl, 1) := by decide +kernel
theorem dX7_settle_6 : decode cX7_settle 6 = .ok (.istore_n 2, 1) := by decide +kernel
theorem dX7_settle_7 : decode cX7_settle 7 = .ok (.iconst 0, 1) := by decide +kernel
theorem dX7_settle_8 : decode cX7_settle 8 = .ok (.istore_n 3, 1) := by decide +kernel
theorem dX7_settle_9 : decode cX7_settle 9 = .ok (.iconst 1, 1) := by decide +kernel
theorem dX7_settle_10 : decode cX7_settle 10 = .ok (.istore 4, 2) := by decide +kernel
theorem dX7_settle_12 : decode cX7_settle 12 = .ok (.iload 4, 2) := by decide +kernel
theorem dX7_settle_14 : decode cX7_settle 14 = .ok (.iload_n 2, 1) := by decide +kernel
theorem dX7_settle_15 : decode cX7_settle 15 = .ok (.if_icmp .ge 26, 3) := by decide +kernel
theorem dX7_settle_18 : decode cX7_settle 18 = .ok (.iload_n 3, 1) := by decide +kernel
theorem dX7_settle_19 : decode cX7_settle 19 = .ok (.iload_n 1, 1) := by decide +kernel
theorem dX7_settle_20 : decode cX7_settle 20 = .ok (.isub, 1) := by decide +kernel
theorem dX7_settle_21 : decode cX7_settle 21 = .ok (.iload_n 1, 1) := by decide +kernel
theorem dX7_settle_22 : decode cX7_settle 22 = .ok (.iand, 1) := by decide +kernel
theorem dX7_settle_23 : decode cX7_settle 23 = .ok (.istore_n 3, 1) := by decide +kernel
theorem dX7_settle_24 : decode cX7_settle 24 = .ok (.aload_n 0, 1) := by decide +kernel
theorem dX7_settle_25 : decode cX7_settle 25 = .ok (.getfield 9, 3) := by decide +kernel
theorem dX7_settle_28 : decode cX7_settle 28 = .ok (.iload_n 3, 1) := by decide +kernel
