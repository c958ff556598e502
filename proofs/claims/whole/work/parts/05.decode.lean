theorem dX7_settle_29 : decode cX7_settle 29 = .ok (.aload_n 0, 1) := by decide +kernel
theorem dX7_settle_30 : decode cX7_settle 30 = .ok (.iload_n 3, 1) := by decide +kernel
theorem dX7_settle_31 : decode cX7_settle 31 = .ok (.invokevirtual 51, 3) := by decide +kernel
theorem dX7_settle_34 : decode cX7_settle 34 = .ok (.iastore, 1) := by decide +kernel
theorem dX7_settle_35 : decode cX7_settle 35 = .ok (.iinc 4 1, 3) := by decide +kernel
theorem dX7_settle_38 : decode cX7_settle 38 = .ok (.goto (-26), 3) := by decide +kernel
theorem dX7_settle_41 : decode cX7_settle 41 = .ok (.return_, 1) := by decide +kernel
theorem dX7_fewestNights_0 : decode cX7_fewestNights 0 = .ok (.bipush 10, 2) := by decide +kernel
theorem dX7_fewestNights_2 : decode cX7_fewestNights 2 = .ok (.istore_n 2, 1) := by decide +kernel
theorem dX7_fewestNights_3 : decode cX7_fewestNights 3 = .ok (.iconst 0, 1) := by decide +kernel
theorem dX7_fewestNights_4 : decode cX7_fewestNights 4 = .ok (.istore_n 3, 1) := by decide +kernel
theorem dX7_fewestNights_5 : decode cX7_fewestNights 5 = .ok (.iload_n 3, 1) := by decide +kernel
theorem dX7_fewestNights_6 : decode cX7_fewestNights 6 = .ok (.bipush 10, 2) := by decide +kernel
theorem dX7_fewestNights_8 : decode cX7_fewestNights 8 = .ok (.if_icmp .ge 36, 3) := by decide +kernel
theorem dX7_fewestNights_11 : decode cX7_fewestNights 11 = .ok (.iload_n 1, 1) := by decide +kernel
theorem dX7_fewestNights_12 : decode cX7_fewestNights 12 = .ok (.iconst 1, 1) := by decide +kernel
theorem dX7_fewestNights_13 : decode cX7_fewestNights 13 = .ok (.iload_n 3, 1) := by decide +kernel
theorem dX7_fewestNights_14 : decode cX7_fewestNights 14 = .ok (.ishl, 1) := by decide +kernel
theorem dX7_fewestNights_15 : decode cX7_fewestNights 15 = .ok (.iand, 1) := by decide +kernel
theorem dX7_fewestNights_16 : decode cX7_fewestNights 16 = .ok (.ifCond .eq 22, 3) := by decide +kernel
theorem dX7_fewestNights_19 : decode cX7_fewestNights 19 = .ok (.iload_n 2, 1) := by decide +kernel
theorem dX7_fewestNights_20 : decode cX7_fewestNights 20 = .ok (.iconst 1, 1) := by decide +kernel
theorem dX7_fewestNights_21 : decode cX7_fewestNights 21 = .ok (.aload_n 0, 1) := by decide +kernel
theorem dX7_fewestNights_22 : decode cX7_fewestNights 22 = .ok (.getfield 9, 3) := by decide +kernel
theorem dX7_fewestNights_25 : decode cX7_fewestNights 25 = .ok (.iload_n 1, 1) := by decide +kernel
theorem dX7_fewestNights_26 : decode cX7_fewestNights 26 = .ok (.iconst 1, 1) := by decide +kernel
theorem dX7_fewestNights_27 : decode cX7_fewestNights 27 = .ok (.iload_n 3, 1) := by decide +kernel
theorem dX7_fewestNights_28 : decode cX7_fewestNights 28 = .ok (.ishl, 1) := by decide +kernel
theorem dX7_fewestNights_29 : decode cX7_fewestNights 29 = .ok (.iconst (-1), 1) := by decide +kernel
theorem dX7_fewestNights_30 : decode cX7_fewestNights 30 = .ok (.ixor, 1) := by decide +kernel
theorem dX7_fewestNights_31 : decode cX7_fewestNights 31 = .ok (.iand, 1) := by decide +kernel
theorem dX7_fewestNights_32 : decode cX7_fewestNights 32 = .ok (.iaload, 1) := by decide +kernel
theorem dX7_fewestNights_33 : decode cX7_fewestNights 33 = .ok (.iadd, 1) := by decide +kernel
theorem dX7_fewestNights_34 : decode cX7_fewestNights 34 = .ok (.invokestatic 54, 3) := by decide +kernel
theorem dX7_fewestNights_37 : decode cX7_fewestNights 37 = .ok (.istore_n 2, 1) := by decide +kernel
theorem dX7_fewestNights_38 : decode cX7_fewestNights 38 = .ok (.iinc 3 1, 3) := by decide +kernel
theorem dX7_fewestNights_41 : decode cX7_fewestNights 41 = .ok (.goto (-36), 3) := by decide +kernel
theorem dX7_fewestNights_44 : decode cX7_fewestNights 44 = .ok (.iconst 0, 1) := by decide +kernel
theorem dX7_fewestNights_45 : decode cX7_fewestNights 45 = .ok (.istore_n 3, 1) := by decide +kernel
theorem dX7_fewestNights_46 : decode cX7_fewestNights 46 = .ok (.iload_n 3, 1) := by decide +kernel
theorem dX7_fewestNights_47 : decode cX7_fewestNights 47 = .ok (.bipush 6, 2) := by decide +kernel
theorem dX7_fewestNights_49 : decode cX7_fewestNights 49 = .ok (.if_icmp .ge 22, 3) := by decide +kernel
theorem dX7_fewestNights_52 : decode cX7_fewestNights 52 = .ok (.iload_n 2, 1) := by decide +kernel
theorem dX7_fewestNights_53 : decode cX7_fewestNights 53 = .ok (.iconst 1, 1) := by decide +kernel
theorem dX7_fewestNights_54 : decode cX7_fewestNights 54 = .ok (.aload_n 0, 1) := by decide +kernel
theorem dX7_fewestNights_55 : decode cX7_fewestNights 55 = .ok (.iload_n 3, 1) := by decide +kernel
theorem dX7_fewestNights_56 : decode cX7_fewestNights 56 = .ok (.iload_n 1, 1) := by decide +kernel
theorem dX7_fewestNights_57 : decode cX7_fewestNights 57 = .ok (.invokevirtual 57, 3) := by decide +kernel
theorem dX7_fewestNights_60 : decode cX7_fewestNights 60 = .ok (.iadd, 1) := by decide +kernel
theorem dX7_fewestNights_61 : decode cX7_fewestNights 61 = .ok (.invokestatic 54, 3) := by decide +kernel
theorem dX7_fewestNights_64 : decode cX7_fewestNights 64 = .ok (.istore_n 2, 1) := by decide +kernel
theorem dX7_fewestNights_65 : decode cX7_fewestNights 65 = .ok (.iinc 3 1, 3) := by decide +kernel
theorem dX7_fewestNights_68 : decode cX7_fewestNights 68 = .ok (.goto (-22), 3) := by decide +kernel
theorem dX7_fewestNights_71 : decode cX7_fewestNights 71 = .ok (.iload_n 2, 1) := by decide +kernel
theorem dX7_fewestNights_72 : decode cX7_fewestNights 72 = .ok (.ireturn, 1) := by decide +kernel
theorem dX7_nightsBehind_0 : decode cX7_nightsBehind 0 = .ok (.iconst 0, 1) := by decide +kernel
theorem dX7_nightsBehind_1 : decode cX7_nightsBehind 1 = .ok (.istore_n 3, 1) := by decide +kernel
theorem dX7_nightsBehind_2 : decode cX7_nightsBehind 2 = .ok (.iconst (-1), 1) := by decide +kernel
theorem dX7_nightsBehind_3 : decode cX7_nightsBehind 3 = .ok (.istore 4, 2) := by decide +kernel
theorem dX7_nightsBehind_5 : decode cX7_nightsBehind 5 = .ok (.iload 4, 2) := by decide +kernel
theorem dX7_nightsBehind_7 : decode cX7_nightsBehind 7 = .ok (.bipush 6, 2) := by decide +kernel
theorem dX7_nightsBehind_9 : decode cX7_nightsBehind 9 = .ok (.if_icmp .ge 44, 3) := by decide +kernel
theorem dX7_nightsBehind_12 : decode cX7_nightsBehind 12 = .ok (.iload_n 2, 1) := by decide +kernel
theorem dX7_nightsBehind_13 : decode cX7_nightsBehind 13 = .ok (.aload_n 0, 1) := by decide +kernel
theorem dX7_nightsBehind_14 : decode cX7_nightsBehind 14 = .ok (.getfield 19, 3) := by decide +kernel
theorem dX7_nightsBehind_17 : decode cX7_nightsBehind 17 = .ok (.iload_n 1, 1) := by decide +kernel
theorem dX7_nightsBehind_18 : decode cX7_nightsBehind 18 = .ok (.iload 4, 2) := by decide +kernel
theorem dX7_nightsBehind_20 : decode cX7_nightsBehind 20 = .ok (.invokevirtual 27, 3) := by decide +kernel
theorem dX7_nightsBehind_23 : decode cX7_nightsBehind 23 = .ok (.iand, 1) := by decide +kernel
theorem dX7_nightsBehind_24 : decode cX7_nightsBehind 24 = .ok (.istore 5, 2) := by decide +kernel
theorem dX7_nightsBehind_26 : decode cX7_nightsBehind 26 = .ok (.iload 5, 2) := by decide +kernel
theorem dX7_nightsBehind_28 : decode cX7_nightsBehind 28 = .ok (.iload_n 2, 1) := by decide +kernel
theorem dX7_nightsBehind_29 : decode cX7_nightsBehind 29 = .ok (.if_icmp .ne 6, 3) := by decide +kernel
theorem dX7_nightsBehind_32 : decode cX7_nightsBehind 32 = .ok (.bipush 10, 2) := by decide +kernel
theorem dX7_nightsBehind_34 : decode cX7_nightsBehind 34 = .ok (.ireturn, 1) := by decide +kernel
theorem dX7_nightsBehind_35 : decode cX7_nightsBehind 35 = .ok (.iload_n 3, 1) := by decide +kernel
theorem dX7_nightsBehind_36 : decode cX7_nightsBehind 36 = .ok (.aload_n 0, 1) := by decide +kernel
theorem dX7_nightsBehind_37 : decode cX7_nightsBehind 37 = .ok (.getfield 9, 3) := by decide +kernel
theorem dX7_nightsBehind_40 : decode cX7_nightsBehind 40 = .ok (.iload 5, 2) := by decide +kernel
theorem dX7_nightsBehind_42 : decode cX7_nightsBehind 42 = .ok (.iaload, 1) := by decide +kernel
theorem dX7_nightsBehind_43 : decode cX7_nightsBehind 43 = .ok (.invokestatic 38, 3) := by decide +kernel
theorem dX7_nightsBehind_46 : decode cX7_nightsBehind 46 = .ok (.istore_n 3, 1) := by decide +kernel
theorem dX7_nightsBehind_47 : decode cX7_nightsBehind 47 = .ok (.iinc 4 1, 3) := by decide +kernel
theorem dX7_nightsBehind_50 : decode cX7_nightsBehind 50 = .ok (.goto (-45), 3) := by decide +kernel
theorem dX7_nightsBehind_53 : decode cX7_nightsBehind 53 = .ok (.iload_n 3, 1) := by decide +kernel
theorem dX7_nightsBehind_54 : decode cX7_nightsBehind 54 = .ok (.ireturn, 1) := by decide +kernel
theorem dX8_init_0 : decode cX8_init 0 = .ok (.aload_n 0, 1) := by decide +kernel
theorem dX8_init_1 : decode cX8_init 1 = .ok (.invokespecial 3, 3) := by decide +kernel
theorem dX8_init_4 : decode cX8_init 4 = .ok (.aload_n 0, 1) := by decide +kernel
theorem dX8_init_5 : decode cX8_init 5 = .ok (.iconst 0, 1) := by decide +kernel
theorem dX8_init_6 : decode cX8_init 6 = .ok (.iload_n 1, 1) := by decide +kernel
theorem dX8_init_7 : decode cX8_init 7 = .ok (.invokestatic 9, 3) := by decide +kernel
theorem dX8_init_10 : decode cX8_init 10 = .ok (.newarray .int, 2) := by decide +kernel
theorem dX8_init_12 : decode cX8_init 12 = .ok (.putfield 15, 3) := by decide +kernel
theorem dX8_init_15 : decode cX8_init 15 = .ok (.return_, 1) := by decide +kernel
theorem dX8_size_0 : decode cX8_size 0 = .ok (.aload_n 0, 1) := by decide +kernel
theorem dX8_size_1 : decode cX8_size 1 = .ok (.getfield 21, 3) := by decide +kernel
theorem dX8_size_4 : decode cX8_size 4 = .ok (.ireturn, 1) := by decide +kernel
theorem dX8_isFull_0 : decode cX8_isFull 0 = .ok (.aload_n 0, 1) := by decide +kernel
theorem dX8_isFull_1 : decode cX8_isFull 1 = .ok (.getfield 21, 3) := by decide +kernel
theorem dX8_isFull_4 : decode cX8_isFull 4 = .ok (.aload_n 0, 1) := by decide +kernel
theorem dX8_isFull_5 : decode cX8_isFull 5 = .ok (.getfield 15, 3) := by decide +kernel
theorem dX8_isFull_8 : decode cX8_isFull 8 = .ok (.arraylength, 1) := by decide +kernel
theorem dX8_isFull_9 : decode cX8_isFull 9 = .ok (.if_icmp .lt 7, 3) := by decide +kernel
theorem dX8_isFull_12 : decode cX8_isFull 12 = .ok (.iconst 1, 1) := by decide +kernel
theorem dX8_isFull_13 : decode cX8_isFull 13 = .ok (.goto 4, 3) := by decide +kernel
theorem dX8_isFull_16 : decode cX8_isFull 16 = .ok (.iconst 0, 1) := by decide +kernel
theorem dX8_isFull_17 : decode cX8_isFull 17 = .ok (.ireturn, 1) := by decide +kernel
theorem dX8_append_0 : decode cX8_append 0 = .ok (.aload_n 0, 1) := by decide +kernel
theorem dX8_append_1 : decode cX8_append 1 = .ok (.getfield 21, 3) := by decide +kernel
theorem dX8_append_4 : decode cX8_append 4 = .ok (.ifCond .lt 35, 3) := by decide +kernel
theorem dX8_append_7 : decode cX8_append 7 = .ok (.aload_n 0, 1) := by decide +kernel
theorem dX8_append_8 : decode cX8_append 8 = .ok (.getfield 21, 3) := by decide +kernel
theorem dX8_append_11 : decode cX8_append 11 = .ok (.aload_n 0, 1) := by decide +kernel
theorem dX8_append_12 : decode cX8_append 12 = .ok (.getfield 15, 3) := by decide +kernel
theorem dX8_append_15 : decode cX8_append 15 = .ok (.arraylength, 1) := by decide +kernel
theorem dX8_append_16 : decode cX8_append 16 = .ok (.if_icmp .ge 23, 3) := by decide +kernel
theorem dX8_append_19 : decode cX8_append 19 = .ok (.aload_n 0, 1) := by decide +kernel
theorem dX8_append_20 : decode cX8_append 20 = .ok (.getfield 15, 3) := by decide +kernel
theorem dX8_append_23 : decode cX8_append 23 = .ok (.aload_n 0, 1) := by decide +kernel
theorem dX8_append_24 : decode cX8_append 24 = .ok (.getfield 21, 3) := by decide +kernel
theorem dX8_append_27 : decode cX8_append 27 = .ok (.iload_n 1, 1) := by decide +kernel
theorem dX8_append_28 : decode cX8_append 28 = .ok (.iastore, 1) := by decide +kernel
theorem dX8_append_29 : decode cX8_append 29 = .ok (.aload_n 0, 1) := by decide +kernel
theorem dX8_append_30 : decode cX8_append 30 = .ok (.dup, 1) := by decide +kernel
theorem dX8_append_31 : decode cX8_append 31 = .ok (.getfield 21, 3) := by decide +kernel
theorem dX8_append_34 : decode cX8_append 34 = .ok (.iconst 1, 1) := by decide +kernel
theorem dX8_append_35 : decode cX8_append 35 = .ok (.iadd, 1) := by decide +kernel
theorem dX8_append_36 : decode cX8_append 36 = .ok (.putfield 21, 3) := by decide +kernel
theorem dX8_append_39 : decode cX8_append 39 = .ok (.return_, 1) := by decide +kernel
theorem dX8_dropLast_0 : decode cX8_dropLast 0 = .ok (.aload_n 0, 1) := by decide +kernel
theorem dX8_dropLast_1 : decode cX8_dropLast 1 = .ok (.getfield 21, 3) := by decide +kernel
theorem dX8_dropLast_4 : decode cX8_dropLast 4 = .ok (.ifCond .le 13, 3) := by decide +kernel
theorem dX8_dropLast_7 : decode cX8_dropLast 7 = .ok (.aload_n 0, 1) := by decide +kernel
theorem dX8_dropLast_8 : decode cX8_dropLast 8 = .ok (.dup, 1) := by decide +kernel
theorem dX8_dropLast_9 : decode cX8_dropLast 9 = .ok (.getfield 21, 3) := by decide +kernel
theorem dX8_dropLast_12 : decode cX8_dropLast 12 = .ok (.iconst 1, 1) := by decide +kernel
theorem dX8_dropLast_13 : decode cX8_dropLast 13 = .ok (.isub, 1) := by decide +kernel
theorem dX8_dropLast_14 : decode cX8_dropLast 14 = .ok (.putfield 21, 3) := by decide +kernel
theorem dX8_dropLast_17 : decode cX8_dropLast 17 = .ok (.return_, 1) := by decide +kernel
theorem dX8_empty_0 : decode cX8_empty 0 = .ok (.aload_n 0, 1) := by decide +kernel
theorem dX8_empty_1 : decode cX8_empty 1 = .ok (.iconst 0, 1) := by decide +kernel
theorem dX8_empty_2 : decode cX8_empty 2 = .ok (.putfield 21, 3) := by decide +kernel
theorem dX8_empty_5 : decode cX8_empty 5 = .ok (.return_, 1) := by decide +kernel
theorem dX8_byteAt_0 : decode cX8_byteAt 0 = .ok (.iload_n 1, 1) := by decide +kernel
theorem dX8_byteAt_1 : decode cX8_byteAt 1 = .ok (.ifCond .lt 20, 3) := by decide +kernel
theorem dX8_byteAt_4 : decode cX8_byteAt 4 = .ok (.iload_n 1, 1) := by decide +kernel
theorem dX8_byteAt_5 : decode cX8_byteAt 5 = .ok (.aload_n 0, 1) := by decide +kernel
theorem dX8_byteAt_6 : decode cX8_byteAt 6 = .ok (.getfield 21, 3) := by decide +kernel
theorem dX8_byteAt_9 : decode cX8_byteAt 9 = .ok (.if_icmp .ge 12, 3) := by decide +kernel
theorem dX8_byteAt_12 : decode cX8_byteAt 12 = .ok (.iload_n 1, 1) := by decide +kernel
theorem dX8_byteAt_13 : decode cX8_byteAt 13 = .ok (.aload_n 0, 1) := by decide +kernel
theorem dX8_byteAt_14 : decode cX8_byteAt 14 = .ok (.getfield 15, 3) := by decide +kernel
theorem dX8_byteAt_17 : decode cX8_byteAt 17 = .ok (.arraylength, 1) := by decide +kernel
theorem dX8_byteAt_18 : decode cX8_byteAt 18 = .ok (.if_icmp .lt 5, 3) := by decide +kernel
theorem dX8_byteAt_21 : decode cX8_byteAt 21 = .ok (.iconst (-1), 1) := by decide +kernel
theorem dX8_byteAt_22 : decode cX8_byteAt 22 = .ok (.ireturn, 1) := by decide +kernel
theorem dX8_byteAt_23 : decode cX8_byteAt 23 = .ok (.aload_n 0, 1) := by decide +kernel
theorem dX8_byteAt_24 : decode cX8_byteAt 24 = .ok (.getfield 15, 3) := by decide +kernel
theorem dX8_byteAt_27 : decode cX8_byteAt 27 = .ok (.iload_n 1, 1) := by decide +kernel
theorem dX8_byteAt_28 : decode cX8_byteAt 28 = .ok (.iaload, 1) := by decide +kernel
theorem dX8_byteAt_29 : decode cX8_byteAt 29 = .ok (.ireturn, 1) := by decide +kernel
theorem dX9_init_0 : decode cX9_init 0 = .ok (.aload_n 0, 1) := by decide +kernel
theorem dX9_init_1 : decode cX9_init 1 = .ok (.invokespecial 3, 3) := by decide +kernel
theorem dX9_init_4 : decode cX9_init 4 = .ok (.aload_n 0, 1) := by decide +kernel
theorem dX9_init_5 : decode cX9_init 5 = .ok (.iconst 0, 1) := by decide +kernel
theorem dX9_init_6 : decode cX9_init 6 = .ok (.newarray .int, 2) := by decide +kernel
theorem dX9_init_8 : decode cX9_init 8 = .ok (.putfield 9, 3) := by decide +kernel
theorem dX9_init_11 : decode cX9_init 11 = .ok (.aload_n 0, 1) := by decide +kernel
theorem dX9_init_12 : decode cX9_init 12 = .ok (.iconst 1, 1) := by decide +kernel
theorem dX9_init_13 : decode cX9_init 13 = .ok (.putfield 15, 3) := by decide +kernel
theorem dX9_init_16 : decode cX9_init 16 = .ok (.aload_n 0, 1) := by decide +kernel
theorem dX9_init_17 : decode cX9_init 17 = .ok (.aload_n 1, 1) := by decide +kernel
theorem dX9_init_18 : decode cX9_init 18 = .ok (.putfield 19, 3) := by decide +kernel
theorem dX9_init_21 : decode cX9_init 21 = .ok (.aload_n 0, 1) := by decide +kernel
theorem dX9_init_22 : decode cX9_init 22 = .ok (.aload_n 2, 1) := by decide +kernel
theorem dX9_init_23 : decode cX9_init 23 = .ok (.putfield 23, 3) := by decide +kernel
theorem dX9_init_26 : decode cX9_init 26 = .ok (.return_, 1) := by decide +kernel
theorem dX9_forgetAll_0 : decode cX9_forgetAll 0 = .ok (.aload_n 0, 1) := by decide +kernel
theorem dX9_forgetAll_1 : decode cX9_forgetAll 1 = .ok (.iconst 1, 1) := by decide +kernel
theorem dX9_forgetAll_2 : decode cX9_forgetAll 2 = .ok (.putfield 15, 3) := by decide +kernel
theorem dX9_forgetAll_5 : decode cX9_forgetAll 5 = .ok (.return_, 1) := by decide +kernel
theorem dX9_makeReady_0 : decode cX9_makeReady 0 = .ok (.aload_n 0, 1) := by decide +kernel
theorem dX9_makeReady_1 : decode cX9_makeReady 1 = .ok (.getfield 15, 3) := by decide +kernel
theorem dX9_makeReady_4 : decode cX9_makeReady 4 = .ok (.ifCond .eq 69, 3) := by decide +kernel
theorem dX9_makeReady_7 : decode cX9_makeReady 7 = .ok (.aload_n 0, 1) := by decide +kernel
theorem dX9_makeReady_8 : decode cX9_makeReady 8 = .ok (.iconst 0, 1) := by decide +kernel
theorem dX9_makeReady_9 : decode cX9_makeReady 9 = .ok (.putfield 15, 3) := by decide +kernel
theorem dX9_makeReady_12 : decode cX9_makeReady 12 = .ok (.aload_n 0, 1) := by decide +kernel
theorem dX9_makeReady_13 : decode cX9_makeReady 13 = .ok (.getfield 9, 3) := by decide +kernel
theorem dX9_makeReady_16 : decode cX9_makeReady 16 = .ok (.arraylength, 1) := by decide +kernel
theorem dX9_makeReady_17 : decode cX9_makeReady 17 = .ok (.ifCond .ne 12, 3) := by decide +kernel
theorem dX9_makeReady_20 : decode cX9_makeReady 20 = .ok (.aload_n 0, 1) := by decide +kernel
theorem dX9_makeReady_21 : decode cX9_makeReady 21 = .ok (.sipush 12288, 3) := by decide +kernel
theorem dX9_makeReady_24 : decode cX9_makeReady 24 = .ok (.newarray .int, 2) := by decide +kernel
theorem dX9_makeReady_26 : decode cX9_makeReady 26 = .ok (.putfield 9, 3) := by decide +kernel
theorem dX9_makeReady_29 : decode cX9_makeReady 29 = .ok (.aload_n 0, 1) := by decide +kernel
theorem dX9_makeReady_30 : decode cX9_makeReady 30 = .ok (.getfield 9, 3) := by decide +kernel
theorem dX9_makeReady_33 : decode cX9_makeReady 33 = .ok (.arraylength, 1) := by decide +kernel
theorem dX9_makeReady_34 : decode cX9_makeReady 34 = .ok (.aload_n 0, 1) := by decide +kernel
theorem dX9_makeReady_35 : decode cX9_makeReady 35 = .ok (.getfield 23, 3) := by decide +kernel
theorem dX9_makeReady_38 : decode cX9_makeReady 38 = .ok (.invokevirtual 27, 3) := by decide +kernel
theorem dX9_makeReady_41 : decode cX9_makeReady 41 = .ok (.aload_n 0, 1) := by decide +kernel
theorem dX9_makeReady_42 : decode cX9_makeReady 42 = .ok (.getfield 19, 3) := by decide +kernel
theorem dX9_makeReady_45 : decode cX9_makeReady 45 = .ok (.invokevirtual 33, 3) := by decide +kernel
theorem dX9_makeReady_48 : decode cX9_makeReady 48 = .ok (.ishl, 1) := by decide +kernel
theorem dX9_makeReady_49 : decode cX9_makeReady 49 = .ok (.invokestatic 38, 3) := by decide +kernel
theorem dX9_makeReady_52 : decode cX9_makeReady 52 = .ok (.istore_n 1, 1) := by decide +kernel
theorem dX9_makeReady_53 : decode cX9_makeReady 53 = .ok (.iconst 0, 1) := by decide +kernel
theorem dX9_makeReady_54 : decode cX9_makeReady 54 = .ok (.istore_n 2, 1) := by decide +kernel
theorem dX9_makeReady_55 : decode cX9_makeReady 55 = .ok (.iload_n 2, 1) := by decide +kernel
theorem dX9_makeReady_56 : decode cX9_makeReady 56 = .ok (.iload_n 1, 1) := by decide +kernel
theorem dX9_makeReady_57 : decode cX9_makeReady 57 = .ok (.if_icmp .ge 16, 3) := by decide +kernel
theorem dX9_makeReady_60 : decode cX9_makeReady 60 = .ok (.aload_n 0, 1) := by decide +kernel
theorem dX9_makeReady_61 : decode cX9_makeReady 61 = .ok (.getfield 9, 3) := by decide +kernel
theorem dX9_makeReady_64 : decode cX9_makeReady 64 = .ok (.iload_n 2, 1) := by decide +kernel
theorem dX9_makeReady_65 : decode cX9_makeReady 65 = .ok (.iconst (-1), 1) := by decide +kernel
theorem dX9_makeReady_66 : decode cX9_makeReady 66 = .ok (.iastore, 1) := by decide +kernel
theorem dX9_makeReady_67 : decode cX9_makeReady 67 = .ok (.iinc 2 1, 3) := by decide +kernel
theorem dX9_makeReady_70 : decode cX9_makeReady 70 = .ok (.goto (-15), 3) := by decide +kernel
theorem dX9_makeReady_73 : decode cX9_makeReady 73 = .ok (.return_, 1) := by decide +kernel
theorem dX9_firstAct_0 : decode cX9_firstAct 0 = .ok (.iload_n 2, 1) := by decide +kernel
theorem dX9_firstAct_1 : decode cX9_firstAct 1 = .ok (.ifCond .eq 14, 3) := by decide +kernel
theorem dX9_firstAct_4 : decode cX9_firstAct 4 = .ok (.iload_n 1, 1) := by decide +kernel
theorem dX9_firstAct_5 : decode cX9_firstAct 5 = .ok (.aload_n 0, 1) := by decide +kernel
theorem dX9_firstAct_6 : decode cX9_firstAct 6 = .ok (.getfield 23, 3) := by decide +kernel
theorem dX9_firstAct_9 : decode cX9_firstAct 9 = .ok (.invokevirtual 27, 3) := by decide +kernel
theorem dX9_firstAct_12 : decode cX9_firstAct 12 = .ok (.if_icmp .lt 5, 3) := by decide +kernel
theorem dX9_firstAct_15 : decode cX9_firstAct 15 = .ok (.iconst (-1), 1) := by decide +kernel
theorem dX9_firstAct_16 : decode cX9_firstAct 16 = .ok (.ireturn, 1) := by decide +kernel
theorem dX9_firstAct_17 : decode cX9_firstAct 17 = .ok (.aload_n 0, 1) := by decide +kernel
theorem dX9_firstAct_18 : decode cX9_firstAct 18 = .ok (.iload_n 1, 1) := by decide +kernel
theorem dX9_firstAct_19 : decode cX9_firstAct 19 = .ok (.iload_n 2, 1) := by decide +kernel
theorem dX9_firstAct_20 : decode cX9_firstAct 20 = .ok (.invokevirtual 44, 3) := by decide +kernel
theorem dX9_firstAct_23 : decode cX9_firstAct 23 = .ok (.istore_n 3, 1) := by decide +kernel
theorem dX9_firstAct_24 : decode cX9_firstAct 24 = .ok (.iconst 0, 1) := by decide +kernel
theorem dX9_firstAct_25 : decode cX9_firstAct 25 = .ok (.istore 4, 2) := by decide +kernel
theorem dX9_firstAct_27 : decode cX9_firstAct 27 = .ok (.iload 4, 2) := by decide +kernel
theorem dX9_firstAct_29 : decode cX9_firstAct 29 = .ok (.bipush 16, 2) := by decide +kernel
theorem dX9_firstAct_31 : decode cX9_firstAct 31 = .ok (.if_icmp .ge 24, 3) := by decide +kernel
theorem dX9_firstAct_34 : decode cX9_firstAct 34 = .ok (.aload_n 0, 1) := by decide +kernel
theorem dX9_firstAct_35 : decode cX9_firstAct 35 = .ok (.iload 4, 2) := by decide +kernel
theorem dX9_firstAct_37 : decode cX9_firstAct 37 = .ok (.iload_n 1, 1) := by decide +kernel
theorem dX9_firstAct_38 : decode cX9_firstAct 38 = .ok (.iload_n 2, 1) := by decide +kernel
theorem dX9_firstAct_39 : decode cX9_firstAct 39 = .ok (.invokevirtual 47, 3) := by decide +kernel
theorem dX9_firstAct_42 : decode cX9_firstAct 42 = .ok (.iload_n 3, 1) := by decide +kernel
theorem dX9_firstAct_43 : decode cX9_firstAct 43 = .ok (.if_icmp .ne 6, 3) := by decide +kernel
theorem dX9_firstAct_46 : decode cX9_firstAct 46 = .ok (.iload 4, 2) := by decide +kernel
theorem dX9_firstAct_48 : decode cX9_firstAct 48 = .ok (.ireturn, 1) := by decide +kernel
theorem dX9_firstAct_49 : decode cX9_firstAct 49 = .ok (.iinc 4 1, 3) := by decide +kernel
theorem dX9_firstAct_52 : decode cX9_firstAct 52 = .ok (.goto (-25), 3) := by decide +kernel
theorem dX9_firstAct_55 : decode cX9_firstAct 55 = .ok (.iconst (-1), 1) := by decide +kernel
theorem dX9_firstAct_56 : decode cX9_firstAct 56 = .ok (.ireturn, 1) := by decide +kernel
theorem dX9_leastFrom_0 : decode cX9_leastFrom 0 = .ok (.iload_n 2, 1) := by decide +kernel
theorem dX9_leastFrom_1 : decode cX9_leastFrom 1 = .ok (.ifCond .ne 5, 3) := by decide +kernel
theorem dX9_leastFrom_4 : decode cX9_leastFrom 4 = .ok (.iconst 0, 1) := by decide +kernel
theorem dX9_leastFrom_5 : decode cX9_leastFrom 5 = .ok (.ireturn, 1) := by decide +kernel
theorem dX9_leastFrom_6 : decode cX9_leastFrom 6 = .ok (.iload_n 1, 1) := by decide +kernel
theorem dX9_leastFrom_7 : decode cX9_leastFrom 7 = .ok (.aload_n 0, 1) := by decide +kernel
theorem dX9_leastFrom_8 : decode cX9_leastFrom 8 = .ok (.getfield 19, 3) := by decide +kernel
theorem dX9_leastFrom_11 : decode cX9_leastFrom 11 = .ok (.invokevirtual 33, 3) := by decide +kernel
theorem dX9_leastFrom_14 : decode cX9_leastFrom 14 = .ok (.ishl, 1) := by decide +kernel
theorem dX9_leastFrom_15 : decode cX9_leastFrom 15 = .ok (.iload_n 2, 1) := by decide +kernel
theorem dX9_leastFrom_16 : decode cX9_leastFrom 16 = .ok (.ior, 1) := by decide +kernel
theorem dX9_leastFrom_17 : decode cX9_leastFrom 17 = .ok (.istore_n 3, 1) := by decide +kernel
theorem dX9_leastFrom_18 : decode cX9_leastFrom 18 = .ok (.iload_n 1, 1) := by decide +kernel
theorem dX9_leastFrom_19 : decode cX9_leastFrom 19 = .ok (.ifCond .lt 27, 3) := by decide +kernel
theorem dX9_leastFrom_22 : decode cX9_leastFrom 22 = .ok (.iload_n 1, 1) := by decide +kernel
theorem dX9_leastFrom_23 : decode cX9_leastFrom 23 = .ok (.aload_n 0, 1) := by decide +kernel
theorem dX9_leastFrom_24 : decode cX9_leastFrom 24 = .ok (.getfield 23, 3) := by decide +kernel
theorem dX9_leastFrom_27 : decode cX9_leastFrom 27 = .ok (.invokevirtual 27, 3) := by decide +kernel
theorem dX9_leastFrom_30 : decode cX9_leastFrom 30 = .ok (.if_icmp .ge 16, 3) := by decide +kernel
theorem dX9_leastFrom_33 : decode cX9_leastFrom 33 = .ok (.iload_n 3, 1) := by decide +kernel
theorem dX9_leastFrom_34 : decode cX9_leastFrom 34 = .ok (.ifCond .lt 12, 3) := by decide +kernel
theorem dX9_leastFrom_37 : decode cX9_leastFrom 37 = .ok (.iload_n 3, 1) := by decide +kernel
theorem dX9_leastFrom_38 : decode cX9_leastFrom 38 = .ok (.aload_n 0, 1) := by decide +kernel
theorem dX9_leastFrom_39 : decode cX9_leastFrom 39 = .ok (.getfield 9, 3) := by decide +kernel
theorem dX9_leastFrom_42 : decode cX9_leastFrom 42 = .ok (.arraylength, 1) := by decide +kernel
theorem dX9_leastFrom_43 : decode cX9_leastFrom 43 = .ok (.if_icmp .lt 9, 3) := by decide +kernel
theorem dX9_leastFrom_46 : decode cX9_leastFrom 46 = .ok (.aload_n 0, 1) := by decide +kernel
theorem dX9_leastFrom_47 : decode cX9_leastFrom 47 = .ok (.iload_n 2, 1) := by decide +kernel
theorem dX9_leastFrom_48 : decode cX9_leastFrom 48 = .ok (.invokevirtual 51, 3) := by decide +kernel
theorem dX9_leastFrom_51 : decode cX9_leastFrom 51 = .ok (.ireturn, 1) := by decide +kernel
theorem dX9_leastFrom_52 : decode cX9_leastFrom 52 = .ok (.aload_n 0, 1) := by decide +kernel
theorem dX9_leastFrom_53 : decode cX9_leastFrom 53 = .ok (.getfield 9, 3) := by decide +kernel
theorem dX9_leastFrom_56 : decode cX9_leastFrom 56 = .ok (.iload_n 3, 1) := by decide +kernel
theorem dX9_leastFrom_57 : decode cX9_leastFrom 57 = .ok (.iaload, 1) := by decide +kernel
theorem dX9_leastFrom_58 : decode cX9_leastFrom 58 = .ok (.iconst (-1), 1) := by decide +kernel
theorem dX9_leastFrom_59 : decode cX9_leastFrom 59 = .ok (.if_icmp .ne 46, 3) := by decide +kernel
theorem dX9_leastFrom_62 : decode cX9_leastFrom 62 = .ok (.ldc 55, 2) := by decide +kernel
theorem dX9_leastFrom_64 : decode cX9_leastFrom 64 = .ok (.istore 4, 2) := by decide +kernel
theorem dX9_leastFrom_66 : decode cX9_leastFrom 66 = .ok (.iconst 0, 1) := by decide +kernel
theorem dX9_leastFrom_67 : decode cX9_leastFrom 67 = .ok (.istore 5, 2) := by decide +kernel
theorem dX9_leastFrom_69 : decode cX9_leastFrom 69 = .ok (.iload 5, 2) := by decide +kernel
theorem dX9_leastFrom_71 : decode cX9_leastFrom 71 = .ok (.bipush 16, 2) := by decide +kernel
theorem dX9_leastFrom_73 : decode cX9_leastFrom 73 = .ok (.if_icmp .ge 24, 3) := by decide +kernel
theorem dX9_leastFrom_76 : decode cX9_leastFrom 76 = .ok (.iload 4, 2) := by decide +kernel
theorem dX9_leastFrom_78 : decode cX9_leastFrom 78 = .ok (.aload_n 0, 1) := by decide +kernel
theorem dX9_leastFrom_79 : decode cX9_leastFrom 79 = .ok (.iload 5, 2) := by decide +kernel
theorem dX9_leastFrom_81 : decode cX9_leastFrom 81 = .ok (.iload_n 1, 1) := by decide +kernel
theorem dX9_leastFrom_82 : decode cX9_leastFrom 82 = .ok (.iload_n 2, 1) := by decide +kernel
theorem dX9_leastFrom_83 : decode cX9_leastFrom 83 = .ok (.invokevirtual 47, 3) := by decide +kernel
theorem dX9_leastFrom_86 : decode cX9_leastFrom 86 = .ok (.invokestatic 38, 3) := by decide +kernel
theorem dX9_leastFrom_89 : decode cX9_leastFrom 89 = .ok (.istore 4, 2) := by decide +kernel
theorem dX9_leastFrom_91 : decode cX9_leastFrom 91 = .ok (.iinc 5 1, 3) := by decide +kernel
theorem dX9_leastFrom_94 : decode cX9_leastFrom 94 = .ok (.goto (-25), 3) := by decide +kernel
theorem dX9_leastFrom_97 : decode cX9_leastFrom 97 = .ok (.aload_n 0, 1) := by decide +kernel
theorem dX9_leastFrom_98 : decode cX9_leastFrom 98 = .ok (.getfield 9, 3) := by decide +kernel
theorem dX9_leastFrom_101 : decode cX9_leastFrom 101 = .ok (.iload_n 3, 1) := by decide +kernel
theorem dX9_leastFrom_102 : decode cX9_leastFrom 102 = .ok (.iload 4, 2) := by decide +kernel
theorem dX9_leastFrom_104 : decode cX9_leastFrom 104 = .ok (.iastore, 1) := by decide +kernel
theorem dX9_leastFrom_105 : decode cX9_leastFrom 105 = .ok (.aload_n 0, 1) := by decide +kernel
theorem dX9_leastFrom_106 : decode cX9_leastFrom 106 = .ok (.getfield 9, 3) := by decide +kernel
theorem dX9_leastFrom_109 : decode cX9_leastFrom 109 = .ok (.iload_n 3, 1) := by decide +kernel
theorem dX9_leastFrom_110 : decode cX9_leastFrom 110 = .ok (.iaload, 1) := by decide +kernel
theorem dX9_leastFrom_111 : decode cX9_leastFrom 111 = .ok (.ireturn, 1) := by decide +kernel
theorem dX9_sumOf_0 : decode cX9_sumOf 0 = .ok (.iload_n 1, 1) := by decide +kernel
theorem dX9_sumOf_1 : decode cX9_sumOf 1 = .ok (.bipush 10, 2) := by decide +kernel
theorem dX9_sumOf_3 : decode cX9_sumOf 3 = .ok (.if_icmp .ge 13, 3) := by decide +kernel
theorem dX9_sumOf_6 : decode cX9_sumOf 6 = .ok (.aload_n 0, 1) := by decide +kernel
theorem dX9_sumOf_7 : decode cX9_sumOf 7 = .ok (.iload_n 1, 1) := by decide +kernel
theorem dX9_sumOf_8 : decode cX9_sumOf 8 = .ok (.iload_n 2, 1) := by decide +kernel
theorem dX9_sumOf_9 : decode cX9_sumOf 9 = .ok (.iload_n 3, 1) := by decide +kernel
theorem dX9_sumOf_10 : decode cX9_sumOf 10 = .ok (.invokevirtual 56, 3) := by decide +kernel
theorem dX9_sumOf_13 : decode cX9_sumOf 13 = .ok (.goto 13, 3) := by decide +kernel
theorem dX9_sumOf_16 : decode cX9_sumOf 16 = .ok (.aload_n 0, 1) := by decide +kernel
theorem dX9_sumOf_17 : decode cX9_sumOf 17 = .ok (.iload_n 1, 1) := by decide +kernel
theorem dX9_sumOf_18 : decode cX9_sumOf 18 = .ok (.bipush 10, 2) := by decide +kernel
theorem dX9_sumOf_20 : decode cX9_sumOf 20 = .ok (.isub, 1) := by decide +kernel
theorem dX9_sumOf_21 : decode cX9_sumOf 21 = .ok (.iload_n 2, 1) := by decide +kernel
theorem dX9_sumOf_22 : decode cX9_sumOf 22 = .ok (.iload_n 3, 1) := by decide +kernel
theorem dX9_sumOf_23 : decode cX9_sumOf 23 = .ok (.invokevirtual 59, 3) := by decide +kernel
theorem dX9_sumOf_26 : decode cX9_sumOf 26 = .ok (.ireturn, 1) := by decide +kernel
theorem dX9_sumOfGuess_0 : decode cX9_sumOfGuess 0 = .ok (.iload_n 3, 1) := by decide +kernel
theorem dX9_sumOfGuess_1 : decode cX9_sumOfGuess 1 = .ok (.iconst 1, 1) := by decide +kernel
theorem dX9_sumOfGuess_2 : decode cX9_sumOfGuess 2 = .ok (.iload_n 1, 1) := by decide +kernel
theorem dX9_sumOfGuess_3 : decode cX9_sumOfGuess 3 = .ok (.ishl, 1) := by decide +kernel
theorem dX9_sumOfGuess_4 : decode cX9_sumOfGuess 4 = .ok (.iand, 1) := by decide +kernel
theorem dX9_sumOfGuess_5 : decode cX9_sumOfGuess 5 = .ok (.ifCond .ne 6, 3) := by decide +kernel
theorem dX9_sumOfGuess_8 : decode cX9_sumOfGuess 8 = .ok (.ldc 55, 2) := by decide +kernel
theorem dX9_sumOfGuess_10 : decode cX9_sumOfGuess 10 = .ok (.ireturn, 1) := by decide +kernel
theorem dX9_sumOfGuess_11 : decode cX9_sumOfGuess 11 = .ok (.iload_n 3, 1) := by decide +kernel
theorem dX9_sumOfGuess_12 : decode cX9_sumOfGuess 12 = .ok (.iconst 1, 1) := by decide +kernel
theorem dX9_sumOfGuess_13 : decode cX9_sumOfGuess 13 = .ok (.iload_n 1, 1) := by decide +kernel
theorem dX9_sumOfGuess_14 : decode cX9_sumOfGuess 14 = .ok (.ishl, 1) := by decide +kernel
theorem dX9_sumOfGuess_15 : decode cX9_sumOfGuess 15 = .ok (.iconst (-1), 1) := by decide +kernel
theorem dX9_sumOfGuess_16 : decode cX9_sumOfGuess 16 = .ok (.ixor, 1) := by decide +kernel
theorem dX9_sumOfGuess_17 : decode cX9_sumOfGuess 17 = .ok (.iand, 1) := by decide +kernel
theorem dX9_sumOfGuess_18 : decode cX9_sumOfGuess 18 = .ok (.istore 4, 2) := by decide +kernel
theorem dX9_sumOfGuess_20 : decode cX9_sumOfGuess 20 = .ok (.aload_n 0, 1) := by decide +kernel
theorem dX9_sumOfGuess_21 : decode cX9_sumOfGuess 21 = .ok (.getfield 19, 3) := by decide +kernel
theorem dX9_sumOfGuess_24 : decode cX9_sumOfGuess 24 = .ok (.iload_n 1, 1) := by decide +kernel
theorem dX9_sumOfGuess_25 : decode cX9_sumOfGuess 25 = .ok (.invokevirtual 62, 3) := by decide +kernel
theorem dX9_sumOfGuess_28 : decode cX9_sumOfGuess 28 = .ok (.aload_n 0, 1) := by decide +kernel
theorem dX9_sumOfGuess_29 : decode cX9_sumOfGuess 29 = .ok (.getfield 23, 3) := by decide +kernel
theorem dX9_sumOfGuess_32 : decode cX9_sumOfGuess 32 = .ok (.iload_n 2, 1) := by decide +kernel
theorem dX9_sumOfGuess_33 : decode cX9_sumOfGuess 33 = .ok (.invokevirtual 65, 3) := by decide +kernel
theorem dX9_sumOfGuess_36 : decode cX9_sumOfGuess 36 = .ok (.imul, 1) := by decide +kernel
theorem dX9_sumOfGuess_37 : decode cX9_sumOfGuess 37 = .ok (.aload_n 0, 1) := by decide +kernel
theorem dX9_sumOfGuess_38 : decode cX9_sumOfGuess 38 = .ok (.getfield 19, 3) := by decide +kernel
theorem dX9_sumOfGuess_41 : decode cX9_sumOfGuess 41 = .ok (.iload 4, 2) := by decide +kernel
theorem dX9_sumOfGuess_43 : decode cX9_sumOfGuess 43 = .ok (.invokevirtual 68, 3) := by decide +kernel
theorem dX9_sumOfGuess_46 : decode cX9_sumOfGuess 46 = .ok (.aload_n 0, 1) := by decide +kernel
theorem dX9_sumOfGuess_47 : decode cX9_sumOfGuess 47 = .ok (.getfield 23, 3) := by decide +kernel
theorem dX9_sumOfGuess_50 : decode cX9_sumOfGuess 50 = .ok (.invokevirtual 71, 3) := by decide +kernel
theorem dX9_sumOfGuess_53 : decode cX9_sumOfGuess 53 = .ok (.imul, 1) := by decide +kernel
theorem dX9_sumOfGuess_54 : decode cX9_sumOfGuess 54 = .ok (.iadd, 1) := by decide +kernel
theorem dX9_sumOfGuess_55 : decode cX9_sumOfGuess 55 = .ok (.aload_n 0, 1) := by decide +kernel
theorem dX9_sumOfGuess_56 : decode cX9_sumOfGuess 56 = .ok (.iload_n 2, 1) := by decide +kernel
theorem dX9_sumOfGuess_57 : decode cX9_sumOfGuess 57 = .ok (.iconst 1, 1) := by decide +kernel
theorem dX9_sumOfGuess_58 : decode cX9_sumOfGuess 58 = .ok (.iadd, 1) := by decide +kernel
theorem dX9_sumOfGuess_59 : decode cX9_sumOfGuess 59 = .ok (.iload 4, 2) := by decide +kernel
theorem dX9_sumOfGuess_61 : decode cX9_sumOfGuess 61 = .ok (.invokevirtual 44, 3) := by decide +kernel
theorem dX9_sumOfGuess_64 : decode cX9_sumOfGuess 64 = .ok (.iadd, 1) := by decide +kernel
theorem dX9_sumOfGuess_65 : decode cX9_sumOfGuess 65 = .ok (.ireturn, 1) := by decide +kernel
theorem dX9_sumOfListening_0 : decode cX9_sumOfListening 0 = .ok (.iconst 0, 1) := by decide +kernel
theorem dX9_sumOfListening_1 : decode cX9_sumOfListening 1 = .ok (.istore 4, 2) := by decide +kernel
theorem dX9_sumOfListening_3 : decode cX9_sumOfListening 3 = .ok (.iconst (-1), 1) := by decide +kernel
theorem dX9_sumOfListening_4 : decode cX9_sumOfListening 4 = .ok (.istore 5, 2) := by decide +kernel
theorem dX9_sumOfListening_6 : decode cX9_sumOfListening 6 = .ok (.iload 5, 2) := by decide +kernel
theorem dX9_sumOfListening_8 : decode cX9_sumOfListening 8 = .ok (.bipush 6, 2) := by decide +kernel
theorem dX9_sumOfListening_10 : decode cX9_sumOfListening 10 = .ok (.if_icmp .ge 49, 3) := by decide +kernel
theorem dX9_sumOfListening_13 : decode cX9_sumOfListening 13 = .ok (.iload_n 3, 1) := by decide +kernel
theorem dX9_sumOfListening_14 : decode cX9_sumOfListening 14 = .ok (.aload_n 0, 1) := by decide +kernel
theorem dX9_sumOfListening_15 : decode cX9_sumOfListening 15 = .ok (.getfield 19, 3) := by decide +kernel
theorem dX9_sumOfListening_18 : decode cX9_sumOfListening 18 = .ok (.iload_n 1, 1) := by decide +kernel
theorem dX9_sumOfListening_19 : decode cX9_sumOfListening 19 = .ok (.iload 5, 2) := by decide +kernel
theorem dX9_sumOfListening_21 : decode cX9_sumOfListening 21 = .ok (.invokevirtual 74, 3) := by decide +kernel
theorem dX9_sumOfListening_24 : decode cX9_sumOfListening 24 = .ok (.iand, 1) := by decide +kernel
theorem dX9_sumOfListening_25 : decode cX9_sumOfListening 25 = .ok (.istore 6, 2) := by decide +kernel
theorem dX9_sumOfListening_27 : decode cX9_sumOfListening 27 = .ok (.iload 6, 2) := by decide +kernel
theorem dX9_sumOfListening_29 : decode cX9_sumOfListening 29 = .ok (.iload_n 3, 1) := by decide +kernel
theorem dX9_sumOfListening_30 : decode cX9_sumOfListening 30 = .ok (.if_icmp .ne 9, 3) := by decide +kernel
theorem dX9_sumOfListening_33 : decode cX9_sumOfListening 33 = .ok (.aload_n 0, 1) := by decide +kernel
theorem dX9_sumOfListening_34 : decode cX9_sumOfListening 34 = .ok (.iload_n 3, 1) := by decide +kernel
theorem dX9_sumOfListening_35 : decode cX9_sumOfListening 35 = .ok (.invokevirtual 51, 3) := by decide +kernel
theorem dX9_sumOfListening_38 : decode cX9_sumOfListening 38 = .ok (.ireturn, 1) := by decide +kernel
theorem dX9_sumOfListening_39 : decode cX9_sumOfListening 39 = .ok (.iload 4, 2) := by decide +kernel
theorem dX9_sumOfListening_41 : decode cX9_sumOfListening 41 = .ok (.aload_n 0, 1) := by decide +kernel
theorem dX9_sumOfListening_42 : decode cX9_sumOfListening 42 = .ok (.iload_n 2, 1) := by decide +kernel
theorem dX9_sumOfListening_43 : decode cX9_sumOfListening 43 = .ok (.iconst 1, 1) := by decide +kernel
theorem dX9_sumOfListening_44 : decode cX9_sumOfListening 44 = .ok (.iadd, 1) := by decide +kernel
theorem dX9_sumOfListening_45 : decode cX9_sumOfListening 45 = .ok (.iload 6, 2) := by decide +kernel
theorem dX9_sumOfListening_47 : decode cX9_sumOfListening 47 = .ok (.invokevirtual 44, 3) := by decide +kernel
theorem dX9_sumOfListening_50 : decode cX9_sumOfListening 50 = .ok (.iadd, 1) := by decide +kernel
theorem dX9_sumOfListening_51 : decode cX9_sumOfListening 51 = .ok (.istore 4, 2) := by decide +kernel
theorem dX9_sumOfListening_53 : decode cX9_sumOfListening 53 = .ok (.iinc 5 1, 3) := by decide +kernel
theorem dX9_sumOfListening_56 : decode cX9_sumOfListening 56 = .ok (.goto (-50), 3) := by decide +kernel
theorem dX9_sumOfListening_59 : decode cX9_sumOfListening 59 = .ok (.iload 4, 2) := by decide +kernel
theorem dX9_sumOfListening_61 : decode cX9_sumOfListening 61 = .ok (.ireturn, 1) := by decide +kernel
theorem dX9_sumUnnamed_0 : decode cX9_sumUnnamed 0 = .ok (.aload_n 0, 1) := by decide +kernel
theorem dX9_sumUnnamed_1 : decode cX9_sumUnnamed 1 = .ok (.getfield 19, 3) := by decide +kernel
theorem dX9_sumUnnamed_4 : decode cX9_sumUnnamed 4 = .ok (.iload_n 1, 1) := by decide +kernel
theorem dX9_sumUnnamed_5 : decode cX9_sumUnnamed 5 = .ok (.invokevirtual 68, 3) := by decide +kernel
theorem dX9_sumUnnamed_8 : decode cX9_sumUnnamed 8 = .ok (.aload_n 0, 1) := by decide +kernel
theorem dX9_sumUnnamed_9 : decode cX9_sumUnnamed 9 = .ok (.getfield 23, 3) := by decide +kernel
theorem dX9_sumUnnamed_12 : decode cX9_sumUnnamed 12 = .ok (.invokevirtual 77, 3) := by decide +kernel
theorem dX9_sumUnnamed_15 : decode cX9_sumUnnamed 15 = .ok (.imul, 1) := by decide +kernel
theorem dX9_sumUnnamed_16 : decode cX9_sumUnnamed 16 = .ok (.ireturn, 1) := by decide +kernel
theorem dX10_init_0 : decode cX10_init 0 = .ok (.aload_n 0, 1) := by decide +kernel
theorem dX10_init_1 : decode cX10_init 1 = .ok (.invokespecial 3, 3) := by decide +kernel
theorem dX10_init_4 : decode cX10_init 4 = .ok (.aload_n 0, 1) := by decide +kernel
theorem dX10_init_5 : decode cX10_init 5 = .ok (.iconst 3, 1) := by decide +kernel
theorem dX10_init_6 : decode cX10_init 6 = .ok (.anewarray 9, 3) := by decide +kernel
theorem dX10_init_9 : decode cX10_init 9 = .ok (.dup, 1) := by decide +kernel
theorem dX10_init_10 : decode cX10_init 10 = .ok (.iconst 0, 1) := by decide +kernel
theorem dX10_init_11 : decode cX10_init 11 = .ok (.new 9, 3) := by decide +kernel
theorem dX10_init_14 : decode cX10_init 14 = .ok (.dup, 1) := by decide +kernel
theorem dX10_init_15 : decode cX10_init 15 = .ok (.bipush 80, 2) := by decide +kernel
theorem dX10_init_17 : decode cX10_init 17 = .ok (.invokespecial 11, 3) := by decide +kernel
theorem dX10_init_20 : decode cX10_init 20 = .ok (.aastore, 1) := by decide +kernel
theorem dX10_init_21 : decode cX10_init 21 = .ok (.dup, 1) := by decide +kernel
theorem dX10_init_22 : decode cX10_init 22 = .ok (.iconst 1, 1) := by decide +kernel
theorem dX10_init_23 : decode cX10_init 23 = .ok (.new 9, 3) := by decide +kernel
theorem dX10_init_26 : decode cX10_init 26 = .ok (.dup, 1) := by decide +kernel
theorem dX10_init_27 : decode cX10_init 27 = .ok (.bipush 40, 2) := by decide +kernel
theorem dX10_init_29 : decode cX10_init 29 = .ok (.invokespecial 11, 3) := by decide +kernel
theorem dX10_init_32 : decode cX10_init 32 = .ok (.aastore, 1) := by decide +kernel
theorem dX10_init_33 : decode cX10_init 33 = .ok (.dup, 1) := by decide +kernel
theorem dX10_init_34 : decode cX10_init 34 = .ok (.iconst 2, 1) := by decide +kernel
theorem dX10_init_35 : decode cX10_init 35 = .ok (.new 9, 3) := by decide +kernel
theorem dX10_init_38 : decode cX10_init 38 = .ok (.dup, 1) := by decide +kernel
theorem dX10_init_39 : decode cX10_init 39 = .ok (.bipush 6, 2) := by decide +kernel
theorem dX10_init_41 : decode cX10_init 41 = .ok (.invokespecial 11, 3) := by decide +kernel
theorem dX10_init_44 : decode cX10_init 44 = .ok (.aastore, 1) := by decide +kernel
theorem dX10_init_45 : decode cX10_init 45 = .ok (.putfield 14, 3) := by decide +kernel
theorem dX10_init_48 : decode cX10_init 48 = .ok (.aload_n 0, 1) := by decide +kernel
theorem dX10_init_49 : decode cX10_init 49 = .ok (.new 18, 3) := by decide +kernel
theorem dX10_init_52 : decode cX10_init 52 = .ok (.dup, 1) := by decide +kernel
theorem dX10_init_53 : decode cX10_init 53 = .ok (.invokespecial 20, 3) := by decide +kernel
theorem dX10_init_56 : decode cX10_init 56 = .ok (.putfield 21, 3) := by decide +kernel
theorem dX10_init_59 : decode cX10_init 59 = .ok (.aload_n 0, 1) := by decide +kernel
theorem dX10_init_60 : decode cX10_init 60 = .ok (.new 25, 3) := by decide +kernel
theorem dX10_init_63 : decode cX10_init 63 = .ok (.dup, 1) := by decide +kernel
theorem dX10_init_64 : decode cX10_init 64 = .ok (.invokespecial 27, 3) := by decide +kernel
theorem dX10_init_67 : decode cX10_init 67 = .ok (.putfield 28, 3) := by decide +kernel
theorem dX10_init_70 : decode cX10_init 70 = .ok (.aload_n 0, 1) := by decide +kernel
theorem dX10_init_71 : decode cX10_init 71 = .ok (.new 32, 3) := by decide +kernel
theorem dX10_init_74 : decode cX10_init 74 = .ok (.dup, 1) := by decide +kernel
theorem dX10_init_75 : decode cX10_init 75 = .ok (.invokespecial 34, 3) := by decide +kernel
theorem dX10_init_78 : decode cX10_init 78 = .ok (.putfield 35, 3) := by decide +kernel
theorem dX10_init_81 : decode cX10_init 81 = .ok (.aload_n 0, 1) := by decide +kernel
theorem dX10_init_82 : decode cX10_init 82 = .ok (.new 39, 3) := by decide +kernel
theorem dX10_init_85 : decode cX10_init 85 = .ok (.dup, 1) := by decide +kernel
theorem dX10_init_86 : decode cX10_init 86 = .ok (.invokespecial 41, 3) := by decide +kernel
theorem dX10_init_89 : decode cX10_init 89 = .ok (.putfield 42, 3) := by decide +kernel
theorem dX10_init_92 : decode cX10_init 92 = .ok (.aload_n 0, 1) := by decide +kernel
theorem dX10_init_93 : decode cX10_init 93 = .ok (.new 46, 3) := by decide +kernel
theorem dX10_init_96 : decode cX10_init 96 = .ok (.dup, 1) := by decide +kernel
theorem dX10_init_97 : decode cX10_init 97 = .ok (.invokespecial 48, 3) := by decide +kernel
theorem dX10_init_100 : decode cX10_init 100 = .ok (.putfield 49, 3) := by decide +kernel
theorem dX10_init_103 : decode cX10_init 103 = .ok (.aload_n 0, 1) := by decide +kernel
theorem dX10_init_104 : decode cX10_init 104 = .ok (.new 53, 3) := by decide +kernel
theorem dX10_init_107 : decode cX10_init 107 = .ok (.dup, 1) := by decide +kernel
theorem dX10_init_108 : decode cX10_init 108 = .ok (.invokespecial 55, 3) := by decide +kernel
theorem dX10_init_111 : decode cX10_init 111 = .ok (.putfield 56, 3) := by decide +kernel
theorem dX10_init_114 : decode cX10_init 114 = .ok (.aload_n 0, 1) := by decide +kernel
theorem dX10_init_115 : decode cX10_init 115 = .ok (.new 60, 3) := by decide +kernel
theorem dX10_init_118 : decode cX10_init 118 = .ok (.dup, 1) := by decide +kernel
theorem dX10_init_119 : decode cX10_init 119 = .ok (.aload_n 0, 1) := by decide +kernel
theorem dX10_init_120 : decode cX10_init 120 = .ok (.getfield 21, 3) := by decide +kernel
theorem dX10_init_123 : decode cX10_init 123 = .ok (.aload_n 0, 1) := by decide +kernel
theorem dX10_init_124 : decode cX10_init 124 = .ok (.getfield 49, 3) := by decide +kernel
theorem dX10_init_127 : decode cX10_init 127 = .ok (.invokespecial 62, 3) := by decide +kernel
theorem dX10_init_130 : decode cX10_init 130 = .ok (.putfield 65, 3) := by decide +kernel
theorem dX10_init_133 : decode cX10_init 133 = .ok (.aload_n 0, 1) := by decide +kernel
theorem dX10_init_134 : decode cX10_init 134 = .ok (.new 69, 3) := by decide +kernel
theorem dX10_init_137 : decode cX10_init 137 = .ok (.dup, 1) := by decide +kernel
theorem dX10_init_138 : decode cX10_init 138 = .ok (.aload_n 0, 1) := by decide +kernel
theorem dX10_init_139 : decode cX10_init 139 = .ok (.getfield 21, 3) := by decide +kernel
theorem dX10_init_142 : decode cX10_init 142 = .ok (.invokespecial 71, 3) := by decide +kernel
theorem dX10_init_145 : decode cX10_init 145 = .ok (.putfield 74, 3) := by decide +kernel
theorem dX10_init_148 : decode cX10_init 148 = .ok (.aload_n 0, 1) := by decide +kernel
theorem dX10_init_149 : decode cX10_init 149 = .ok (.iconst 4, 1) := by decide +kernel
theorem dX10_init_150 : decode cX10_init 150 = .ok (.anewarray 78, 3) := by decide +kernel
theorem dX10_init_153 : decode cX10_init 153 = .ok (.dup, 1) := by decide +kernel
theorem dX10_init_154 : decode cX10_init 154 = .ok (.iconst 0, 1) := by decide +kernel
theorem dX10_init_155 : decode cX10_init 155 = .ok (.new 78, 3) := by decide +kernel
theorem dX10_init_158 : decode cX10_init 158 = .ok (.dup, 1) := by decide +kernel
theorem dX10_init_159 : decode cX10_init 159 = .ok (.invokespecial 80, 3) := by decide +kernel
theorem dX10_init_162 : decode cX10_init 162 = .ok (.aastore, 1) := by decide +kernel
theorem dX10_init_163 : decode cX10_init 163 = .ok (.dup, 1) := by decide +kernel
theorem dX10_init_164 : decode cX10_init 164 = .ok (.iconst 1, 1) := by decide +kernel
theorem dX10_init_165 : decode cX10_init 165 = .ok (.new 78, 3) := by decide +kernel
theorem dX10_init_168 : decode cX10_init 168 = .ok (.dup, 1) := by decide +kernel
theorem dX10_init_169 : decode cX10_init 169 = .ok (.invokespecial 80, 3) := by decide +kernel
theorem dX10_init_172 : decode cX10_init 172 = .ok (.aastore, 1) := by decide +kernel
theorem dX10_init_173 : decode cX10_init 173 = .ok (.dup, 1) := by decide +kernel
theorem dX10_init_174 : decode cX10_init 174 = .ok (.iconst 2, 1) := by decide +kernel
theorem dX10_init_175 : decode cX10_init 175 = .ok (.new 78, 3) := by decide +kernel
theorem dX10_init_178 : decode cX10_init 178 = .ok (.dup, 1) := by decide +kernel
theorem dX10_init_179 : decode cX10_init 179 = .ok (.invokespecial 80, 3) := by decide +kernel
theorem dX10_init_182 : decode cX10_init 182 = .ok (.aastore, 1) := by decide +kernel
theorem dX10_init_183 : decode cX10_init 183 = .ok (.dup, 1) := by decide +kernel
theorem dX10_init_184 : decode cX10_init 184 = .ok (.iconst 3, 1) := by decide +kernel
theorem dX10_init_185 : decode cX10_init 185 = .ok (.new 78, 3) := by decide +kernel
theorem dX10_init_188 : decode cX10_init 188 = .ok (.dup, 1) := by decide +kernel
theorem dX10_init_189 : decode cX10_init 189 = .ok (.invokespecial 80, 3) := by decide +kernel
theorem dX10_init_192 : decode cX10_init 192 = .ok (.aastore, 1) := by decide +kernel
theorem dX10_init_193 : decode cX10_init 193 = .ok (.putfield 81, 3) := by decide +kernel
theorem dX10_init_196 : decode cX10_init 196 = .ok (.aload_n 0, 1) := by decide +kernel
theorem dX10_init_197 : decode cX10_init 197 = .ok (.iconst 1, 1) := by decide +kernel
theorem dX10_init_198 : decode cX10_init 198 = .ok (.putfield 85, 3) := by decide +kernel
theorem dX10_init_201 : decode cX10_init 201 = .ok (.return_, 1) := by decide +kernel
theorem dX10_type_0 : decode cX10_type 0 = .ok (.iload_n 1, 1) := by decide +kernel
theorem dX10_type_1 : decode cX10_type 1 = .ok (.invokestatic 89, 3) := by decide +kernel
theorem dX10_type_4 : decode cX10_type 4 = .ok (.ifCond .eq 14, 3) := by decide +kernel
theorem dX10_type_7 : decode cX10_type 7 = .ok (.iload_n 2, 1) := by decide +kernel
theorem dX10_type_8 : decode cX10_type 8 = .ok (.ifCond .lt 10, 3) := by decide +kernel
theorem dX10_type_11 : decode cX10_type 11 = .ok (.iload_n 2, 1) := by decide +kernel
theorem dX10_type_12 : decode cX10_type 12 = .ok (.sipush 255, 3) := by decide +kernel
theorem dX10_type_15 : decode cX10_type 15 = .ok (.if_icmp .le 6, 3) := by decide +kernel
theorem dX10_type_18 : decode cX10_type 18 = .ok (.bipush (-2), 2) := by decide +kernel
theorem dX10_type_20 : decode cX10_type 20 = .ok (.ireturn, 1) := by decide +kernel
theorem dX10_type_21 : decode cX10_type 21 = .ok (.aload_n 0, 1) := by decide +kernel
theorem dX10_type_22 : decode cX10_type 22 = .ok (.getfield 14, 3) := by decide +kernel
theorem dX10_type_25 : decode cX10_type 25 = .ok (.iload_n 1, 1) := by decide +kernel
theorem dX10_type_26 : decode cX10_type 26 = .ok (.aaload, 1) := by decide +kernel
theorem dX10_type_27 : decode cX10_type 27 = .ok (.invokevirtual 93, 3) := by decide +kernel
theorem dX10_type_30 : decode cX10_type 30 = .ok (.ifCond .eq 6, 3) := by decide +kernel
theorem dX10_type_33 : decode cX10_type 33 = .ok (.bipush (-4), 2) := by decide +kernel
theorem dX10_type_35 : decode cX10_type 35 = .ok (.ireturn, 1) := by decide +kernel
theorem dX10_type_36 : decode cX10_type 36 = .ok (.aload_n 0, 1) := by decide +kernel
theorem dX10_type_37 : decode cX10_type 37 = .ok (.getfield 14, 3) := by decide +kernel
theorem dX10_type_40 : decode cX10_type 40 = .ok (.iload_n 1, 1) := by decide +kernel
theorem dX10_type_41 : decode cX10_type 41 = .ok (.aaload, 1) := by decide +kernel
theorem dX10_type_42 : decode cX10_type 42 = .ok (.iload_n 2, 1) := by decide +kernel
theorem dX10_type_43 : decode cX10_type 43 = .ok (.invokevirtual 97, 3) := by decide +kernel
theorem dX10_type_46 : decode cX10_type 46 = .ok (.aload_n 0, 1) := by decide +kernel
theorem dX10_type_47 : decode cX10_type 47 = .ok (.iload_n 1, 1) := by decide +kernel
theorem dX10_type_48 : decode cX10_type 48 = .ok (.invokevirtual 100, 3) := by decide +kernel
theorem dX10_type_51 : decode cX10_type 51 = .ok (.aload_n 0, 1) := by decide +kernel
theorem dX10_type_52 : decode cX10_type 52 = .ok (.getfield 14, 3) := by decide +kernel
theorem dX10_type_55 : decode cX10_type 55 = .ok (.iload_n 1, 1) := by decide +kernel
theorem dX10_type_56 : decode cX10_type 56 = .ok (.aaload, 1) := by decide +kernel
theorem dX10_type_57 : decode cX10_type 57 = .ok (.invokevirtual 103, 3) := by decide +kernel
theorem dX10_type_60 : decode cX10_type 60 = .ok (.ireturn, 1) := by decide +kernel
theorem dX10_wipe_0 : decode cX10_wipe 0 = .ok (.iload_n 1, 1) := by decide +kernel
theorem dX10_wipe_1 : decode cX10_wipe 1 = .ok (.invokestatic 89, 3) := by decide +kernel
theorem dX10_wipe_4 : decode cX10_wipe 4 = .ok (.ifCond .ne 6, 3) := by decide +kernel
theorem dX10_wipe_7 : decode cX10_wipe 7 = .ok (.bipush (-2), 2) := by decide +kernel
theorem dX10_wipe_9 : decode cX10_wipe 9 = .ok (.ireturn, 1) := by decide +kernel
theorem dX10_wipe_10 : decode cX10_wipe 10 = .ok (.aload_n 0, 1) := by decide +kernel
theorem dX10_wipe_11 : decode cX10_wipe 11 = .ok (.getfield 14, 3) := by decide +kernel
theorem dX10_wipe_14 : decode cX10_wipe 14 = .ok (.iload_n 1, 1) := by decide +kernel
theorem dX10_wipe_15 : decode cX10_wipe 15 = .ok (.aaload, 1) := by decide +kernel
theorem dX10_wipe_16 : decode cX10_wipe 16 = .ok (.invokevirtual 103, 3) := by decide +kernel
theorem dX10_wipe_19 : decode cX10_wipe 19 = .ok (.istore_n 2, 1) := by decide +kernel
theorem dX10_wipe_20 : decode cX10_wipe 20 = .ok (.aload_n 0, 1) := by decide +kernel
theorem dX10_wipe_21 : decode cX10_wipe 21 = .ok (.getfield 14, 3) := by decide +kernel
theorem dX10_wipe_24 : decode cX10_wipe 24 = .ok (.iload_n 1, 1) := by decide +kernel
theorem dX10_wipe_25 : decode cX10_wipe 25 = .ok (.aaload, 1) := by decide +kernel
theorem dX10_wipe_26 : decode cX10_wipe 26 = .ok (.invokevirtual 107, 3) := by decide +kernel
theorem dX10_wipe_29 : decode cX10_wipe 29 = .ok (.aload_n 0, 1) := by decide +kernel
theorem dX10_wipe_30 : decode cX10_wipe 30 = .ok (.iload_n 1, 1) := by decide +kernel
theorem dX10_wipe_31 : decode cX10_wipe 31 = .ok (.invokevirtual 100, 3) := by decide +kernel
theorem dX10_wipe_34 : decode cX10_wipe 34 = .ok (.iload_n 2, 1) := by decide +kernel
theorem dX10_wipe_35 : decode cX10_wipe 35 = .ok (.ireturn, 1) := by decide +kernel
theorem dX10_undo_0 : decode cX10_undo 0 = .ok (.iload_n 1, 1) := by decide +kernel
theorem dX10_undo_1 : decode cX10_undo 1 = .ok (.invokestatic 89, 3) := by decide +kernel
theorem dX10_undo_4 : decode cX10_undo 4 = .ok (.ifCond .ne 6, 3) := by decide +kernel
theorem dX10_undo_7 : decode cX10_undo 7 = .ok (.bipush (-2), 2) := by decide +kernel
theorem dX10_undo_9 : decode cX10_undo 9 = .ok (.ireturn, 1) := by decide +kernel
theorem dX10_undo_10 : decode cX10_undo 10 = .ok (.aload_n 0, 1) := by decide +kernel
theorem dX10_undo_11 : decode cX10_undo 11 = .ok (.getfield 14, 3) := by decide +kernel
theorem dX10_undo_14 : decode cX10_undo 14 = .ok (.iload_n 1, 1) := by decide +kernel
theorem dX10_undo_15 : decode cX10_undo 15 = .ok (.aaload, 1) := by decide +kernel
theorem dX10_undo_16 : decode cX10_undo 16 = .ok (.invokevirtual 103, 3) := by decide +kernel
theorem dX10_undo_19 : decode cX10_undo 19 = .ok (.ifCond .ne 6, 3) := by decide +kernel
theorem dX10_undo_22 : decode cX10_undo 22 = .ok (.bipush (-3), 2) := by decide +kernel
theorem dX10_undo_24 : decode cX10_undo 24 = .ok (.ireturn, 1) := by decide +kernel
theorem dX10_undo_25 : decode cX10_undo 25 = .ok (.aload_n 0, 1) := by decide +kernel
theorem dX10_undo_26 : decode cX10_undo 26 = .ok (.getfield 14, 3) := by decide +kernel
theorem dX10_undo_29 : decode cX10_undo 29 = .ok (.iload_n 1, 1) := by decide +kernel
theorem dX10_undo_30 : decode cX10_undo 30 = .ok (.aaload, 1) := by decide +kernel
theorem dX10_undo_31 : decode cX10_undo 31 = .ok (.invokevirtual 110, 3) := by decide +kernel
theorem dX10_undo_34 : decode cX10_undo 34 = .ok (.aload_n 0, 1) := by decide +kernel
theorem dX10_undo_35 : decode cX10_undo 35 = .ok (.iload_n 1, 1) := by decide +kernel
theorem dX10_undo_36 : decode cX10_undo 36 = .ok (.invokevirtual 100, 3) := by decide +kernel
theorem dX10_undo_39 : decode cX10_undo 39 = .ok (.aload_n 0, 1) := by decide +kernel
theorem dX10_undo_40 : decode cX10_undo 40 = .ok (.getfield 14, 3) := by decide +kernel
theorem dX10_undo_43 : decode cX10_undo 43 = .ok (.iload_n 1, 1) := by decide +kernel
theorem dX10_undo_44 : decode cX10_undo 44 = .ok (.aaload, 1) := by decide +kernel
theorem dX10_undo_45 : decode cX10_undo 45 = .ok (.invokevirtual 103, 3) := by decide +kernel
theorem dX10_undo_48 : decode cX10_undo 48 = .ok (.ireturn, 1) := by decide +kernel
theorem dX10_fault_0 : decode cX10_fault 0 = .ok (.iload_n 1, 1) := by decide +kernel
theorem dX10_fault_1 : decode cX10_fault 1 = .ok (.invokestatic 89, 3) := by decide +kernel
theorem dX10_fault_4 : decode cX10_fault 4 = .ok (.ifCond .ne 6, 3) := by decide +kernel
theorem dX10_fault_7 : decode cX10_fault 7 = .ok (.bipush (-2), 2) := by decide +kernel
theorem dX10_fault_9 : decode cX10_fault 9 = .ok (.ireturn, 1) := by decide +kernel
theorem dX10_fault_10 : decode cX10_fault 10 = .ok (.aload_n 0, 1) := by decide +kernel
theorem dX10_fault_11 : decode cX10_fault 11 = .ok (.invokevirtual 113, 3) := by decide +kernel
theorem dX10_fault_14 : decode cX10_fault 14 = .ok (.iload_n 1, 1) := by decide +kernel
theorem dX10_fault_15 : decode cX10_fault 15 = .ok (.ifCond .ne 11, 3) := by decide +kernel
theorem dX10_fault_18 : decode cX10_fault 18 = .ok (.aload_n 0, 1) := by decide +kernel
theorem dX10_fault_19 : decode cX10_fault 19 = .ok (.getfield 21, 3) := by decide +kernel
theorem dX10_fault_22 : decode cX10_fault 22 = .ok (.invokevirtual 116, 3) := by decide +kernel
theorem dX10_fault_25 : decode cX10_fault 25 = .ok (.ireturn, 1) := by decide +kernel
theorem dX10_fault_26 : decode cX10_fault 26 = .ok (.iload_n 1, 1) := by decide +kernel
theorem dX10_fault_27 : decode cX10_fault 27 = .ok (.iconst 1, 1) := by decide +kernel
theorem dX10_fault_28 : decode cX10_fault 28 = .ok (.if_icmp .ne 13, 3) := by decide +kernel
theorem dX10_fault_31 : decode cX10_fault 31 = .ok (.aload_n 0, 1) := by decide +kernel
theorem dX10_fault_32 : decode cX10_fault 32 = .ok (.getfield 28, 3) := by decide +kernel
theorem dX10_fault_35 : decode cX10_fault 35 = .ok (.invokevirtual 119, 3) := by decide +kernel
theorem dX10_fault_38 : decode cX10_fault 38 = .ok (.goto 10, 3) := by decide +kernel
theorem dX10_fault_41 : decode cX10_fault 41 = .ok (.aload_n 0, 1) := by decide +kernel
theorem dX10_fault_42 : decode cX10_fault 42 = .ok (.getfield 35, 3) := by decide +kernel
theorem dX10_fault_45 : decode cX10_fault 45 = .ok (.invokevirtual 120, 3) := by decide +kernel
theorem dX10_fault_48 : decode cX10_fault 48 = .ok (.ireturn, 1) := by decide +kernel
theorem dX10_name_0 : decode cX10_name 0 = .ok (.aload_n 0, 1) := by decide +kernel
theorem dX10_name_1 : decode cX10_name 1 = .ok (.invokevirtual 113, 3) := by decide +kernel
theorem dX10_name_4 : decode cX10_name 4 = .ok (.aload_n 0, 1) := by decide +kernel
theorem dX10_name_5 : decode cX10_name 5 = .ok (.getfield 21, 3) := by decide +kernel
theorem dX10_name_8 : decode cX10_name 8 = .ok (.iload_n 1, 1) := by decide +kernel
theorem dX10_name_9 : decode cX10_name 9 = .ok (.invokevirtual 121, 3) := by decide +kernel
theorem dX10_name_12 : decode cX10_name 12 = .ok (.ifCond .eq 15, 3) := by decide +kernel
theorem dX10_name_15 : decode cX10_name 15 = .ok (.iload_n 2, 1) := by decide +kernel
theorem dX10_name_16 : decode cX10_name 16 = .ok (.bipush (-2), 2) := by decide +kernel
theorem dX10_name_18 : decode cX10_name 18 = .ok (.if_icmp .lt 9, 3) := by decide +kernel
theorem dX10_name_21 : decode cX10_name 21 = .ok (.iload_n 2, 1) := by decide +kernel
theorem dX10_name_22 : decode cX10_name 22 = .ok (.bipush 6, 2) := by decide +kernel
theorem dX10_name_24 : decode cX10_name 24 = .ok (.if_icmp .lt 6, 3) := by decide +kernel
theorem dX10_name_27 : decode cX10_name 27 = .ok (.bipush (-2), 2) := by decide +kernel
theorem dX10_name_29 : decode cX10_name 29 = .ok (.ireturn, 1) := by decide +kernel
theorem dX10_name_30 : decode cX10_name 30 = .ok (.iload_n 2, 1) := by decide +kernel
theorem dX10_name_31 : decode cX10_name 31 = .ok (.bipush (-2), 2) := by decide +kernel
theorem dX10_name_33 : decode cX10_name 33 = .ok (.if_icmp .ne 12, 3) := by decide +kernel
theorem dX10_name_36 : decode cX10_name 36 = .ok (.aload_n 0, 1) := by decide +kernel
theorem dX10_name_37 : decode cX10_name 37 = .ok (.getfield 21, 3) := by decide +kernel
theorem dX10_name_40 : decode cX10_name 40 = .ok (.iload_n 1, 1) := by decide +kernel
theorem dX10_name_41 : decode cX10_name 41 = .ok (.invokevirtual 124, 3) := by decide +kernel
theorem dX10_name_44 : decode cX10_name 44 = .ok (.ireturn, 1) := by decide +kernel
theorem dX10_name_45 : decode cX10_name 45 = .ok (.iload_n 2, 1) := by decide +kernel
theorem dX10_name_46 : decode cX10_name 46 = .ok (.iconst (-1), 1) := by decide +kernel
theorem dX10_name_47 : decode cX10_name 47 = .ok (.if_icmp .ne 14, 3) := by decide +kernel
theorem dX10_name_50 : decode cX10_name 50 = .ok (.aload_n 0, 1) := by decide +kernel
theorem dX10_name_51 : decode cX10_name 51 = .ok (.getfield 21, 3) := by decide +kernel
theorem dX10_name_54 : decode cX10_name 54 = .ok (.iload_n 1, 1) := by decide +kernel
theorem dX10_name_55 : decode cX10_name 55 = .ok (.invokevirtual 128, 3) := by decide +kernel
theorem dX10_name_58 : decode cX10_name 58 = .ok (.goto 12, 3) := by decide +kernel
theorem dX10_name_61 : decode cX10_name 61 = .ok (.aload_n 0, 1) := by decide +kernel
theorem dX10_name_62 : decode cX10_name 62 = .ok (.getfield 21, 3) := by decide +kernel
theorem dX10_name_65 : decode cX10_name 65 = .ok (.iload_n 1, 1) := by decide +kernel
theorem dX10_name_66 : decode cX10_name 66 = .ok (.iload_n 2, 1) := by decide +kernel
theorem dX10_name_67 : decode cX10_name 67 = .ok (.invokevirtual 131, 3) := by decide +kernel
theorem dX10_name_70 : decode cX10_name 70 = .ok (.ireturn, 1) := by decide +kernel
theorem dX10_set_0 : decode cX10_set 0 = .ok (.aload_n 0, 1) := by decide +kernel
theorem dX10_set_1 : decode cX10_set 1 = .ok (.getfield 49, 3) := by decide +kernel
theorem dX10_set_4 : decode cX10_set 4 = .ok (.iload_n 1, 1) := by decide +kernel
theorem dX10_set_5 : decode cX10_set 5 = .ok (.iload_n 2, 1) := by decide +kernel
theorem dX10_set_6 : decode cX10_set 6 = .ok (.invokevirtual 135, 3) := by decide +kernel
theorem dX10_set_9 : decode cX10_set 9 = .ok (.ifCond .ne 6, 3) := by decide +kernel
theorem dX10_set_12 : decode cX10_set 12 = .ok (.bipush (-2), 2) := by decide +kernel
theorem dX10_set_14 : decode cX10_set 14 = .ok (.ireturn, 1) := by decide +kernel
theorem dX10_set_15 : decode cX10_set 15 = .ok (.aload_n 0, 1) := by decide +kernel
theorem dX10_set_16 : decode cX10_set 16 = .ok (.getfield 65, 3) := by decide +kernel
theorem dX10_set_19 : decode cX10_set 19 = .ok (.invokevirtual 139, 3) := by decide +kernel
theorem dX10_set_22 : decode cX10_set 22 = .ok (.aload_n 0, 1) := by decide +kernel
theorem dX10_set_23 : decode cX10_set 23 = .ok (.getfield 49, 3) := by decide +kernel
theorem dX10_set_26 : decode cX10_set 26 = .ok (.iload_n 1, 1) := by decide +kernel
theorem dX10_set_27 : decode cX10_set 27 = .ok (.iload_n 2, 1) := by decide +kernel
theorem dX10_set_28 : decode cX10_set 28 = .ok (.invokevirtual 142, 3) := by decide +kernel
theorem dX10_set_31 : decode cX10_set 31 = .ok (.ireturn, 1) := by decide +kernel
theorem dX10_guess_0 : decode cX10_guess 0 = .ok (.iload_n 1, 1) := by decide +kernel
theorem dX10_guess_1 : decode cX10_guess 1 = .ok (.invokestatic 145, 3) := by decide +kernel
theorem dX10_guess_4 : decode cX10_guess 4 = .ok (.ifCond .ne 6, 3) := by decide +kernel
theorem dX10_guess_7 : decode cX10_guess 7 = .ok (.bipush (-2), 2) := by decide +kernel
theorem dX10_guess_9 : decode cX10_guess 9 = .ok (.ireturn, 1) := by decide +kernel
theorem dX10_guess_10 : decode cX10_guess 10 = .ok (.aload_n 0, 1) := by decide +kernel
theorem dX10_guess_11 : decode cX10_guess 11 = .ok (.getfield 56, 3) := by decide +kernel
theorem dX10_guess_14 : decode cX10_guess 14 = .ok (.invokevirtual 148, 3) := by decide +kernel
theorem dX10_guess_17 : decode cX10_guess 17 = .ok (.ifCond .eq 6, 3) := by decide +kernel
theorem dX10_guess_20 : decode cX10_guess 20 = .ok (.bipush (-4), 2) := by decide +kernel
theorem dX10_guess_22 : decode cX10_guess 22 = .ok (.ireturn, 1) := by decide +kernel
theorem dX10_guess_23 : decode cX10_guess 23 = .ok (.aload_n 0, 1) := by decide +kernel
theorem dX10_guess_24 : decode cX10_guess 24 = .ok (.getfield 56, 3) := by decide +kernel
theorem dX10_guess_27 : decode cX10_guess 27 = .ok (.iload_n 1, 1) := by decide +kernel
theorem dX10_guess_28 : decode cX10_guess 28 = .ok (.invokevirtual 149, 3) := by decide +kernel
theorem dX10_guess_31 : decode cX10_guess 31 = .ok (.aload_n 0, 1) := by decide +kernel
theorem dX10_guess_32 : decode cX10_guess 32 = .ok (.getfield 56, 3) := by decide +kernel
theorem dX10_guess_35 : decode cX10_guess 35 = .ok (.invokevirtual 150, 3) := by decide +kernel
theorem dX10_guess_38 : decode cX10_guess 38 = .ok (.ireturn, 1) := by decide +kernel
theorem dX10_unguess_0 : decode cX10_unguess 0 = .ok (.aload_n 0, 1) := by decide +kernel
theorem dX10_unguess_1 : decode cX10_unguess 1 = .ok (.getfield 56, 3) := by decide +kernel
theorem dX10_unguess_4 : decode cX10_unguess 4 = .ok (.invokevirtual 150, 3) := by decide +kernel
theorem dX10_unguess_7 : decode cX10_unguess 7 = .ok (.ifCond .ne 6, 3) := by decide +kernel
theorem dX10_unguess_10 : decode cX10_unguess 10 = .ok (.bipush (-3), 2) := by decide +kernel
theorem dX10_unguess_12 : decode cX10_unguess 12 = .ok (.ireturn, 1) := by decide +kernel
theorem dX10_unguess_13 : decode cX10_unguess 13 = .ok (.aload_n 0, 1) := by decide +kernel
theorem dX10_unguess_14 : decode cX10_unguess 14 = .ok (.getfield 56, 3) := by decide +kernel
theorem dX10_unguess_17 : decode cX10_unguess 17 = .ok (.invokevirtual 151, 3) := by decide +kernel
theorem dX10_unguess_20 : decode cX10_unguess 20 = .ok (.aload_n 0, 1) := by decide +kernel
theorem dX10_unguess_21 : decode cX10_unguess 21 = .ok (.getfield 56, 3) := by decide +kernel
theorem dX10_unguess_24 : decode cX10_unguess 24 = .ok (.invokevirtual 150, 3) := by decide +kernel
theorem dX10_unguess_27 : decode cX10_unguess 27 = .ok (.ireturn, 1) := by decide +kernel
theorem dX10_read_0 : decode cX10_read 0 = .ok (.iload_n 1, 1) := by decide +kernel
theorem dX10_read_1 : decode cX10_read 1 = .ok (.invokestatic 152, 3) := by decide +kernel
theorem dX10_read_4 : decode cX10_read 4 = .ok (.ifCond .ne 6, 3) := by decide +kernel
theorem dX10_read_7 : decode cX10_read 7 = .ok (.bipush (-2), 2) := by decide +kernel
theorem dX10_read_9 : decode cX10_read 9 = .ok (.ireturn, 1) := by decide +kernel
theorem dX10_read_10 : decode cX10_read 10 = .ok (.aload_n 0, 1) := by decide +kernel
theorem dX10_read_11 : decode cX10_read 11 = .ok (.getfield 81, 3) := by decide +kernel
theorem dX10_read_14 : decode cX10_read 14 = .ok (.iload_n 1, 1) := by decide +kernel
theorem dX10_read_15 : decode cX10_read 15 = .ok (.aaload, 1) := by decide +kernel
theorem dX10_read_16 : decode cX10_read 16 = .ok (.astore_n 2, 1) := by decide +kernel
theorem dX10_read_17 : decode cX10_read 17 = .ok (.aload_n 2, 1) := by decide +kernel
theorem dX10_read_18 : decode cX10_read 18 = .ok (.invokevirtual 155, 3) := by decide +kernel
theorem dX10_read_21 : decode cX10_read 21 = .ok (.ifCond .eq 9, 3) := by decide +kernel
theorem dX10_read_24 : decode cX10_read 24 = .ok (.aload_n 0, 1) := by decide +kernel
theorem dX10_read_25 : decode cX10_read 25 = .ok (.iconst 1, 1) := by decide +kernel
theorem dX10_read_26 : decode cX10_read 26 = .ok (.invokevirtual 158, 3) := by decide +kernel
theorem dX10_read_29 : decode cX10_read 29 = .ok (.ireturn, 1) := by decide +kernel
theorem dX10_read_30 : decode cX10_read 30 = .ok (.aload_n 0, 1) := by decide +kernel
theorem dX10_read_31 : decode cX10_read 31 = .ok (.getfield 56, 3) := by decide +kernel
theorem dX10_read_34 : decode cX10_read 34 = .ok (.invokevirtual 161, 3) := by decide +kernel
theorem dX10_read_37 : decode cX10_read 37 = .ok (.iconst 0, 1) := by decide +kernel
theorem dX10_read_38 : decode cX10_read 38 = .ok (.istore_n 3, 1) := by decide +kernel
theorem dX10_read_39 : decode cX10_read 39 = .ok (.iload_n 3, 1) := by decide +kernel
theorem dX10_read_40 : decode cX10_read 40 = .ok (.aload_n 2, 1) := by decide +kernel
theorem dX10_read_41 : decode cX10_read 41 = .ok (.invokevirtual 162, 3) := by decide +kernel
theorem dX10_read_44 : decode cX10_read 44 = .ok (.if_icmp .ge 45, 3) := by decide +kernel
theorem dX10_read_47 : decode cX10_read 47 = .ok (.aload_n 0, 1) := by decide +kernel
theorem dX10_read_48 : decode cX10_read 48 = .ok (.getfield 56, 3) := by decide +kernel
theorem dX10_read_51 : decode cX10_read 51 = .ok (.invokevirtual 148, 3) := by decide +kernel
theorem dX10_read_54 : decode cX10_read 54 = .ok (.ifCond .ne 35, 3) := by decide +kernel
theorem dX10_read_57 : decode cX10_read 57 = .ok (.aload_n 2, 1) := by decide +kernel
theorem dX10_read_58 : decode cX10_read 58 = .ok (.iload_n 3, 1) := by decide +kernel
theorem dX10_read_59 : decode cX10_read 59 = .ok (.invokevirtual 163, 3) := by decide +kernel
theorem dX10_read_62 : decode cX10_read 62 = .ok (.invokestatic 145, 3) := by decide +kernel
theorem dX10_read_65 : decode cX10_read 65 = .ok (.ifCond .ne 6, 3) := by decide +kernel
theorem dX10_read_68 : decode cX10_read 68 = .ok (.goto 21, 3) := by decide +kernel
theorem dX10_read_71 : decode cX10_read 71 = .ok (.aload_n 0, 1) := by decide +kernel
theorem dX10_read_72 : decode cX10_read 72 = .ok (.getfield 56, 3) := by decide +kernel
theorem dX10_read_75 : decode cX10_read 75 = .ok (.aload_n 2, 1) := by decide +kernel
theorem dX10_read_76 : decode cX10_read 76 = .ok (.iload_n 3, 1) := by decide +kernel
theorem dX10_read_77 : decode cX10_read 77 = .ok (.invokevirtual 163, 3) := by decide +kernel
theorem dX10_read_80 : decode cX10_read 80 = .ok (.invokevirtual 149, 3) := by decide +kernel
theorem dX10_read_83 : decode cX10_read 83 = .ok (.iinc 3 1, 3) := by decide +kernel
theorem dX10_read_86 : decode cX10_read 86 = .ok (.goto (-47), 3) := by decide +kernel
theorem dX10_read_89 : decode cX10_read 89 = .ok (.aload_n 0, 1) := by decide +kernel
theorem dX10_read_90 : decode cX10_read 90 = .ok (.getfield 56, 3) := by decide +kernel
theorem dX10_read_93 : decode cX10_read 93 = .ok (.invokevirtual 150, 3) := by decide +kernel
theorem dX10_read_96 : decode cX10_read 96 = .ok (.ireturn, 1) := by decide +kernel
theorem dX10_fits_0 : decode cX10_fits 0 = .ok (.aload_n 0, 1) := by decide +kernel
theorem dX10_fits_1 : decode cX10_fits 1 = .ok (.invokevirtual 113, 3) := by decide +kernel
theorem dX10_fits_4 : decode cX10_fits 4 = .ok (.aload_n 0, 1) := by decide +kernel
theorem dX10_fits_5 : decode cX10_fits 5 = .ok (.getfield 42, 3) := by decide +kernel
theorem dX10_fits_8 : decode cX10_fits 8 = .ok (.invokevirtual 166, 3) := by decide +kernel
theorem dX10_fits_11 : decode cX10_fits 11 = .ok (.ireturn, 1) := by decide +kernel
theorem dX10_chance_0 : decode cX10_chance 0 = .ok (.aload_n 0, 1) := by decide +kernel
theorem dX10_chance_1 : decode cX10_chance 1 = .ok (.invokevirtual 113, 3) := by decide +kernel
theorem dX10_chance_4 : decode cX10_chance 4 = .ok (.aload_n 0, 1) := by decide +kernel
theorem dX10_chance_5 : decode cX10_chance 5 = .ok (.getfield 21, 3) := by decide +kernel
theorem dX10_chance_8 : decode cX10_chance 8 = .ok (.iload_n 1, 1) := by decide +kernel
theorem dX10_chance_9 : decode cX10_chance 9 = .ok (.invokevirtual 121, 3) := by decide +kernel
theorem dX10_chance_12 : decode cX10_chance 12 = .ok (.ifCond .eq 10, 3) := by decide +kernel
theorem dX10_chance_15 : decode cX10_chance 15 = .ok (.iload_n 2, 1) := by decide +kernel
theorem dX10_chance_16 : decode cX10_chance 16 = .ok (.invokestatic 169, 3) := by decide +kernel
theorem dX10_chance_19 : decode cX10_chance 19 = .ok (.ifCond .ne 9, 3) := by decide +kernel
theorem dX10_chance_22 : decode cX10_chance 22 = .ok (.bipush (-2), 2) := by decide +kernel
theorem dX10_chance_24 : decode cX10_chance 24 = .ok (.invokestatic 172, 3) := by decide +kernel
theorem dX10_chance_27 : decode cX10_chance 27 = .ok (.lreturn, 1) := by decide +kernel
theorem dX10_chance_28 : decode cX10_chance 28 = .ok (.aload_n 0, 1) := by decide +kernel
theorem dX10_chance_29 : decode cX10_chance 29 = .ok (.getfield 42, 3) := by decide +kernel
theorem dX10_chance_32 : decode cX10_chance 32 = .ok (.invokevirtual 166, 3) := by decide +kernel
theorem dX10_chance_35 : decode cX10_chance 35 = .ok (.istore_n 3, 1) := by decide +kernel
theorem dX10_chance_36 : decode cX10_chance 36 = .ok (.iload_n 3, 1) := by decide +kernel
theorem dX10_chance_37 : decode cX10_chance 37 = .ok (.ifCond .ne 9, 3) := by decide +kernel
theorem dX10_chance_40 : decode cX10_chance 40 = .ok (.bipush (-3), 2) := by decide +kernel
theorem dX10_chance_42 : decode cX10_chance 42 = .ok (.invokestatic 172, 3) := by decide +kernel
theorem dX10_chance_45 : decode cX10_chance 45 = .ok (.lreturn, 1) := by decide +kernel
theorem dX10_chance_46 : decode cX10_chance 46 = .ok (.iload_n 3, 1) := by decide +kernel
theorem dX10_chance_47 : decode cX10_chance 47 = .ok (.iconst 1, 1) := by decide +kernel
theorem dX10_chance_48 : decode cX10_chance 48 = .ok (.iload_n 1, 1) := by decide +kernel
theorem dX10_chance_49 : decode cX10_chance 49 = .ok (.ishl, 1) := by decide +kernel
theorem dX10_chance_50 : decode cX10_chance 50 = .ok (.iand, 1) := by decide +kernel
theorem dX10_chance_51 : decode cX10_chance 51 = .ok (.ifCond .ne 7, 3) := by decide +kernel
theorem dX10_chance_54 : decode cX10_chance 54 = .ok (.iconst 0, 1) := by decide +kernel
theorem dX10_chance_55 : decode cX10_chance 55 = .ok (.goto 11, 3) := by decide +kernel
theorem dX10_chance_58 : decode cX10_chance 58 = .ok (.aload_n 0, 1) := by decide +kernel
theorem dX10_chance_59 : decode cX10_chance 59 = .ok (.getfield 21, 3) := by decide +kernel
theorem dX10_chance_62 : decode cX10_chance 62 = .ok (.iload_n 1, 1) := by decide +kernel
theorem dX10_chance_63 : decode cX10_chance 63 = .ok (.invokevirtual 128, 3) := by decide +kernel
theorem dX10_chance_66 : decode cX10_chance 66 = .ok (.istore 4, 2) := by decide +kernel
theorem dX10_chance_68 : decode cX10_chance 68 = .ok (.iload 4, 2) := by decide +kernel
theorem dX10_chance_70 : decode cX10_chance 70 = .ok (.aload_n 0, 1) := by decide +kernel
theorem dX10_chance_71 : decode cX10_chance 71 = .ok (.getfield 21, 3) := by decide +kernel
theorem dX10_chance_74 : decode cX10_chance 74 = .ok (.iload_n 3, 1) := by decide +kernel
theorem dX10_chance_75 : decode cX10_chance 75 = .ok (.invokevirtual 176, 3) := by decide +kernel
theorem dX10_chance_78 : decode cX10_chance 78 = .ok (.iload_n 2, 1) := by decide +kernel
theorem dX10_chance_79 : decode cX10_chance 79 = .ok (.invokestatic 179, 3) := by decide +kernel
theorem dX10_chance_82 : decode cX10_chance 82 = .ok (.i2l, 1) := by decide +kernel
theorem dX10_chance_83 : decode cX10_chance 83 = .ok (.lreturn, 1) := by decide +kernel
theorem dX10_heard_0 : decode cX10_heard 0 = .ok (.aload_n 0, 1) := by decide +kernel
theorem dX10_heard_1 : decode cX10_heard 1 = .ok (.invokevirtual 113, 3) := by decide +kernel
theorem dX10_heard_4 : decode cX10_heard 4 = .ok (.aload_n 0, 1) := by decide +kernel
theorem dX10_heard_5 : decode cX10_heard 5 = .ok (.getfield 28, 3) := by decide +kernel
theorem dX10_heard_8 : decode cX10_heard 8 = .ok (.iload_n 1, 1) := by decide +kernel
theorem dX10_heard_9 : decode cX10_heard 9 = .ok (.invokevirtual 183, 3) := by decide +kernel
theorem dX10_heard_12 : decode cX10_heard 12 = .ok (.ifCond .eq 14, 3) := by decide +kernel
theorem dX10_heard_15 : decode cX10_heard 15 = .ok (.aload_n 0, 1) := by decide +kernel
theorem dX10_heard_16 : decode cX10_heard 16 = .ok (.getfield 42, 3) := by decide +kernel
theorem dX10_heard_19 : decode cX10_heard 19 = .ok (.iload_n 1, 1) := by decide +kernel
theorem dX10_heard_20 : decode cX10_heard 20 = .ok (.invokevirtual 184, 3) := by decide +kernel
theorem dX10_heard_23 : decode cX10_heard 23 = .ok (.goto 5, 3) := by decide +kernel
theorem dX10_heard_26 : decode cX10_heard 26 = .ok (.bipush (-2), 2) := by decide +kernel
theorem dX10_heard_28 : decode cX10_heard 28 = .ok (.ireturn, 1) := by decide +kernel
theorem dX10_off_0 : decode cX10_off 0 = .ok (.aload_n 0, 1) := by decide +kernel
theorem dX10_off_1 : decode cX10_off 1 = .ok (.invokevirtual 113, 3) := by decide +kernel
theorem dX10_off_4 : decode cX10_off 4 = .ok (.aload_n 0, 1) := by decide +kernel
theorem dX10_off_5 : decode cX10_off 5 = .ok (.getfield 21, 3) := by decide +kernel
theorem dX10_off_8 : decode cX10_off 8 = .ok (.iload_n 1, 1) := by decide +kernel
theorem dX10_off_9 : decode cX10_off 9 = .ok (.invokevirtual 121, 3) := by decide +kernel
theorem dX10_off_12 : decode cX10_off 12 = .ok (.ifCond .eq 14, 3) := by decide +kernel
theorem dX10_off_15 : decode cX10_off 15 = .ok (.aload_n 0, 1) := by decide +kernel
theorem dX10_off_16 : decode cX10_off 16 = .ok (.getfield 21, 3) := by decide +kernel
theorem dX10_off_19 : decode cX10_off 19 = .ok (.iload_n 1, 1) := by decide +kernel
theorem dX10_off_20 : decode cX10_off 20 = .ok (.invokevirtual 187, 3) := by decide +kernel
theorem dX10_off_23 : decode cX10_off 23 = .ok (.goto 5, 3) := by decide +kernel
theorem dX10_off_26 : decode cX10_off 26 = .ok (.bipush (-2), 2) := by decide +kernel
theorem dX10_off_28 : decode cX10_off 28 = .ok (.ireturn, 1) := by decide +kernel
theorem dX10_named_0 : decode cX10_named 0 = .ok (.aload_n 0, 1) := by decide +kernel
theorem dX10_named_1 : decode cX10_named 1 = .ok (.invokevirtual 113, 3) := by decide +kernel
theorem dX10_named_4 : decode cX10_named 4 = .ok (.aload_n 0, 1) := by decide +kernel
theorem dX10_named_5 : decode cX10_named 5 = .ok (.getfield 21, 3) := by decide +kernel
theorem dX10_named_8 : decode cX10_named 8 = .ok (.iload_n 1, 1) := by decide +kernel
theorem dX10_named_9 : decode cX10_named 9 = .ok (.invokevirtual 121, 3) := by decide +kernel
theorem dX10_named_12 : decode cX10_named 12 = .ok (.ifCond .eq 10, 3) := by decide +kernel
theorem dX10_named_15 : decode cX10_named 15 = .ok (.iload_n 2, 1) := by decide +kernel
theorem dX10_named_16 : decode cX10_named 16 = .ok (.invokestatic 169, 3) := by decide +kernel
theorem dX10_named_19 : decode cX10_named 19 = .ok (.ifCond .ne 6, 3) := by decide +kernel
theorem dX10_named_22 : decode cX10_named 22 = .ok (.bipush (-2), 2) := by decide +kernel
theorem dX10_named_24 : decode cX10_named 24 = .ok (.ireturn, 1) := by decide +kernel
theorem dX10_named_25 : decode cX10_named 25 = .ok (.aload_n 0, 1) := by decide +kernel
theorem dX10_named_26 : decode cX10_named 26 = .ok (.getfield 56, 3) := by decide +kernel
theorem dX10_named_29 : decode cX10_named 29 = .ok (.iload_n 1, 1) := by decide +kernel
theorem dX10_named_30 : decode cX10_named 30 = .ok (.aload_n 0, 1) := by decide +kernel
theorem dX10_named_31 : decode cX10_named 31 = .ok (.getfield 49, 3) := by decide +kernel
theorem dX10_named_34 : decode cX10_named 34 = .ok (.invokevirtual 190, 3) := by decide +kernel
theorem dX10_named_37 : decode cX10_named 37 = .ok (.invokevirtual 193, 3) := by decide +kernel
theorem dX10_named_40 : decode cX10_named 40 = .ok (.istore_n 3, 1) := by decide +kernel
theorem dX10_named_41 : decode cX10_named 41 = .ok (.iload_n 2, 1) := by decide +kernel
theorem dX10_named_42 : decode cX10_named 42 = .ok (.iconst 1, 1) := by decide +kernel
theorem dX10_named_43 : decode cX10_named 43 = .ok (.if_icmp .ne 19, 3) := by decide +kernel
theorem dX10_named_46 : decode cX10_named 46 = .ok (.aload_n 0, 1) := by decide +kernel
theorem dX10_named_47 : decode cX10_named 47 = .ok (.getfield 49, 3) := by decide +kernel
theorem dX10_named_50 : decode cX10_named 50 = .ok (.iload_n 3, 1) := by decide +kernel
theorem dX10_named_51 : decode cX10_named 51 = .ok (.aload_n 0, 1) := by decide +kernel
theorem dX10_named_52 : decode cX10_named 52 = .ok (.getfield 56, 3) := by decide +kernel
theorem dX10_named_55 : decode cX10_named 55 = .ok (.invokevirtual 150, 3) := by decide +kernel
theorem dX10_named_58 : decode cX10_named 58 = .ok (.invokevirtual 196, 3) := by decide +kernel
theorem dX10_named_61 : decode cX10_named 61 = .ok (.ireturn, 1) := by decide +kernel
theorem dX10_named_62 : decode cX10_named 62 = .ok (.iload_n 3, 1) := by decide +kernel
theorem dX10_named_63 : decode cX10_named 63 = .ok (.iconst (-1), 1) := by decide +kernel
theorem dX10_named_64 : decode cX10_named 64 = .ok (.if_icmp .ne 7, 3) := by decide +kernel
theorem dX10_named_67 : decode cX10_named 67 = .ok (.iconst (-1), 1) := by decide +kernel
theorem dX10_named_68 : decode cX10_named 68 = .ok (.goto 11, 3) := by decide +kernel
theorem dX10_named_71 : decode cX10_named 71 = .ok (.aload_n 0, 1) := by decide +kernel
theorem dX10_named_72 : decode cX10_named 72 = .ok (.getfield 49, 3) := by decide +kernel
theorem dX10_named_75 : decode cX10_named 75 = .ok (.iload_n 3, 1) := by decide +kernel
theorem dX10_named_76 : decode cX10_named 76 = .ok (.invokevirtual 199, 3) := by decide +kernel
theorem dX10_named_79 : decode cX10_named 79 = .ok (.ireturn, 1) := by decide +kernel
theorem dX10_row_0 : decode cX10_row 0 = .ok (.iload_n 1, 1) := by decide +kernel
theorem dX10_row_1 : decode cX10_row 1 = .ok (.ifCond .lt 9, 3) := by decide +kernel
theorem dX10_row_4 : decode cX10_row 4 = .ok (.iload_n 1, 1) := by decide +kernel
theorem dX10_row_5 : decode cX10_row 5 = .ok (.bipush 10, 2) := by decide +kernel
theorem dX10_row_7 : decode cX10_row 7 = .ok (.if_icmp .lt 6, 3) := by decide +kernel
theorem dX10_row_10 : decode cX10_row 10 = .ok (.bipush (-2), 2) := by decide +kernel
theorem dX10_row_12 : decode cX10_row 12 = .ok (.ireturn, 1) := by decide +kernel
theorem dX10_row_13 : decode cX10_row 13 = .ok (.aload_n 0, 1) := by decide +kernel
theorem dX10_row_14 : decode cX10_row 14 = .ok (.invokevirtual 113, 3) := by decide +kernel
theorem dX10_row_17 : decode cX10_row 17 = .ok (.aload_n 0, 1) := by decide +kernel
theorem dX10_row_18 : decode cX10_row 18 = .ok (.getfield 42, 3) := by decide +kernel
theorem dX10_row_21 : decode cX10_row 21 = .ok (.iload_n 1, 1) := by decide +kernel
theorem dX10_row_22 : decode cX10_row 22 = .ok (.invokevirtual 202, 3) := by decide +kernel
theorem dX10_row_25 : decode cX10_row 25 = .ok (.ireturn, 1) := by decide +kernel
theorem dX10_mean_0 : decode cX10_mean 0 = .ok (.iload_n 1, 1) := by decide +kernel
theorem dX10_mean_1 : decode cX10_mean 1 = .ok (.invokestatic 169, 3) := by decide +kernel
theorem dX10_mean_4 : decode cX10_mean 4 = .ok (.ifCond .ne 9, 3) := by decide +kernel
theorem dX10_mean_7 : decode cX10_mean 7 = .ok (.bipush (-2), 2) := by decide +kernel
theorem dX10_mean_9 : decode cX10_mean 9 = .ok (.invokestatic 172, 3) := by decide +kernel
theorem dX10_mean_12 : decode cX10_mean 12 = .ok (.lreturn, 1) := by decide +kernel
theorem dX10_mean_13 : decode cX10_mean 13 = .ok (.aload_n 0, 1) := by decide +kernel
theorem dX10_mean_14 : decode cX10_mean 14 = .ok (.invokevirtual 113, 3) := by decide +kernel
theorem dX10_mean_17 : decode cX10_mean 17 = .ok (.aload_n 0, 1) := by decide +kernel
theorem dX10_mean_18 : decode cX10_mean 18 = .ok (.getfield 42, 3) := by decide +kernel
theorem dX10_mean_21 : decode cX10_mean 21 = .ok (.invokevirtual 205, 3) := by decide +kernel
theorem dX10_mean_24 : decode cX10_mean 24 = .ok (.istore_n 2, 1) := by decide +kernel
theorem dX10_mean_25 : decode cX10_mean 25 = .ok (.iload_n 2, 1) := by decide +kernel
theorem dX10_mean_26 : decode cX10_mean 26 = .ok (.ifCond .ne 9, 3) := by decide +kernel
theorem dX10_mean_29 : decode cX10_mean 29 = .ok (.bipush (-3), 2) := by decide +kernel
theorem dX10_mean_31 : decode cX10_mean 31 = .ok (.invokestatic 172, 3) := by decide +kernel
theorem dX10_mean_34 : decode cX10_mean 34 = .ok (.lreturn, 1) := by decide +kernel
theorem dX10_mean_35 : decode cX10_mean 35 = .ok (.iconst 0, 1) := by decide +kernel
theorem dX10_mean_36 : decode cX10_mean 36 = .ok (.istore_n 3, 1) := by decide +kernel
theorem dX10_mean_37 : decode cX10_mean 37 = .ok (.iconst 0, 1) := by decide +kernel
theorem dX10_mean_38 : decode cX10_mean 38 = .ok (.istore 4, 2) := by decide +kernel
theorem dX10_mean_40 : decode cX10_mean 40 = .ok (.iload 4, 2) := by decide +kernel
theorem dX10_mean_42 : decode cX10_mean 42 = .ok (.iload_n 2, 1) := by decide +kernel
theorem dX10_mean_43 : decode cX10_mean 43 = .ok (.if_icmp .ge 39, 3) := by decide +kernel
theorem dX10_mean_46 : decode cX10_mean 46 = .ok (.iload_n 3, 1) := by decide +kernel
theorem dX10_mean_47 : decode cX10_mean 47 = .ok (.aload_n 0, 1) := by decide +kernel
theorem dX10_mean_48 : decode cX10_mean 48 = .ok (.getfield 21, 3) := by decide +kernel
theorem dX10_mean_51 : decode cX10_mean 51 = .ok (.aload_n 0, 1) := by decide +kernel
theorem dX10_mean_52 : decode cX10_mean 52 = .ok (.getfield 42, 3) := by decide +kernel
theorem dX10_mean_55 : decode cX10_mean 55 = .ok (.iload 4, 2) := by decide +kernel
theorem dX10_mean_57 : decode cX10_mean 57 = .ok (.invokevirtual 202, 3) := by decide +kernel
theorem dX10_mean_60 : decode cX10_mean 60 = .ok (.invokevirtual 128, 3) := by decide +kernel
theorem dX10_mean_63 : decode cX10_mean 63 = .ok (.aload_n 0, 1) := by decide +kernel
theorem dX10_mean_64 : decode cX10_mean 64 = .ok (.getfield 49, 3) := by decide +kernel
theorem dX10_mean_67 : decode cX10_mean 67 = .ok (.iload 4, 2) := by decide +kernel
theorem dX10_mean_69 : decode cX10_mean 69 = .ok (.iload_n 2, 1) := by decide +kernel
theorem dX10_mean_70 : decode cX10_mean 70 = .ok (.invokevirtual 196, 3) := by decide +kernel
theorem dX10_mean_73 : decode cX10_mean 73 = .ok (.imul, 1) := by decide +kernel
theorem dX10_mean_74 : decode cX10_mean 74 = .ok (.iadd, 1) := by decide +kernel
theorem dX10_mean_75 : decode cX10_mean 75 = .ok (.istore_n 3, 1) := by decide +kernel
theorem dX10_mean_76 : decode cX10_mean 76 = .ok (.iinc 4 1, 3) := by decide +kernel
theorem dX10_mean_79 : decode cX10_mean 79 = .ok (.goto (-39), 3) := by decide +kernel
theorem dX10_mean_82 : decode cX10_mean 82 = .ok (.iload_n 3, 1) := by decide +kernel
theorem dX10_mean_83 : decode cX10_mean 83 = .ok (.aload_n 0, 1) := by decide +kernel
theorem dX10_mean_84 : decode cX10_mean 84 = .ok (.getfield 21, 3) := by decide +kernel
theorem dX10_mean_87 : decode cX10_mean 87 = .ok (.aload_n 0, 1) := by decide +kernel
theorem dX10_mean_88 : decode cX10_mean 88 = .ok (.getfield 42, 3) := by decide +kernel
theorem dX10_mean_91 : decode cX10_mean 91 = .ok (.invokevirtual 166, 3) := by decide +kernel
theorem dX10_mean_94 : decode cX10_mean 94 = .ok (.invokevirtual 176, 3) := by decide +kernel
theorem dX10_mean_97 : decode cX10_mean 97 = .ok (.iload_n 1, 1) := by decide +kernel
theorem dX10_mean_98 : decode cX10_mean 98 = .ok (.invokestatic 179, 3) := by decide +kernel
theorem dX10_mean_101 : decode cX10_mean 101 = .ok (.i2l, 1) := by decide +kernel
theorem dX10_mean_102 : decode cX10_mean 102 = .ok (.lreturn, 1) := by decide +kernel
theorem dX10_wisest_0 : decode cX10_wisest 0 = .ok (.iload_n 1, 1) := by decide +kernel
theorem dX10_wisest_1 : decode cX10_wisest 1 = .ok (.ifCond .lt 30, 3) := by decide +kernel
theorem dX10_wisest_4 : decode cX10_wisest 4 = .ok (.iload_n 1, 1) := by decide +kernel
theorem dX10_wisest_5 : decode cX10_wisest 5 = .ok (.aload_n 0, 1) := by decide +kernel
theorem dX10_wisest_6 : decode cX10_wisest 6 = .ok (.getfield 49, 3) := by decide +kernel
theorem dX10_wisest_9 : decode cX10_wisest 9 = .ok (.invokevirtual 208, 3) := by decide +kernel
theorem dX10_wisest_12 : decode cX10_wisest 12 = .ok (.if_icmp .gt 19, 3) := by decide +kernel
theorem dX10_wisest_15 : decode cX10_wisest 15 = .ok (.iload_n 2, 1) := by decide +kernel
theorem dX10_wisest_16 : decode cX10_wisest 16 = .ok (.invokestatic 211, 3) := by decide +kernel
theorem dX10_wisest_19 : decode cX10_wisest 19 = .ok (.ifCond .eq 12, 3) := by decide +kernel
theorem dX10_wisest_22 : decode cX10_wisest 22 = .ok (.iload_n 3, 1) := by decide +kernel
theorem dX10_wisest_23 : decode cX10_wisest 23 = .ok (.ifCond .lt 8, 3) := by decide +kernel
theorem dX10_wisest_26 : decode cX10_wisest 26 = .ok (.iload_n 3, 1) := by decide +kernel
theorem dX10_wisest_27 : decode cX10_wisest 27 = .ok (.iconst 2, 1) := by decide +kernel
theorem dX10_wisest_28 : decode cX10_wisest 28 = .ok (.if_icmp .le 9, 3) := by decide +kernel
theorem dX10_wisest_31 : decode cX10_wisest 31 = .ok (.bipush (-2), 2) := by decide +kernel
theorem dX10_wisest_33 : decode cX10_wisest 33 = .ok (.invokestatic 172, 3) := by decide +kernel
theorem dX10_wisest_36 : decode cX10_wisest 36 = .ok (.lreturn, 1) := by decide +kernel
theorem dX10_wisest_37 : decode cX10_wisest 37 = .ok (.aload_n 0, 1) := by decide +kernel
theorem dX10_wisest_38 : decode cX10_wisest 38 = .ok (.invokevirtual 113, 3) := by decide +kernel
theorem dX10_wisest_41 : decode cX10_wisest 41 = .ok (.aload_n 0, 1) := by decide +kernel
theorem dX10_wisest_42 : decode cX10_wisest 42 = .ok (.getfield 65, 3) := by decide +kernel
theorem dX10_wisest_45 : decode cX10_wisest 45 = .ok (.invokevirtual 214, 3) := by decide +kernel
theorem dX10_wisest_48 : decode cX10_wisest 48 = .ok (.iload_n 2, 1) := by decide +kernel
theorem dX10_wisest_49 : decode cX10_wisest 49 = .ok (.aload_n 0, 1) := by decide +kernel
theorem dX10_wisest_50 : decode cX10_wisest 50 = .ok (.getfield 21, 3) := by decide +kernel
theorem dX10_wisest_53 : decode cX10_wisest 53 = .ok (.invokevirtual 217, 3) := by decide +kernel
theorem dX10_wisest_56 : decode cX10_wisest 56 = .ok (.iand, 1) := by decide +kernel
theorem dX10_wisest_57 : decode cX10_wisest 57 = .ok (.istore 4, 2) := by decide +kernel
theorem dX10_wisest_59 : decode cX10_wisest 59 = .ok (.iload_n 3, 1) := by decide +kernel
theorem dX10_wisest_60 : decode cX10_wisest 60 = .ok (.iconst 2, 1) := by decide +kernel
theorem dX10_wisest_61 : decode cX10_wisest 61 = .ok (.if_icmp .ne 15, 3) := by decide +kernel
theorem dX10_wisest_64 : decode cX10_wisest 64 = .ok (.aload_n 0, 1) := by decide +kernel
theorem dX10_wisest_65 : decode cX10_wisest 65 = .ok (.getfield 65, 3) := by decide +kernel
theorem dX10_wisest_68 : decode cX10_wisest 68 = .ok (.iload_n 1, 1) := by decide +kernel
theorem dX10_wisest_69 : decode cX10_wisest 69 = .ok (.iload 4, 2) := by decide +kernel
theorem dX10_wisest_71 : decode cX10_wisest 71 = .ok (.invokevirtual 220, 3) := by decide +kernel
theorem dX10_wisest_74 : decode cX10_wisest 74 = .ok (.i2l, 1) := by decide +kernel
theorem dX10_wisest_75 : decode cX10_wisest 75 = .ok (.lreturn, 1) := by decide +kernel
theorem dX10_wisest_76 : decode cX10_wisest 76 = .ok (.iload 4, 2) := by decide +kernel
theorem dX10_wisest_78 : decode cX10_wisest 78 = .ok (.ifCond .ne 6, 3) := by decide +kernel
theorem dX10_wisest_81 : decode cX10_wisest 81 = .ok (.iload_n 3, 1) := by decide +kernel
theorem dX10_wisest_82 : decode cX10_wisest 82 = .ok (.i2l, 1) := by decide +kernel
theorem dX10_wisest_83 : decode cX10_wisest 83 = .ok (.lreturn, 1) := by decide +kernel
theorem dX10_wisest_84 : decode cX10_wisest 84 = .ok (.aload_n 0, 1) := by decide +kernel
theorem dX10_wisest_85 : decode cX10_wisest 85 = .ok (.getfield 65, 3) := by decide +kernel
theorem dX10_wisest_88 : decode cX10_wisest 88 = .ok (.iload_n 1, 1) := by decide +kernel
theorem dX10_wisest_89 : decode cX10_wisest 89 = .ok (.iload 4, 2) := by decide +kernel
theorem dX10_wisest_91 : decode cX10_wisest 91 = .ok (.invokevirtual 223, 3) := by decide +kernel
theorem dX10_wisest_94 : decode cX10_wisest 94 = .ok (.aload_n 0, 1) := by decide +kernel
theorem dX10_wisest_95 : decode cX10_wisest 95 = .ok (.getfield 21, 3) := by decide +kernel
theorem dX10_wisest_98 : decode cX10_wisest 98 = .ok (.iload 4, 2) := by decide +kernel
theorem dX10_wisest_100 : decode cX10_wisest 100 = .ok (.invokevirtual 176, 3) := by decide +kernel
theorem dX10_wisest_103 : decode cX10_wisest 103 = .ok (.iload_n 3, 1) := by decide +kernel
theorem dX10_wisest_104 : decode cX10_wisest 104 = .ok (.invokestatic 179, 3) := by decide +kernel
theorem dX10_wisest_107 : decode cX10_wisest 107 = .ok (.i2l, 1) := by decide +kernel
theorem dX10_wisest_108 : decode cX10_wisest 108 = .ok (.lreturn, 1) := by decide +kernel
theorem dX10_listen_0 : decode cX10_listen 0 = .ok (.iload_n 1, 1) := by decide +kernel
theorem dX10_listen_1 : decode cX10_listen 1 = .ok (.invokestatic 169, 3) := by decide +kernel
theorem dX10_listen_4 : decode cX10_listen 4 = .ok (.ifCond .ne 6, 3) := by decide +kernel
theorem dX10_listen_7 : decode cX10_listen 7 = .ok (.bipush (-2), 2) := by decide +kernel
theorem dX10_listen_9 : decode cX10_listen 9 = .ok (.ireturn, 1) := by decide +kernel
theorem dX10_listen_10 : decode cX10_listen 10 = .ok (.aload_n 0, 1) := by decide +kernel
theorem dX10_listen_11 : decode cX10_listen 11 = .ok (.invokevirtual 113, 3) := by decide +kernel
theorem dX10_listen_14 : decode cX10_listen 14 = .ok (.aload_n 0, 1) := by decide +kernel
theorem dX10_listen_15 : decode cX10_listen 15 = .ok (.getfield 42, 3) := by decide +kernel
theorem dX10_listen_18 : decode cX10_listen 18 = .ok (.invokevirtual 166, 3) := by decide +kernel
theorem dX10_listen_21 : decode cX10_listen 21 = .ok (.istore_n 2, 1) := by decide +kernel
theorem dX10_listen_22 : decode cX10_listen 22 = .ok (.iload_n 2, 1) := by decide +kernel
theorem dX10_listen_23 : decode cX10_listen 23 = .ok (.ifCond .ne 6, 3) := by decide +kernel
theorem dX10_listen_26 : decode cX10_listen 26 = .ok (.bipush (-3), 2) := by decide +kernel
theorem dX10_listen_28 : decode cX10_listen 28 = .ok (.ireturn, 1) := by decide +kernel
theorem dX10_listen_29 : decode cX10_listen 29 = .ok (.aload_n 0, 1) := by decide +kernel
theorem dX10_listen_30 : decode cX10_listen 30 = .ok (.getfield 74, 3) := by decide +kernel
theorem dX10_listen_33 : decode cX10_listen 33 = .ok (.iload_n 2, 1) := by decide +kernel
theorem dX10_listen_34 : decode cX10_listen 34 = .ok (.invokevirtual 226, 3) := by decide +kernel
theorem dX10_listen_37 : decode cX10_listen 37 = .ok (.istore_n 3, 1) := by decide +kernel
theorem dX10_listen_38 : decode cX10_listen 38 = .ok (.iload_n 1, 1) := by decide +kernel
theorem dX10_listen_39 : decode cX10_listen 39 = .ok (.ifCond .ne 7, 3) := by decide +kernel
theorem dX10_listen_42 : decode cX10_listen 42 = .ok (.iload_n 3, 1) := by decide +kernel
theorem dX10_listen_43 : decode cX10_listen 43 = .ok (.goto 12, 3) := by decide +kernel
theorem dX10_listen_46 : decode cX10_listen 46 = .ok (.aload_n 0, 1) := by decide +kernel
theorem dX10_listen_47 : decode cX10_listen 47 = .ok (.getfield 74, 3) := by decide +kernel
theorem dX10_listen_50 : decode cX10_listen 50 = .ok (.iload_n 2, 1) := by decide +kernel
theorem dX10_listen_51 : decode cX10_listen 51 = .ok (.iload_n 3, 1) := by decide +kernel
theorem dX10_listen_52 : decode cX10_listen 52 = .ok (.invokevirtual 229, 3) := by decide +kernel
theorem dX10_listen_55 : decode cX10_listen 55 = .ok (.ireturn, 1) := by decide +kernel
theorem dX10_sure_0 : decode cX10_sure 0 = .ok (.aload_n 0, 1) := by decide +kernel
theorem dX10_sure_1 : decode cX10_sure 1 = .ok (.invokevirtual 113, 3) := by decide +kernel
theorem dX10_sure_4 : decode cX10_sure 4 = .ok (.aload_n 0, 1) := by decide +kernel
theorem dX10_sure_5 : decode cX10_sure 5 = .ok (.getfield 74, 3) := by decide +kernel
theorem dX10_sure_8 : decode cX10_sure 8 = .ok (.aload_n 0, 1) := by decide +kernel
theorem dX10_sure_9 : decode cX10_sure 9 = .ok (.getfield 42, 3) := by decide +kernel
theorem dX10_sure_12 : decode cX10_sure 12 = .ok (.invokevirtual 166, 3) := by decide +kernel
theorem dX10_sure_15 : decode cX10_sure 15 = .ok (.invokevirtual 232, 3) := by decide +kernel
theorem dX10_sure_18 : decode cX10_sure 18 = .ok (.ireturn, 1) := by decide +kernel
theorem dX10_spun_0 : decode cX10_spun 0 = .ok (.iload_n 1, 1) := by decide +kernel
theorem dX10_spun_1 : decode cX10_spun 1 = .ok (.ifCond .lt 9, 3) := by decide +kernel
theorem dX10_spun_4 : decode cX10_spun 4 = .ok (.iload_n 1, 1) := by decide +kernel
theorem dX10_spun_5 : decode cX10_spun 5 = .ok (.ldc 235, 2) := by decide +kernel
theorem dX10_spun_7 : decode cX10_spun 7 = .ok (.if_icmp .le 6, 3) := by decide +kernel
theorem dX10_spun_10 : decode cX10_spun 10 = .ok (.bipush (-2), 2) := by decide +kernel
theorem dX10_spun_12 : decode cX10_spun 12 = .ok (.ireturn, 1) := by decide +kernel
theorem dX10_spun_13 : decode cX10_spun 13 = .ok (.aload_n 0, 1) := by decide +kernel
theorem dX10_spun_14 : decode cX10_spun 14 = .ok (.invokevirtual 113, 3) := by decide +kernel
theorem dX10_spun_17 : decode cX10_spun 17 = .ok (.aload_n 0, 1) := by decide +kernel
theorem dX10_spun_18 : decode cX10_spun 18 = .ok (.getfield 42, 3) := by decide +kernel
theorem dX10_spun_21 : decode cX10_spun 21 = .ok (.invokevirtual 166, 3) := by decide +kernel
theorem dX10_spun_24 : decode cX10_spun 24 = .ok (.istore_n 2, 1) := by decide +kernel
theorem dX10_spun_25 : decode cX10_spun 25 = .ok (.iload_n 2, 1) := by decide +kernel
theorem dX10_spun_26 : decode cX10_spun 26 = .ok (.ifCond .ne 6, 3) := by decide +kernel
theorem dX10_spun_29 : decode cX10_spun 29 = .ok (.bipush (-3), 2) := by decide +kernel
theorem dX10_spun_31 : decode cX10_spun 31 = .ok (.ireturn, 1) := by decide +kernel
theorem dX10_spun_32 : decode cX10_spun 32 = .ok (.aload_n 0, 1) := by decide +kernel
theorem dX10_spun_33 : decode cX10_spun 33 = .ok (.getfield 65, 3) := by decide +kernel
theorem dX10_spun_36 : decode cX10_spun 36 = .ok (.invokevirtual 214, 3) := by decide +kernel
theorem dX10_spun_39 : decode cX10_spun 39 = .ok (.iload_n 1, 1) := by decide +kernel
theorem dX10_spun_40 : decode cX10_spun 40 = .ok (.i2l, 1) := by decide +kernel
theorem dX10_spun_41 : decode cX10_spun 41 = .ok (.aload_n 0, 1) := by decide +kernel
theorem dX10_spun_42 : decode cX10_spun 42 = .ok (.getfield 21, 3) := by decide +kernel
theorem dX10_spun_45 : decode cX10_spun 45 = .ok (.iload_n 2, 1) := by decide +kernel
theorem dX10_spun_46 : decode cX10_spun 46 = .ok (.invokevirtual 176, 3) := by decide +kernel
theorem dX10_spun_49 : decode cX10_spun 49 = .ok (.i2l, 1) := by decide +kernel
theorem dX10_spun_50 : decode cX10_spun 50 = .ok (.lmul, 1) := by decide +kernel
theorem dX10_spun_51 : decode cX10_spun 51 = .ok (.aload_n 0, 1) := by decide +kernel
theorem dX10_spun_52 : decode cX10_spun 52 = .ok (.getfield 65, 3) := by decide +kernel
theorem dX10_spun_55 : decode cX10_spun 55 = .ok (.iconst 0, 1) := by decide +kernel
theorem dX10_spun_56 : decode cX10_spun 56 = .ok (.iload_n 2, 1) := by decide +kernel
theorem dX10_spun_57 : decode cX10_spun 57 = .ok (.invokevirtual 223, 3) := by decide +kernel
theorem dX10_spun_60 : decode cX10_spun 60 = .ok (.i2l, 1) := by decide +kernel
theorem dX10_spun_61 : decode cX10_spun 61 = .ok (.lcmp, 1) := by decide +kernel
theorem dX10_spun_62 : decode cX10_spun 62 = .ok (.ifCond .lt 7, 3) := by decide +kernel
theorem dX10_spun_65 : decode cX10_spun 65 = .ok (.iconst 1, 1) := by decide +kernel
theorem dX10_spun_66 : decode cX10_spun 66 = .ok (.goto 4, 3) := by decide +kernel
theorem dX10_spun_69 : decode cX10_spun 69 = .ok (.iconst 0, 1) := by decide +kernel
theorem dX10_spun_70 : decode cX10_spun 70 = .ok (.ireturn, 1) := by decide +kernel
theorem dX10_pool_0 : decode cX10_pool 0 = .ok (.iload_n 1, 1) := by decide +kernel
theorem dX10_pool_1 : decode cX10_pool 1 = .ok (.invokestatic 236, 3) := by decide +kernel
theorem dX10_pool_4 : decode cX10_pool 4 = .ok (.ifCond .eq 19, 3) := by decide +kernel
theorem dX10_pool_7 : decode cX10_pool 7 = .ok (.iload_n 2, 1) := by decide +kernel
theorem dX10_pool_8 : decode cX10_pool 8 = .ok (.invokestatic 236, 3) := by decide +kernel
theorem dX10_pool_11 : decode cX10_pool 11 = .ok (.ifCond .eq 12, 3) := by decide +kernel
theorem dX10_pool_14 : decode cX10_pool 14 = .ok (.iload_n 3, 1) := by decide +kernel
theorem dX10_pool_15 : decode cX10_pool 15 = .ok (.ifCond .lt 8, 3) := by decide +kernel
theorem dX10_pool_18 : decode cX10_pool 18 = .ok (.iload_n 3, 1) := by decide +kernel
theorem dX10_pool_19 : decode cX10_pool 19 = .ok (.iconst 2, 1) := by decide +kernel
theorem dX10_pool_20 : decode cX10_pool 20 = .ok (.if_icmp .le 6, 3) := by decide +kernel
theorem dX10_pool_23 : decode cX10_pool 23 = .ok (.bipush (-2), 2) := by decide +kernel
theorem dX10_pool_25 : decode cX10_pool 25 = .ok (.ireturn, 1) := by decide +kernel
theorem dX10_pool_26 : decode cX10_pool 26 = .ok (.aload_n 0, 1) := by decide +kernel
theorem dX10_pool_27 : decode cX10_pool 27 = .ok (.invokevirtual 113, 3) := by decide +kernel
theorem dX10_pool_30 : decode cX10_pool 30 = .ok (.iload_n 3, 1) := by decide +kernel
theorem dX10_pool_31 : decode cX10_pool 31 = .ok (.iconst 2, 1) := by decide +kernel
theorem dX10_pool_32 : decode cX10_pool 32 = .ok (.if_icmp .ne 17, 3) := by decide +kernel
theorem dX10_pool_35 : decode cX10_pool 35 = .ok (.aload_n 0, 1) := by decide +kernel
theorem dX10_pool_36 : decode cX10_pool 36 = .ok (.getfield 42, 3) := by decide +kernel
theorem dX10_pool_39 : decode cX10_pool 39 = .ok (.iload_n 1, 1) := by decide +kernel
theorem dX10_pool_40 : decode cX10_pool 40 = .ok (.iload_n 2, 1) := by decide +kernel
theorem dX10_pool_41 : decode cX10_pool 41 = .ok (.ior, 1) := by decide +kernel
theorem dX10_pool_42 : decode cX10_pool 42 = .ok (.invokevirtual 239, 3) := by decide +kernel
theorem dX10_pool_45 : decode cX10_pool 45 = .ok (.invokestatic 242, 3) := by decide +kernel
theorem dX10_pool_48 : decode cX10_pool 48 = .ok (.ireturn, 1) := by decide +kernel
theorem dX10_pool_49 : decode cX10_pool 49 = .ok (.aload_n 0, 1) := by decide +kernel
theorem dX10_pool_50 : decode cX10_pool 50 = .ok (.getfield 42, 3) := by decide +kernel
theorem dX10_pool_53 : decode cX10_pool 53 = .ok (.iload_n 3, 1) := by decide +kernel
theorem dX10_pool_54 : decode cX10_pool 54 = .ok (.ifCond .ne 7, 3) := by decide +kernel
theorem dX10_pool_57 : decode cX10_pool 57 = .ok (.iload_n 1, 1) := by decide +kernel
theorem dX10_pool_58 : decode cX10_pool 58 = .ok (.goto 4, 3) := by decide +kernel
theorem dX10_pool_61 : decode cX10_pool 61 = .ok (.iload_n 2, 1) := by decide +kernel
theorem dX10_pool_62 : decode cX10_pool 62 = .ok (.invokevirtual 239, 3) := by decide +kernel
theorem dX10_pool_65 : decode cX10_pool 65 = .ok (.invokestatic 242, 3) := by decide +kernel
theorem dX10_pool_68 : decode cX10_pool 68 = .ok (.ireturn, 1) := by decide +kernel
theorem dX10_shortest_0 : decode cX10_shortest 0 = .ok (.iload_n 1, 1) := by decide +kernel
theorem dX10_shortest_1 : decode cX10_shortest 1 = .ok (.invokestatic 169, 3) := by decide +kernel
theorem dX10_shortest_4 : decode cX10_shortest 4 = .ok (.ifCond .ne 6, 3) := by decide +kernel
theorem dX10_shortest_7 : decode cX10_shortest 7 = .ok (.bipush (-2), 2) := by decide +kernel
theorem dX10_shortest_9 : decode cX10_shortest 9 = .ok (.ireturn, 1) := by decide +kernel
theorem dX10_shortest_10 : decode cX10_shortest 10 = .ok (.aload_n 0, 1) := by decide +kernel
theorem dX10_shortest_11 : decode cX10_shortest 11 = .ok (.invokevirtual 113, 3) := by decide +kernel
theorem dX10_shortest_14 : decode cX10_shortest 14 = .ok (.aload_n 0, 1) := by decide +kernel
theorem dX10_shortest_15 : decode cX10_shortest 15 = .ok (.getfield 42, 3) := by decide +kernel
theorem dX10_shortest_18 : decode cX10_shortest 18 = .ok (.invokevirtual 247, 3) := by decide +kernel
theorem dX10_shortest_21 : decode cX10_shortest 21 = .ok (.istore_n 2, 1) := by decide +kernel
theorem dX10_shortest_22 : decode cX10_shortest 22 = .ok (.iload_n 1, 1) := by decide +kernel
theorem dX10_shortest_23 : decode cX10_shortest 23 = .ok (.ifCond .ne 10, 3) := by decide +kernel
theorem dX10_shortest_26 : decode cX10_shortest 26 = .ok (.iload_n 2, 1) := by decide +kernel
theorem dX10_shortest_27 : decode cX10_shortest 27 = .ok (.invokestatic 242, 3) := by decide +kernel
theorem dX10_shortest_30 : decode cX10_shortest 30 = .ok (.goto 4, 3) := by decide +kernel
theorem dX10_shortest_33 : decode cX10_shortest 33 = .ok (.iload_n 2, 1) := by decide +kernel
theorem dX10_shortest_34 : decode cX10_shortest 34 = .ok (.ireturn, 1) := by decide +kernel
theorem dX10_sung_0 : decode cX10_sung 0 = .ok (.iload_n 1, 1) := by decide +kernel
theorem dX10_sung_1 : decode cX10_sung 1 = .ok (.invokestatic 211, 3) := by decide +kernel
theorem dX10_sung_4 : decode cX10_sung 4 = .ok (.ifCond .eq 13, 3) := by decide +kernel
theorem dX10_sung_7 : decode cX10_sung 7 = .ok (.iload_n 2, 1) := by decide +kernel
theorem dX10_sung_8 : decode cX10_sung 8 = .ok (.ifCond .lt 9, 3) := by decide +kernel
theorem dX10_sung_11 : decode cX10_sung 11 = .ok (.iload_n 2, 1) := by decide +kernel
theorem dX10_sung_12 : decode cX10_sung 12 = .ok (.bipush 6, 2) := by decide +kernel
theorem dX10_sung_14 : decode cX10_sung 14 = .ok (.if_icmp .lt 6, 3) := by decide +kernel
theorem dX10_sung_17 : decode cX10_sung 17 = .ok (.bipush (-2), 2) := by decide +kernel
theorem dX10_sung_19 : decode cX10_sung 19 = .ok (.ireturn, 1) := by decide +kernel
theorem dX10_sung_20 : decode cX10_sung 20 = .ok (.aload_n 0, 1) := by decide +kernel
theorem dX10_sung_21 : decode cX10_sung 21 = .ok (.invokevirtual 113, 3) := by decide +kernel
theorem dX10_sung_24 : decode cX10_sung 24 = .ok (.iload_n 1, 1) := by decide +kernel
theorem dX10_sung_25 : decode cX10_sung 25 = .ok (.aload_n 0, 1) := by decide +kernel
theorem dX10_sung_26 : decode cX10_sung 26 = .ok (.getfield 21, 3) := by decide +kernel
theorem dX10_sung_29 : decode cX10_sung 29 = .ok (.invokevirtual 217, 3) := by decide +kernel
theorem dX10_sung_32 : decode cX10_sung 32 = .ok (.iand, 1) := by decide +kernel
theorem dX10_sung_33 : decode cX10_sung 33 = .ok (.istore_n 3, 1) := by decide +kernel
theorem dX10_sung_34 : decode cX10_sung 34 = .ok (.iload_n 3, 1) := by decide +kernel
theorem dX10_sung_35 : decode cX10_sung 35 = .ok (.ifCond .ne 8, 3) := by decide +kernel
theorem dX10_sung_38 : decode cX10_sung 38 = .ok (.bipush (-2), 2) := by decide +kernel
theorem dX10_sung_40 : decode cX10_sung 40 = .ok (.goto 12, 3) := by decide +kernel
theorem dX10_sung_43 : decode cX10_sung 43 = .ok (.aload_n 0, 1) := by decide +kernel
theorem dX10_sung_44 : decode cX10_sung 44 = .ok (.getfield 21, 3) := by decide +kernel
theorem dX10_sung_47 : decode cX10_sung 47 = .ok (.iload_n 3, 1) := by decide +kernel
theorem dX10_sung_48 : decode cX10_sung 48 = .ok (.iload_n 2, 1) := by decide +kernel
theorem dX10_sung_49 : decode cX10_sung 49 = .ok (.invokevirtual 250, 3) := by decide +kernel
theorem dX10_sung_52 : decode cX10_sung 52 = .ok (.ireturn, 1) := by decide +kernel
theorem dX10_changes_0 : decode cX10_changes 0 = .ok (.aload_n 0, 1) := by decide +kernel
theorem dX10_changes_1 : decode cX10_changes 1 = .ok (.invokevirtual 113, 3) := by decide +kernel
theorem dX10_changes_4 : decode cX10_changes 4 = .ok (.aload_n 0, 1) := by decide +kernel
theorem dX10_changes_5 : decode cX10_changes 5 = .ok (.getfield 21, 3) := by decide +kernel
theorem dX10_changes_8 : decode cX10_changes 8 = .ok (.iload_n 1, 1) := by decide +kernel
theorem dX10_changes_9 : decode cX10_changes 9 = .ok (.invokevirtual 121, 3) := by decide +kernel
theorem dX10_changes_12 : decode cX10_changes 12 = .ok (.ifCond .eq 14, 3) := by decide +kernel
theorem dX10_changes_15 : decode cX10_changes 15 = .ok (.aload_n 0, 1) := by decide +kernel
theorem dX10_changes_16 : decode cX10_changes 16 = .ok (.getfield 21, 3) := by decide +kernel
theorem dX10_changes_19 : decode cX10_changes 19 = .ok (.iload_n 2, 1) := by decide +kernel
theorem dX10_changes_20 : decode cX10_changes 20 = .ok (.invokevirtual 121, 3) := by decide +kernel
theorem dX10_changes_23 : decode cX10_changes 23 = .ok (.ifCond .ne 6, 3) := by decide +kernel
theorem dX10_changes_26 : decode cX10_changes 26 = .ok (.bipush (-2), 2) := by decide +kernel
theorem dX10_changes_28 : decode cX10_changes 28 = .ok (.ireturn, 1) := by decide +kernel
theorem dX10_changes_29 : decode cX10_changes 29 = .ok (.iconst 1, 1) := by decide +kernel
theorem dX10_changes_30 : decode cX10_changes 30 = .ok (.iload_n 1, 1) := by decide +kernel
theorem dX10_changes_31 : decode cX10_changes 31 = .ok (.ishl, 1) := by decide +kernel
theorem dX10_changes_32 : decode cX10_changes 32 = .ok (.istore_n 3, 1) := by decide +kernel
theorem dX10_changes_33 : decode cX10_changes 33 = .ok (.iconst 0, 1) := by decide +kernel
theorem dX10_changes_34 : decode cX10_changes 34 = .ok (.istore 4, 2) := by decide +kernel
theorem dX10_changes_36 : decode cX10_changes 36 = .ok (.iload 4, 2) := by decide +kernel
theorem dX10_changes_38 : decode cX10_changes 38 = .ok (.bipush 10, 2) := by decide +kernel
theorem dX10_changes_40 : decode cX10_changes 40 = .ok (.if_icmp .ge 31, 3) := by decide +kernel
theorem dX10_changes_43 : decode cX10_changes 43 = .ok (.iload_n 3, 1) := by decide +kernel
theorem dX10_changes_44 : decode cX10_changes 44 = .ok (.iconst 1, 1) := by decide +kernel
theorem dX10_changes_45 : decode cX10_changes 45 = .ok (.iload_n 2, 1) := by decide +kernel
theorem dX10_changes_46 : decode cX10_changes 46 = .ok (.ishl, 1) := by decide +kernel
theorem dX10_changes_47 : decode cX10_changes 47 = .ok (.iand, 1) := by decide +kernel
theorem dX10_changes_48 : decode cX10_changes 48 = .ok (.ifCond .eq 6, 3) := by decide +kernel
theorem dX10_changes_51 : decode cX10_changes 51 = .ok (.iload 4, 2) := by decide +kernel
theorem dX10_changes_53 : decode cX10_changes 53 = .ok (.ireturn, 1) := by decide +kernel
theorem dX10_changes_54 : decode cX10_changes 54 = .ok (.iload_n 3, 1) := by decide +kernel
theorem dX10_changes_55 : decode cX10_changes 55 = .ok (.aload_n 0, 1) := by decide +kernel
theorem dX10_changes_56 : decode cX10_changes 56 = .ok (.getfield 21, 3) := by decide +kernel
theorem dX10_changes_59 : decode cX10_changes 59 = .ok (.iload_n 3, 1) := by decide +kernel
theorem dX10_changes_60 : decode cX10_changes 60 = .ok (.invokevirtual 253, 3) := by decide +kernel
theorem dX10_changes_63 : decode cX10_changes 63 = .ok (.ior, 1) := by decide +kernel
theorem dX10_changes_64 : decode cX10_changes 64 = .ok (.istore_n 3, 1) := by decide +kernel
theorem dX10_changes_65 : decode cX10_changes 65 = .ok (.iinc 4 1, 3) := by decide +kernel
theorem dX10_changes_68 : decode cX10_changes 68 = .ok (.goto (-32), 3) := by decide +kernel
theorem dX10_changes_71 : decode cX10_changes 71 = .ok (.iconst (-1), 1) := by decide +kernel
theorem dX10_changes_72 : decode cX10_changes 72 = .ok (.ireturn, 1) := by decide +kernel
theorem dX10_sheet_0 : decode cX10_sheet 0 = .ok (.iload_n 1, 1) := by decide +kernel
theorem dX10_sheet_1 : decode cX10_sheet 1 = .ok (.invokestatic 152, 3) := by decide +kernel
theorem dX10_sheet_4 : decode cX10_sheet 4 = .ok (.ifCond .eq 16, 3) := by decide +kernel
theorem dX10_sheet_7 : decode cX10_sheet 7 = .ok (.iload_n 2, 1) := by decide +kernel
theorem dX10_sheet_8 : decode cX10_sheet 8 = .ok (.invokestatic 256, 3) := by decide +kernel
theorem dX10_sheet_11 : decode cX10_sheet 11 = .ok (.ifCond .eq 9, 3) := by decide +kernel
theorem dX10_sheet_14 : decode cX10_sheet 14 = .ok (.iload_n 3, 1) := by decide +kernel
theorem dX10_sheet_15 : decode cX10_sheet 15 = .ok (.bipush 60, 2) := by decide +kernel
theorem dX10_sheet_17 : decode cX10_sheet 17 = .ok (.if_icmp .le 6, 3) := by decide +kernel
theorem dX10_sheet_20 : decode cX10_sheet 20 = .ok (.bipush (-2), 2) := by decide +kernel
theorem dX10_sheet_22 : decode cX10_sheet 22 = .ok (.ireturn, 1) := by decide +kernel
theorem dX10_sheet_23 : decode cX10_sheet 23 = .ok (.iload_n 3, 1) := by decide +kernel
theorem dX10_sheet_24 : decode cX10_sheet 24 = .ok (.ifCond .ge 9, 3) := by decide +kernel
theorem dX10_sheet_27 : decode cX10_sheet 27 = .ok (.aload_n 0, 1) := by decide +kernel
theorem dX10_sheet_28 : decode cX10_sheet 28 = .ok (.iconst 5, 1) := by decide +kernel
theorem dX10_sheet_29 : decode cX10_sheet 29 = .ok (.invokevirtual 158, 3) := by decide +kernel
theorem dX10_sheet_32 : decode cX10_sheet 32 = .ok (.ireturn, 1) := by decide +kernel
theorem dX10_sheet_33 : decode cX10_sheet 33 = .ok (.aload_n 0, 1) := by decide +kernel
theorem dX10_sheet_34 : decode cX10_sheet 34 = .ok (.getfield 81, 3) := by decide +kernel
theorem dX10_sheet_37 : decode cX10_sheet 37 = .ok (.iload_n 1, 1) := by decide +kernel
theorem dX10_sheet_38 : decode cX10_sheet 38 = .ok (.aaload, 1) := by decide +kernel
theorem dX10_sheet_39 : decode cX10_sheet 39 = .ok (.iload_n 2, 1) := by decide +kernel
theorem dX10_sheet_40 : decode cX10_sheet 40 = .ok (.iload_n 3, 1) := by decide +kernel
theorem dX10_sheet_41 : decode cX10_sheet 41 = .ok (.invokevirtual 259, 3) := by decide +kernel
theorem dX10_sheet_44 : decode cX10_sheet 44 = .ok (.iload_n 3, 1) := by decide +kernel
theorem dX10_sheet_45 : decode cX10_sheet 45 = .ok (.ireturn, 1) := by decide +kernel
theorem dX10_lose_0 : decode cX10_lose 0 = .ok (.iload_n 1, 1) := by decide +kernel
theorem dX10_lose_1 : decode cX10_lose 1 = .ok (.invokestatic 152, 3) := by decide +kernel
theorem dX10_lose_4 : decode cX10_lose 4 = .ok (.ifCond .ne 6, 3) := by decide +kernel
theorem dX10_lose_7 : decode cX10_lose 7 = .ok (.bipush (-2), 2) := by decide +kernel
theorem dX10_lose_9 : decode cX10_lose 9 = .ok (.ireturn, 1) := by decide +kernel
theorem dX10_lose_10 : decode cX10_lose 10 = .ok (.aload_n 0, 1) := by decide +kernel
theorem dX10_lose_11 : decode cX10_lose 11 = .ok (.getfield 81, 3) := by decide +kernel
theorem dX10_lose_14 : decode cX10_lose 14 = .ok (.iload_n 1, 1) := by decide +kernel
theorem dX10_lose_15 : decode cX10_lose 15 = .ok (.aaload, 1) := by decide +kernel
theorem dX10_lose_16 : decode cX10_lose 16 = .ok (.invokevirtual 155, 3) := by decide +kernel
theorem dX10_lose_19 : decode cX10_lose 19 = .ok (.ifCond .eq 9, 3) := by decide +kernel
theorem dX10_lose_22 : decode cX10_lose 22 = .ok (.aload_n 0, 1) := by decide +kernel
theorem dX10_lose_23 : decode cX10_lose 23 = .ok (.iconst 1, 1) := by decide +kernel
theorem dX10_lose_24 : decode cX10_lose 24 = .ok (.invokevirtual 158, 3) := by decide +kernel
theorem dX10_lose_27 : decode cX10_lose 27 = .ok (.ireturn, 1) := by decide +kernel
theorem dX10_lose_28 : decode cX10_lose 28 = .ok (.aload_n 0, 1) := by decide +kernel
theorem dX10_lose_29 : decode cX10_lose 29 = .ok (.getfield 81, 3) := by decide +kernel
theorem dX10_lose_32 : decode cX10_lose 32 = .ok (.iload_n 1, 1) := by decide +kernel
theorem dX10_lose_33 : decode cX10_lose 33 = .ok (.aaload, 1) := by decide +kernel
theorem dX10_lose_34 : decode cX10_lose 34 = .ok (.invokevirtual 162, 3) := by decide +kernel
theorem dX10_lose_37 : decode cX10_lose 37 = .ok (.istore_n 2, 1) := by decide +kernel
theorem dX10_lose_38 : decode cX10_lose 38 = .ok (.aload_n 0, 1) := by decide +kernel
theorem dX10_lose_39 : decode cX10_lose 39 = .ok (.getfield 81, 3) := by decide +kernel
theorem dX10_lose_42 : decode cX10_lose 42 = .ok (.iload_n 1, 1) := by decide +kernel
theorem dX10_lose_43 : decode cX10_lose 43 = .ok (.aaload, 1) := by decide +kernel
theorem dX10_lose_44 : decode cX10_lose 44 = .ok (.iconst (-1), 1) := by decide +kernel
theorem dX10_lose_45 : decode cX10_lose 45 = .ok (.invokevirtual 263, 3) := by decide +kernel
theorem dX10_lose_48 : decode cX10_lose 48 = .ok (.iload_n 2, 1) := by decide +kernel
theorem dX10_lose_49 : decode cX10_lose 49 = .ok (.ireturn, 1) := by decide +kernel
theorem dX10_lay_0 : decode cX10_lay 0 = .ok (.aload_n 0, 1) := by decide +kernel
theorem dX10_lay_1 : decode cX10_lay 1 = .ok (.iload_n 1, 1) := by decide +kernel
theorem dX10_lay_2 : decode cX10_lay 2 = .ok (.iload_n 2, 1) := by decide +kernel
theorem dX10_lay_3 : decode cX10_lay 3 = .ok (.iload_n 3, 1) := by decide +kernel
theorem dX10_lay_4 : decode cX10_lay 4 = .ok (.invokevirtual 266, 3) := by decide +kernel
theorem dX10_lay_7 : decode cX10_lay 7 = .ok (.istore 5, 2) := by decide +kernel
theorem dX10_lay_9 : decode cX10_lay 9 = .ok (.iload 5, 2) := by decide +kernel
theorem dX10_lay_11 : decode cX10_lay 11 = .ok (.iconst 1, 1) := by decide +kernel
theorem dX10_lay_12 : decode cX10_lay 12 = .ok (.if_icmp .ne 15, 3) := by decide +kernel
theorem dX10_lay_15 : decode cX10_lay 15 = .ok (.aload_n 0, 1) := by decide +kernel
theorem dX10_lay_16 : decode cX10_lay 16 = .ok (.getfield 81, 3) := by decide +kernel
theorem dX10_lay_19 : decode cX10_lay 19 = .ok (.iload_n 1, 1) := by decide +kernel
theorem dX10_lay_20 : decode cX10_lay 20 = .ok (.aaload, 1) := by decide +kernel
theorem dX10_lay_21 : decode cX10_lay 21 = .ok (.iload_n 3, 1) := by decide +kernel
theorem dX10_lay_22 : decode cX10_lay 22 = .ok (.iload 4, 2) := by decide +kernel
theorem dX10_lay_24 : decode cX10_lay 24 = .ok (.invokevirtual 269, 3) := by decide +kernel
theorem dX10_lay_27 : decode cX10_lay 27 = .ok (.iload 5, 2) := by decide +kernel
theorem dX10_lay_29 : decode cX10_lay 29 = .ok (.ireturn, 1) := by decide +kernel
theorem dX10_get_0 : decode cX10_get 0 = .ok (.aload_n 0, 1) := by decide +kernel
theorem dX10_get_1 : decode cX10_get 1 = .ok (.iload_n 1, 1) := by decide +kernel
theorem dX10_get_2 : decode cX10_get 2 = .ok (.iload_n 2, 1) := by decide +kernel
theorem dX10_get_3 : decode cX10_get 3 = .ok (.iload_n 3, 1) := by decide +kernel
theorem dX10_get_4 : decode cX10_get 4 = .ok (.invokevirtual 266, 3) := by decide +kernel
theorem dX10_get_7 : decode cX10_get 7 = .ok (.iconst 1, 1) := by decide +kernel
theorem dX10_get_8 : decode cX10_get 8 = .ok (.if_icmp .ne 16, 3) := by decide +kernel
theorem dX10_get_11 : decode cX10_get 11 = .ok (.aload_n 0, 1) := by decide +kernel
theorem dX10_get_12 : decode cX10_get 12 = .ok (.getfield 81, 3) := by decide +kernel
theorem dX10_get_15 : decode cX10_get 15 = .ok (.iload_n 1, 1) := by decide +kernel
theorem dX10_get_16 : decode cX10_get 16 = .ok (.aaload, 1) := by decide +kernel
theorem dX10_get_17 : decode cX10_get 17 = .ok (.iload_n 3, 1) := by decide +kernel
theorem dX10_get_18 : decode cX10_get 18 = .ok (.invokevirtual 163, 3) := by decide +kernel
theorem dX10_get_21 : decode cX10_get 21 = .ok (.goto 6, 3) := by decide +kernel
theorem dX10_get_24 : decode cX10_get 24 = .ok (.ldc_w 272, 3) := by decide +kernel
theorem dX10_get_27 : decode cX10_get 27 = .ok (.ireturn, 1) := by decide +kernel
theorem dX10_copy_0 : decode cX10_copy 0 = .ok (.iload_n 1, 1) := by decide +kernel
theorem dX10_copy_1 : decode cX10_copy 1 = .ok (.invokestatic 152, 3) := by decide +kernel
theorem dX10_copy_4 : decode cX10_copy 4 = .ok (.ifCond .eq 10, 3) := by decide +kernel
theorem dX10_copy_7 : decode cX10_copy 7 = .ok (.iload_n 3, 1) := by decide +kernel
theorem dX10_copy_8 : decode cX10_copy 8 = .ok (.invokestatic 152, 3) := by decide +kernel
theorem dX10_copy_11 : decode cX10_copy 11 = .ok (.ifCond .ne 6, 3) := by decide +kernel
theorem dX10_copy_14 : decode cX10_copy 14 = .ok (.bipush (-2), 2) := by decide +kernel
theorem dX10_copy_16 : decode cX10_copy 16 = .ok (.ireturn, 1) := by decide +kernel
theorem dX10_copy_17 : decode cX10_copy 17 = .ok (.aload_n 0, 1) := by decide +kernel
theorem dX10_copy_18 : decode cX10_copy 18 = .ok (.getfield 81, 3) := by decide +kernel
theorem dX10_copy_21 : decode cX10_copy 21 = .ok (.iload_n 1, 1) := by decide +kernel
theorem dX10_copy_22 : decode cX10_copy 22 = .ok (.aaload, 1) := by decide +kernel
theorem dX10_copy_23 : decode cX10_copy 23 = .ok (.astore 6, 2) := by decide +kernel
theorem dX10_copy_25 : decode cX10_copy 25 = .ok (.aload_n 0, 1) := by decide +kernel
theorem dX10_copy_26 : decode cX10_copy 26 = .ok (.getfield 81, 3) := by decide +kernel
theorem dX10_copy_29 : decode cX10_copy 29 = .ok (.iload_n 3, 1) := by decide +kernel
theorem dX10_copy_30 : decode cX10_copy 30 = .ok (.aaload, 1) := by decide +kernel
theorem dX10_copy_31 : decode cX10_copy 31 = .ok (.astore 7, 2) := by decide +kernel
theorem dX10_copy_33 : decode cX10_copy 33 = .ok (.aload 6, 2) := by decide +kernel
theorem dX10_copy_35 : decode cX10_copy 35 = .ok (.invokevirtual 155, 3) := by decide +kernel
theorem dX10_copy_38 : decode cX10_copy 38 = .ok (.ifCond .ne 11, 3) := by decide +kernel
theorem dX10_copy_41 : decode cX10_copy 41 = .ok (.aload 7, 2) := by decide +kernel
theorem dX10_copy_43 : decode cX10_copy 43 = .ok (.invokevirtual 155, 3) := by decide +kernel
theorem dX10_copy_46 : decode cX10_copy 46 = .ok (.ifCond .eq 9, 3) := by decide +kernel
theorem dX10_copy_49 : decode cX10_copy 49 = .ok (.aload_n 0, 1) := by decide +kernel
theorem dX10_copy_50 : decode cX10_copy 50 = .ok (.iconst 1, 1) := by decide +kernel
theorem dX10_copy_51 : decode cX10_copy 51 = .ok (.invokevirtual 158, 3) := by decide +kernel
theorem dX10_copy_54 : decode cX10_copy 54 = .ok (.ireturn, 1) := by decide +kernel
theorem dX10_copy_55 : decode cX10_copy 55 = .ok (.aload 6, 2) := by decide +kernel
theorem dX10_copy_57 : decode cX10_copy 57 = .ok (.invokevirtual 273, 3) := by decide +kernel
theorem dX10_copy_60 : decode cX10_copy 60 = .ok (.aload 7, 2) := by decide +kernel
theorem dX10_copy_62 : decode cX10_copy 62 = .ok (.invokevirtual 273, 3) := by decide +kernel
theorem dX10_copy_65 : decode cX10_copy 65 = .ok (.if_icmp .eq 9, 3) := by decide +kernel
theorem dX10_copy_68 : decode cX10_copy 68 = .ok (.aload_n 0, 1) := by decide +kernel
theorem dX10_copy_69 : decode cX10_copy 69 = .ok (.iconst 4, 1) := by decide +kernel
theorem dX10_copy_70 : decode cX10_copy 70 = .ok (.invokevirtual 158, 3) := by decide +kernel
theorem dX10_copy_73 : decode cX10_copy 73 = .ok (.ireturn, 1) := by decide +kernel
theorem dX10_copy_74 : decode cX10_copy 74 = .ok (.aload 6, 2) := by decide +kernel
theorem dX10_copy_76 : decode cX10_copy 76 = .ok (.iload_n 2, 1) := by decide +kernel
theorem dX10_copy_77 : decode cX10_copy 77 = .ok (.iload 5, 2) := by decide +kernel
theorem dX10_copy_79 : decode cX10_copy 79 = .ok (.invokevirtual 276, 3) := by decide +kernel
theorem dX10_copy_82 : decode cX10_copy 82 = .ok (.ifCond .eq 15, 3) := by decide +kernel
theorem dX10_copy_85 : decode cX10_copy 85 = .ok (.aload 7, 2) := by decide +kernel
theorem dX10_copy_87 : decode cX10_copy 87 = .ok (.iload 4, 2) := by decide +kernel
theorem dX10_copy_89 : decode cX10_copy 89 = .ok (.iload 5, 2) := by decide +kernel
theorem dX10_copy_91 : decode cX10_copy 91 = .ok (.invokevirtual 276, 3) := by decide +kernel
theorem dX10_copy_94 : decode cX10_copy 94 = .ok (.ifCond .ne 9, 3) := by decide +kernel
theorem dX10_copy_97 : decode cX10_copy 97 = .ok (.aload_n 0, 1) := by decide +kernel
theorem dX10_copy_98 : decode cX10_copy 98 = .ok (.iconst 2, 1) := by decide +kernel
theorem dX10_copy_99 : decode cX10_copy 99 = .ok (.invokevirtual 158, 3) := by decide +kernel
theorem dX10_copy_102 : decode cX10_copy 102 = .ok (.ireturn, 1) := by decide +kernel
theorem dX10_copy_103 : decode cX10_copy 103 = .ok (.aload 7, 2) := by decide +kernel
theorem dX10_copy_105 : decode cX10_copy 105 = .ok (.aload 6, 2) := by decide +kernel
theorem dX10_copy_107 : decode cX10_copy 107 = .ok (.iload_n 2, 1) := by decide +kernel
theorem dX10_copy_108 : decode cX10_copy 108 = .ok (.iload 4, 2) := by decide +kernel
theorem dX10_copy_110 : decode cX10_copy 110 = .ok (.iload 5, 2) := by decide +kernel
theorem dX10_copy_112 : decode cX10_copy 112 = .ok (.invokevirtual 279, 3) := by decide +kernel
theorem dX10_copy_115 : decode cX10_copy 115 = .ok (.iconst 1, 1) := by decide +kernel
theorem dX10_copy_116 : decode cX10_copy 116 = .ok (.ireturn, 1) := by decide +kernel
theorem dX10_write_0 : decode cX10_write 0 = .ok (.iload_n 1, 1) := by decide +kernel
theorem dX10_write_1 : decode cX10_write 1 = .ok (.invokestatic 152, 3) := by decide +kernel
theorem dX10_write_4 : decode cX10_write 4 = .ok (.ifCond .ne 6, 3) := by decide +kernel
theorem dX10_write_7 : decode cX10_write 7 = .ok (.bipush (-2), 2) := by decide +kernel
theorem dX10_write_9 : decode cX10_write 9 = .ok (.ireturn, 1) := by decide +kernel
theorem dX10_write_10 : decode cX10_write 10 = .ok (.aload_n 0, 1) := by decide +kernel
theorem dX10_write_11 : decode cX10_write 11 = .ok (.getfield 81, 3) := by decide +kernel
theorem dX10_write_14 : decode cX10_write 14 = .ok (.iload_n 1, 1) := by decide +kernel
theorem dX10_write_15 : decode cX10_write 15 = .ok (.aaload, 1) := by decide +kernel
theorem dX10_write_16 : decode cX10_write 16 = .ok (.invokevirtual 155, 3) := by decide +kernel
theorem dX10_write_19 : decode cX10_write 19 = .ok (.ifCond .eq 9, 3) := by decide +kernel
theorem dX10_write_22 : decode cX10_write 22 = .ok (.aload_n 0, 1) := by decide +kernel
theorem dX10_write_23 : decode cX10_write 23 = .ok (.iconst 1, 1) := by decide +kernel
theorem dX10_write_24 : decode cX10_write 24 = .ok (.invokevirtual 158, 3) := by decide +kernel
theorem dX10_write_27 : decode cX10_write 27 = .ok (.ireturn, 1) := by decide +kernel
theorem dX10_write_28 : decode cX10_write 28 = .ok (.aload_n 0, 1) := by decide +kernel
theorem dX10_write_29 : decode cX10_write 29 = .ok (.invokevirtual 113, 3) := by decide +kernel
theorem dX10_write_32 : decode cX10_write 32 = .ok (.aload_n 0, 1) := by decide +kernel
theorem dX10_write_33 : decode cX10_write 33 = .ok (.getfield 81, 3) := by decide +kernel
theorem dX10_write_36 : decode cX10_write 36 = .ok (.iload_n 1, 1) := by decide +kernel
theorem dX10_write_37 : decode cX10_write 37 = .ok (.aaload, 1) := by decide +kernel
theorem dX10_write_38 : decode cX10_write 38 = .ok (.invokevirtual 162, 3) := by decide +kernel
theorem dX10_write_41 : decode cX10_write 41 = .ok (.aload_n 0, 1) := by decide +kernel
theorem dX10_write_42 : decode cX10_write 42 = .ok (.getfield 42, 3) := by decide +kernel
theorem dX10_write_45 : decode cX10_write 45 = .ok (.invokevirtual 205, 3) := by decide +kernel
theorem dX10_write_48 : decode cX10_write 48 = .ok (.invokestatic 283, 3) := by decide +kernel
theorem dX10_write_51 : decode cX10_write 51 = .ok (.istore_n 2, 1) := by decide +kernel
theorem dX10_write_52 : decode cX10_write 52 = .ok (.iconst 0, 1) := by decide +kernel
theorem dX10_write_53 : decode cX10_write 53 = .ok (.istore_n 3, 1) := by decide +kernel
theorem dX10_write_54 : decode cX10_write 54 = .ok (.iload_n 3, 1) := by decide +kernel
theorem dX10_write_55 : decode cX10_write 55 = .ok (.iload_n 2, 1) := by decide +kernel
theorem dX10_write_56 : decode cX10_write 56 = .ok (.if_icmp .ge 27, 3) := by decide +kernel
theorem dX10_write_59 : decode cX10_write 59 = .ok (.aload_n 0, 1) := by decide +kernel
theorem dX10_write_60 : decode cX10_write 60 = .ok (.getfield 81, 3) := by decide +kernel
theorem dX10_write_63 : decode cX10_write 63 = .ok (.iload_n 1, 1) := by decide +kernel
theorem dX10_write_64 : decode cX10_write 64 = .ok (.aaload, 1) := by decide +kernel
theorem dX10_write_65 : decode cX10_write 65 = .ok (.iload_n 3, 1) := by decide +kernel
theorem dX10_write_66 : decode cX10_write 66 = .ok (.aload_n 0, 1) := by decide +kernel
theorem dX10_write_67 : decode cX10_write 67 = .ok (.getfield 42, 3) := by decide +kernel
theorem dX10_write_70 : decode cX10_write 70 = .ok (.iload_n 3, 1) := by decide +kernel
theorem dX10_write_71 : decode cX10_write 71 = .ok (.invokevirtual 202, 3) := by decide +kernel
theorem dX10_write_74 : decode cX10_write 74 = .ok (.invokevirtual 269, 3) := by decide +kernel
theorem dX10_write_77 : decode cX10_write 77 = .ok (.iinc 3 1, 3) := by decide +kernel
theorem dX10_write_80 : decode cX10_write 80 = .ok (.goto (-26), 3) := by decide +kernel
theorem dX10_write_83 : decode cX10_write 83 = .ok (.iload_n 2, 1) := by decide +kernel
theorem dX10_write_84 : decode cX10_write 84 = .ok (.ireturn, 1) := by decide +kernel
theorem dX10_count_0 : decode cX10_count 0 = .ok (.iload_n 1, 1) := by decide +kernel
theorem dX10_count_1 : decode cX10_count 1 = .ok (.ifCond .lt 9, 3) := by decide +kernel
theorem dX10_count_4 : decode cX10_count 4 = .ok (.iload_n 1, 1) := by decide +kernel
theorem dX10_count_5 : decode cX10_count 5 = .ok (.bipush 8, 2) := by decide +kernel
theorem dX10_count_7 : decode cX10_count 7 = .ok (.if_icmp .le 6, 3) := by decide +kernel
theorem dX10_count_10 : decode cX10_count 10 = .ok (.bipush (-2), 2) := by decide +kernel
theorem dX10_count_12 : decode cX10_count 12 = .ok (.ireturn, 1) := by decide +kernel
theorem dX10_count_13 : decode cX10_count 13 = .ok (.iload_n 1, 1) := by decide +kernel
theorem dX10_count_14 : decode cX10_count 14 = .ok (.iconst 3, 1) := by decide +kernel
theorem dX10_count_15 : decode cX10_count 15 = .ok (.if_icmp .lt 21, 3) := by decide +kernel
theorem dX10_count_18 : decode cX10_count 18 = .ok (.iload_n 1, 1) := by decide +kernel
theorem dX10_count_19 : decode cX10_count 19 = .ok (.bipush 6, 2) := by decide +kernel
theorem dX10_count_21 : decode cX10_count 21 = .ok (.if_icmp .ge 15, 3) := by decide +kernel
theorem dX10_count_24 : decode cX10_count 24 = .ok (.aload_n 0, 1) := by decide +kernel
theorem dX10_count_25 : decode cX10_count 25 = .ok (.getfield 14, 3) := by decide +kernel
theorem dX10_count_28 : decode cX10_count 28 = .ok (.iload_n 1, 1) := by decide +kernel
theorem dX10_count_29 : decode cX10_count 29 = .ok (.iconst 3, 1) := by decide +kernel
theorem dX10_count_30 : decode cX10_count 30 = .ok (.isub, 1) := by decide +kernel
theorem dX10_count_31 : decode cX10_count 31 = .ok (.aaload, 1) := by decide +kernel
theorem dX10_count_32 : decode cX10_count 32 = .ok (.invokevirtual 103, 3) := by decide +kernel
theorem dX10_count_35 : decode cX10_count 35 = .ok (.ireturn, 1) := by decide +kernel
theorem dX10_count_36 : decode cX10_count 36 = .ok (.aload_n 0, 1) := by decide +kernel
theorem dX10_count_37 : decode cX10_count 37 = .ok (.invokevirtual 113, 3) := by decide +kernel
theorem dX10_count_40 : decode cX10_count 40 = .ok (.iload_n 1, 1) := by decide +kernel
theorem dX10_count_41 : decode cX10_count 41 = .ok (.tableswitch 90 0 7 #[47, 55, 63, 90, 90, 90, 71, 79], 47) := by decide +kernel
theorem dX10_count_88 : decode cX10_count 88 = .ok (.aload_n 0, 1) := by decide +kernel
theorem dX10_count_89 : decode cX10_count 89 = .ok (.getfield 21, 3) := by decide +kernel
theorem dX10_count_92 : decode cX10_count 92 = .ok (.invokevirtual 288, 3) := by decide +kernel
theorem dX10_count_95 : decode cX10_count 95 = .ok (.ireturn, 1) := by decide +kernel
theorem dX10_count_96 : decode cX10_count 96 = .ok (.aload_n 0, 1) := by decide +kernel
theorem dX10_count_97 : decode cX10_count 97 = .ok (.getfield 28, 3) := by decide +kernel
theorem dX10_count_100 : decode cX10_count 100 = .ok (.invokevirtual 289, 3) := by decide +kernel
theorem dX10_count_103 : decode cX10_count 103 = .ok (.ireturn, 1) := by decide +kernel
theorem dX10_count_104 : decode cX10_count 104 = .ok (.aload_n 0, 1) := by decide +kernel
theorem dX10_count_105 : decode cX10_count 105 = .ok (.getfield 35, 3) := by decide +kernel
theorem dX10_count_108 : decode cX10_count 108 = .ok (.invokevirtual 290, 3) := by decide +kernel
theorem dX10_count_111 : decode cX10_count 111 = .ok (.ireturn, 1) := by decide +kernel
theorem dX10_count_112 : decode cX10_count 112 = .ok (.aload_n 0, 1) := by decide +kernel
theorem dX10_count_113 : decode cX10_count 113 = .ok (.getfield 56, 3) := by decide +kernel
theorem dX10_count_116 : decode cX10_count 116 = .ok (.invokevirtual 150, 3) := by decide +kernel
theorem dX10_count_119 : decode cX10_count 119 = .ok (.ireturn, 1) := by decide +kernel
theorem dX10_count_120 : decode cX10_count 120 = .ok (.aload_n 0, 1) := by decide +kernel
theorem dX10_count_121 : decode cX10_count 121 = .ok (.getfield 42, 3) := by decide +kernel
theorem dX10_count_124 : decode cX10_count 124 = .ok (.invokevirtual 166, 3) := by decide +kernel
theorem dX10_count_127 : decode cX10_count 127 = .ok (.invokestatic 242, 3) := by decide +kernel
theorem dX10_count_130 : decode cX10_count 130 = .ok (.ireturn, 1) := by decide +kernel
theorem dX10_count_131 : decode cX10_count 131 = .ok (.aload_n 0, 1) := by decide +kernel
theorem dX10_count_132 : decode cX10_count 132 = .ok (.getfield 291, 3) := by decide +kernel
theorem dX10_count_135 : decode cX10_count 135 = .ok (.ireturn, 1) := by decide +kernel
theorem dX10_digest_0 : decode cX10_digest 0 = .ok (.ldc2_w 295, 3) := by decide +kernel
theorem dX10_digest_3 : decode cX10_digest 3 = .ok (.lstore_n 1, 1) := by decide +kernel
theorem dX10_digest_4 : decode cX10_digest 4 = .ok (.iconst 0, 1) := by decide +kernel
theorem dX10_digest_5 : decode cX10_digest 5 = .ok (.istore_n 3, 1) := by decide +kernel
theorem dX10_digest_6 : decode cX10_digest 6 = .ok (.iload_n 3, 1) := by decide +kernel
theorem dX10_digest_7 : decode cX10_digest 7 = .ok (.bipush 7, 2) := by decide +kernel
theorem dX10_digest_9 : decode cX10_digest 9 = .ok (.if_icmp .gt 20, 3) := by decide +kernel
theorem dX10_digest_12 : decode cX10_digest 12 = .ok (.lload_n 1, 1) := by decide +kernel
theorem dX10_digest_13 : decode cX10_digest 13 = .ok (.aload_n 0, 1) := by decide +kernel
theorem dX10_digest_14 : decode cX10_digest 14 = .ok (.iload_n 3, 1) := by decide +kernel
theorem dX10_digest_15 : decode cX10_digest 15 = .ok (.invokevirtual 297, 3) := by decide +kernel
theorem dX10_digest_18 : decode cX10_digest 18 = .ok (.i2l, 1) := by decide +kernel
theorem dX10_digest_19 : decode cX10_digest 19 = .ok (.invokestatic 300, 3) := by decide +kernel
theorem dX10_digest_22 : decode cX10_digest 22 = .ok (.lstore_n 1, 1) := by decide +kernel
theorem dX10_digest_23 : decode cX10_digest 23 = .ok (.iinc 3 1, 3) := by decide +kernel
theorem dX10_digest_26 : decode cX10_digest 26 = .ok (.goto (-20), 3) := by decide +kernel
theorem dX10_digest_29 : decode cX10_digest 29 = .ok (.iconst 0, 1) := by decide +kernel
theorem dX10_digest_30 : decode cX10_digest 30 = .ok (.istore_n 3, 1) := by decide +kernel
theorem dX10_digest_31 : decode cX10_digest 31 = .ok (.iload_n 3, 1) := by decide +kernel
theorem dX10_digest_32 : decode cX10_digest 32 = .ok (.iconst 3, 1) := by decide +kernel
theorem dX10_digest_33 : decode cX10_digest 33 = .ok (.if_icmp .ge 20, 3) := by decide +kernel
theorem dX10_digest_36 : decode cX10_digest 36 = .ok (.lload_n 1, 1) := by decide +kernel
theorem dX10_digest_37 : decode cX10_digest 37 = .ok (.aload_n 0, 1) := by decide +kernel
theorem dX10_digest_38 : decode cX10_digest 38 = .ok (.iload_n 3, 1) := by decide +kernel
theorem dX10_digest_39 : decode cX10_digest 39 = .ok (.invokevirtual 304, 3) := by decide +kernel
theorem dX10_digest_42 : decode cX10_digest 42 = .ok (.i2l, 1) := by decide +kernel
theorem dX10_digest_43 : decode cX10_digest 43 = .ok (.invokestatic 300, 3) := by decide +kernel
theorem dX10_digest_46 : decode cX10_digest 46 = .ok (.lstore_n 1, 1) := by decide +kernel
theorem dX10_digest_47 : decode cX10_digest 47 = .ok (.iinc 3 1, 3) := by decide +kernel
theorem dX10_digest_50 : decode cX10_digest 50 = .ok (.goto (-19), 3) := by decide +kernel
theorem dX10_digest_53 : decode cX10_digest 53 = .ok (.lload_n 1, 1) := by decide +kernel
theorem dX10_digest_54 : decode cX10_digest 54 = .ok (.aload_n 0, 1) := by decide +kernel
theorem dX10_digest_55 : decode cX10_digest 55 = .ok (.invokevirtual 307, 3) := by decide +kernel
theorem dX10_digest_58 : decode cX10_digest 58 = .ok (.i2l, 1) := by decide +kernel
theorem dX10_digest_59 : decode cX10_digest 59 = .ok (.invokestatic 300, 3) := by decide +kernel
theorem dX10_digest_62 : decode cX10_digest 62 = .ok (.lstore_n 1, 1) := by decide +kernel
theorem dX10_digest_63 : decode cX10_digest 63 = .ok (.iconst 0, 1) := by decide +kernel
theorem dX10_digest_64 : decode cX10_digest 64 = .ok (.istore_n 3, 1) := by decide +kernel
theorem dX10_digest_65 : decode cX10_digest 65 = .ok (.iload_n 3, 1) := by decide +kernel
theorem dX10_digest_66 : decode cX10_digest 66 = .ok (.aload_n 0, 1) := by decide +kernel
theorem dX10_digest_67 : decode cX10_digest 67 = .ok (.getfield 21, 3) := by decide +kernel
theorem dX10_digest_70 : decode cX10_digest 70 = .ok (.invokevirtual 288, 3) := by decide +kernel
theorem dX10_digest_73 : decode cX10_digest 73 = .ok (.if_icmp .ge 16, 3) := by decide +kernel
theorem dX10_digest_76 : decode cX10_digest 76 = .ok (.aload_n 0, 1) := by decide +kernel
theorem dX10_digest_77 : decode cX10_digest 77 = .ok (.lload_n 1, 1) := by decide +kernel
theorem dX10_digest_78 : decode cX10_digest 78 = .ok (.iload_n 3, 1) := by decide +kernel
theorem dX10_digest_79 : decode cX10_digest 79 = .ok (.invokevirtual 310, 3) := by decide +kernel
theorem dX10_digest_82 : decode cX10_digest 82 = .ok (.lstore_n 1, 1) := by decide +kernel
