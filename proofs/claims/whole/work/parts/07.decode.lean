theorem dX11_set_21 : decode cX11_set 21 = .ok (.if_icmp .ne 7, 3) := by decide +kernel
theorem dX11_set_24 : decode cX11_set 24 = .ok (.lconst 0, 1) := by decide +kernel
theorem dX11_set_25 : decode cX11_set 25 = .ok (.goto 4, 3) := by decide +kernel
theorem dX11_set_28 : decode cX11_set 28 = .ok (.lconst 1, 1) := by decide +kernel
theorem dX11_set_29 : decode cX11_set 29 = .ok (.iload_n 1, 1) := by decide +kernel
theorem dX11_set_30 : decode cX11_set 30 = .ok (.invokestatic 157, 3) := by decide +kernel
theorem dX11_set_33 : decode cX11_set 33 = .ok (.i2l, 1) := by decide +kernel
theorem dX11_set_34 : decode cX11_set 34 = .ok (.invokestatic 68, 3) := by decide +kernel
theorem dX11_set_37 : decode cX11_set 37 = .ok (.ifCond .ne 6, 3) := by decide +kernel
theorem dX11_set_40 : decode cX11_set 40 = .ok (.bipush (-2), 2) := by decide +kernel
theorem dX11_set_42 : decode cX11_set 42 = .ok (.ireturn, 1) := by decide +kernel
theorem dX11_set_43 : decode cX11_set 43 = .ok (.aload_n 0, 1) := by decide +kernel
theorem dX11_set_44 : decode cX11_set 44 = .ok (.getfield 50, 3) := by decide +kernel
theorem dX11_set_47 : decode cX11_set 47 = .ok (.iload_n 1, 1) := by decide +kernel
theorem dX11_set_48 : decode cX11_set 48 = .ok (.iaload, 1) := by decide +kernel
theorem dX11_set_49 : decode cX11_set 49 = .ok (.istore_n 3, 1) := by decide +kernel
theorem dX11_set_50 : decode cX11_set 50 = .ok (.aload_n 0, 1) := by decide +kernel
theorem dX11_set_51 : decode cX11_set 51 = .ok (.getfield 50, 3) := by decide +kernel
theorem dX11_set_54 : decode cX11_set 54 = .ok (.iload_n 1, 1) := by decide +kernel
theorem dX11_set_55 : decode cX11_set 55 = .ok (.iload_n 2, 1) := by decide +kernel
theorem dX11_set_56 : decode cX11_set 56 = .ok (.iastore, 1) := by decide +kernel
theorem dX11_set_57 : decode cX11_set 57 = .ok (.iload_n 3, 1) := by decide +kernel
theorem dX11_set_58 : decode cX11_set 58 = .ok (.ireturn, 1) := by decide +kernel
theorem dX11_guess_0 : decode cX11_guess 0 = .ok (.iload_n 1, 1) := by decide +kernel
theorem dX11_guess_1 : decode cX11_guess 1 = .ok (.i2l, 1) := by decide +kernel
theorem dX11_guess_2 : decode cX11_guess 2 = .ok (.lconst 0, 1) := by decide +kernel
theorem dX11_guess_3 : decode cX11_guess 3 = .ok (.ldc2_w 116, 3) := by decide +kernel
theorem dX11_guess_6 : decode cX11_guess 6 = .ok (.invokestatic 68, 3) := by decide +kernel
theorem dX11_guess_9 : decode cX11_guess 9 = .ok (.ifCond .ne 6, 3) := by decide +kernel
theorem dX11_guess_12 : decode cX11_guess 12 = .ok (.bipush (-2), 2) := by decide +kernel
theorem dX11_guess_14 : decode cX11_guess 14 = .ok (.ireturn, 1) := by decide +kernel
theorem dX11_guess_15 : decode cX11_guess 15 = .ok (.aload_n 0, 1) := by decide +kernel
theorem dX11_guess_16 : decode cX11_guess 16 = .ok (.getfield 160, 3) := by decide +kernel
theorem dX11_guess_19 : decode cX11_guess 19 = .ok (.bipush 12, 2) := by decide +kernel
theorem dX11_guess_21 : decode cX11_guess 21 = .ok (.if_icmp .ne 6, 3) := by decide +kernel
theorem dX11_guess_24 : decode cX11_guess 24 = .ok (.bipush (-4), 2) := by decide +kernel
theorem dX11_guess_26 : decode cX11_guess 26 = .ok (.ireturn, 1) := by decide +kernel
theorem dX11_guess_27 : decode cX11_guess 27 = .ok (.aload_n 0, 1) := by decide +kernel
theorem dX11_guess_28 : decode cX11_guess 28 = .ok (.getfield 53, 3) := by decide +kernel
theorem dX11_guess_31 : decode cX11_guess 31 = .ok (.aload_n 0, 1) := by decide +kernel
theorem dX11_guess_32 : decode cX11_guess 32 = .ok (.getfield 160, 3) := by decide +kernel
theorem dX11_guess_35 : decode cX11_guess 35 = .ok (.iload_n 1, 1) := by decide +kernel
theorem dX11_guess_36 : decode cX11_guess 36 = .ok (.iastore, 1) := by decide +kernel
theorem dX11_guess_37 : decode cX11_guess 37 = .ok (.aload_n 0, 1) := by decide +kernel
theorem dX11_guess_38 : decode cX11_guess 38 = .ok (.dup, 1) := by decide +kernel
theorem dX11_guess_39 : decode cX11_guess 39 = .ok (.getfield 160, 3) := by decide +kernel
theorem dX11_guess_42 : decode cX11_guess 42 = .ok (.iconst 1, 1) := by decide +kernel
theorem dX11_guess_43 : decode cX11_guess 43 = .ok (.iadd, 1) := by decide +kernel
theorem dX11_guess_44 : decode cX11_guess 44 = .ok (.putfield 160, 3) := by decide +kernel
theorem dX11_guess_47 : decode cX11_guess 47 = .ok (.aload_n 0, 1) := by decide +kernel
theorem dX11_guess_48 : decode cX11_guess 48 = .ok (.getfield 160, 3) := by decide +kernel
theorem dX11_guess_51 : decode cX11_guess 51 = .ok (.ireturn, 1) := by decide +kernel
theorem dX11_unguess_0 : decode cX11_unguess 0 = .ok (.aload_n 0, 1) := by decide +kernel
theorem dX11_unguess_1 : decode cX11_unguess 1 = .ok (.getfield 160, 3) := by decide +kernel
theorem dX11_unguess_4 : decode cX11_unguess 4 = .ok (.ifCond .ne 6, 3) := by decide +kernel
theorem dX11_unguess_7 : decode cX11_unguess 7 = .ok (.bipush (-3), 2) := by decide +kernel
theorem dX11_unguess_9 : decode cX11_unguess 9 = .ok (.ireturn, 1) := by decide +kernel
theorem dX11_unguess_10 : decode cX11_unguess 10 = .ok (.aload_n 0, 1) := by decide +kernel
theorem dX11_unguess_11 : decode cX11_unguess 11 = .ok (.dup, 1) := by decide +kernel
theorem dX11_unguess_12 : decode cX11_unguess 12 = .ok (.getfield 160, 3) := by decide +kernel
theorem dX11_unguess_15 : decode cX11_unguess 15 = .ok (.iconst 1, 1) := by decide +kernel
theorem dX11_unguess_16 : decode cX11_unguess 16 = .ok (.isub, 1) := by decide +kernel
theorem dX11_unguess_17 : decode cX11_unguess 17 = .ok (.putfield 160, 3) := by decide +kernel
theorem dX11_unguess_20 : decode cX11_unguess 20 = .ok (.aload_n 0, 1) := by decide +kernel
theorem dX11_unguess_21 : decode cX11_unguess 21 = .ok (.getfield 160, 3) := by decide +kernel
theorem dX11_unguess_24 : decode cX11_unguess 24 = .ok (.ireturn, 1) := by decide +kernel
theorem dX11_read_0 : decode cX11_read 0 = .ok (.iload_n 1, 1) := by decide +kernel
theorem dX11_read_1 : decode cX11_read 1 = .ok (.invokestatic 78, 3) := by decide +kernel
theorem dX11_read_4 : decode cX11_read 4 = .ok (.ifCond .ne 6, 3) := by decide +kernel
theorem dX11_read_7 : decode cX11_read 7 = .ok (.bipush (-2), 2) := by decide +kernel
theorem dX11_read_9 : decode cX11_read 9 = .ok (.ireturn, 1) := by decide +kernel
theorem dX11_read_10 : decode cX11_read 10 = .ok (.aload_n 0, 1) := by decide +kernel
theorem dX11_read_11 : decode cX11_read 11 = .ok (.getfield 7, 3) := by decide +kernel
theorem dX11_read_14 : decode cX11_read 14 = .ok (.iload_n 1, 1) := by decide +kernel
theorem dX11_read_15 : decode cX11_read 15 = .ok (.iaload, 1) := by decide +kernel
theorem dX11_read_16 : decode cX11_read 16 = .ok (.ifCond .ge 9, 3) := by decide +kernel
theorem dX11_read_19 : decode cX11_read 19 = .ok (.aload_n 0, 1) := by decide +kernel
theorem dX11_read_20 : decode cX11_read 20 = .ok (.iconst 1, 1) := by decide +kernel
theorem dX11_read_21 : decode cX11_read 21 = .ok (.invokevirtual 84, 3) := by decide +kernel
theorem dX11_read_24 : decode cX11_read 24 = .ok (.ireturn, 1) := by decide +kernel
theorem dX11_read_25 : decode cX11_read 25 = .ok (.aload_n 0, 1) := by decide +kernel
theorem dX11_read_26 : decode cX11_read 26 = .ok (.iconst 0, 1) := by decide +kernel
theorem dX11_read_27 : decode cX11_read 27 = .ok (.putfield 160, 3) := by decide +kernel
theorem dX11_read_30 : decode cX11_read 30 = .ok (.aload_n 0, 1) := by decide +kernel
theorem dX11_read_31 : decode cX11_read 31 = .ok (.getfield 160, 3) := by decide +kernel
theorem dX11_read_34 : decode cX11_read 34 = .ok (.aload_n 0, 1) := by decide +kernel
theorem dX11_read_35 : decode cX11_read 35 = .ok (.getfield 13, 3) := by decide +kernel
theorem dX11_read_38 : decode cX11_read 38 = .ok (.iload_n 1, 1) := by decide +kernel
theorem dX11_read_39 : decode cX11_read 39 = .ok (.iaload, 1) := by decide +kernel
theorem dX11_read_40 : decode cX11_read 40 = .ok (.if_icmp .ge 73, 3) := by decide +kernel
theorem dX11_read_43 : decode cX11_read 43 = .ok (.aload_n 0, 1) := by decide +kernel
theorem dX11_read_44 : decode cX11_read 44 = .ok (.getfield 160, 3) := by decide +kernel
theorem dX11_read_47 : decode cX11_read 47 = .ok (.bipush 12, 2) := by decide +kernel
theorem dX11_read_49 : decode cX11_read 49 = .ok (.if_icmp .ge 64, 3) := by decide +kernel
theorem dX11_read_52 : decode cX11_read 52 = .ok (.aload_n 0, 1) := by decide +kernel
theorem dX11_read_53 : decode cX11_read 53 = .ok (.getfield 16, 3) := by decide +kernel
theorem dX11_read_56 : decode cX11_read 56 = .ok (.bipush 60, 2) := by decide +kernel
theorem dX11_read_58 : decode cX11_read 58 = .ok (.iload_n 1, 1) := by decide +kernel
theorem dX11_read_59 : decode cX11_read 59 = .ok (.imul, 1) := by decide +kernel
theorem dX11_read_60 : decode cX11_read 60 = .ok (.aload_n 0, 1) := by decide +kernel
theorem dX11_read_61 : decode cX11_read 61 = .ok (.getfield 160, 3) := by decide +kernel
theorem dX11_read_64 : decode cX11_read 64 = .ok (.iadd, 1) := by decide +kernel
theorem dX11_read_65 : decode cX11_read 65 = .ok (.iaload, 1) := by decide +kernel
theorem dX11_read_66 : decode cX11_read 66 = .ok (.i2l, 1) := by decide +kernel
theorem dX11_read_67 : decode cX11_read 67 = .ok (.lconst 0, 1) := by decide +kernel
theorem dX11_read_68 : decode cX11_read 68 = .ok (.ldc2_w 116, 3) := by decide +kernel
theorem dX11_read_71 : decode cX11_read 71 = .ok (.invokestatic 68, 3) := by decide +kernel
theorem dX11_read_74 : decode cX11_read 74 = .ok (.ifCond .eq 39, 3) := by decide +kernel
theorem dX11_read_77 : decode cX11_read 77 = .ok (.aload_n 0, 1) := by decide +kernel
theorem dX11_read_78 : decode cX11_read 78 = .ok (.getfield 53, 3) := by decide +kernel
theorem dX11_read_81 : decode cX11_read 81 = .ok (.aload_n 0, 1) := by decide +kernel
theorem dX11_read_82 : decode cX11_read 82 = .ok (.getfield 160, 3) := by decide +kernel
theorem dX11_read_85 : decode cX11_read 85 = .ok (.aload_n 0, 1) := by decide +kernel
theorem dX11_read_86 : decode cX11_read 86 = .ok (.getfield 16, 3) := by decide +kernel
theorem dX11_read_89 : decode cX11_read 89 = .ok (.bipush 60, 2) := by decide +kernel
theorem dX11_read_91 : decode cX11_read 91 = .ok (.iload_n 1, 1) := by decide +kernel
theorem dX11_read_92 : decode cX11_read 92 = .ok (.imul, 1) := by decide +kernel
theorem dX11_read_93 : decode cX11_read 93 = .ok (.aload_n 0, 1) := by decide +kernel
theorem dX11_read_94 : decode cX11_read 94 = .ok (.getfield 160, 3) := by decide +kernel
theorem dX11_read_97 : decode cX11_read 97 = .ok (.iadd, 1) := by decide +kernel
theorem dX11_read_98 : decode cX11_read 98 = .ok (.iaload, 1) := by decide +kernel
theorem dX11_read_99 : decode cX11_read 99 = .ok (.iastore, 1) := by decide +kernel
theorem dX11_read_100 : decode cX11_read 100 = .ok (.aload_n 0, 1) := by decide +kernel
theorem dX11_read_101 : decode cX11_read 101 = .ok (.dup, 1) := by decide +kernel
theorem dX11_read_102 : decode cX11_read 102 = .ok (.getfield 160, 3) := by decide +kernel
theorem dX11_read_105 : decode cX11_read 105 = .ok (.iconst 1, 1) := by decide +kernel
theorem dX11_read_106 : decode cX11_read 106 = .ok (.iadd, 1) := by decide +kernel
theorem dX11_read_107 : decode cX11_read 107 = .ok (.putfield 160, 3) := by decide +kernel
theorem dX11_read_110 : decode cX11_read 110 = .ok (.goto (-80), 3) := by decide +kernel
theorem dX11_read_113 : decode cX11_read 113 = .ok (.aload_n 0, 1) := by decide +kernel
theorem dX11_read_114 : decode cX11_read 114 = .ok (.getfield 160, 3) := by decide +kernel
theorem dX11_read_117 : decode cX11_read 117 = .ok (.ireturn, 1) := by decide +kernel
theorem dX11_isHeard_0 : decode cX11_isHeard 0 = .ok (.iconst 0, 1) := by decide +kernel
theorem dX11_isHeard_1 : decode cX11_isHeard 1 = .ok (.istore_n 3, 1) := by decide +kernel
theorem dX11_isHeard_2 : decode cX11_isHeard 2 = .ok (.iconst 0, 1) := by decide +kernel
theorem dX11_isHeard_3 : decode cX11_isHeard 3 = .ok (.istore 4, 2) := by decide +kernel
theorem dX11_isHeard_5 : decode cX11_isHeard 5 = .ok (.iload 4, 2) := by decide +kernel
theorem dX11_isHeard_7 : decode cX11_isHeard 7 = .ok (.aload_n 0, 1) := by decide +kernel
theorem dX11_isHeard_8 : decode cX11_isHeard 8 = .ok (.getfield 41, 3) := by decide +kernel
theorem dX11_isHeard_11 : decode cX11_isHeard 11 = .ok (.iload_n 2, 1) := by decide +kernel
theorem dX11_isHeard_12 : decode cX11_isHeard 12 = .ok (.iaload, 1) := by decide +kernel
theorem dX11_isHeard_13 : decode cX11_isHeard 13 = .ok (.iadd, 1) := by decide +kernel
theorem dX11_isHeard_14 : decode cX11_isHeard 14 = .ok (.aload_n 0, 1) := by decide +kernel
theorem dX11_isHeard_15 : decode cX11_isHeard 15 = .ok (.getfield 31, 3) := by decide +kernel
theorem dX11_isHeard_18 : decode cX11_isHeard 18 = .ok (.iload_n 1, 1) := by decide +kernel
theorem dX11_isHeard_19 : decode cX11_isHeard 19 = .ok (.iaload, 1) := by decide +kernel
theorem dX11_isHeard_20 : decode cX11_isHeard 20 = .ok (.if_icmp .gt 88, 3) := by decide +kernel
theorem dX11_isHeard_23 : decode cX11_isHeard 23 = .ok (.iconst 1, 1) := by decide +kernel
theorem dX11_isHeard_24 : decode cX11_isHeard 24 = .ok (.istore 5, 2) := by decide +kernel
theorem dX11_isHeard_26 : decode cX11_isHeard 26 = .ok (.iconst 0, 1) := by decide +kernel
theorem dX11_isHeard_27 : decode cX11_isHeard 27 = .ok (.istore 6, 2) := by decide +kernel
theorem dX11_isHeard_29 : decode cX11_isHeard 29 = .ok (.iload 6, 2) := by decide +kernel
theorem dX11_isHeard_31 : decode cX11_isHeard 31 = .ok (.aload_n 0, 1) := by decide +kernel
theorem dX11_isHeard_32 : decode cX11_isHeard 32 = .ok (.getfield 41, 3) := by decide +kernel
theorem dX11_isHeard_35 : decode cX11_isHeard 35 = .ok (.iload_n 2, 1) := by decide +kernel
theorem dX11_isHeard_36 : decode cX11_isHeard 36 = .ok (.iaload, 1) := by decide +kernel
theorem dX11_isHeard_37 : decode cX11_isHeard 37 = .ok (.if_icmp .ge 50, 3) := by decide +kernel
theorem dX11_isHeard_40 : decode cX11_isHeard 40 = .ok (.iload 5, 2) := by decide +kernel
theorem dX11_isHeard_42 : decode cX11_isHeard 42 = .ok (.ifCond .eq 36, 3) := by decide +kernel
theorem dX11_isHeard_45 : decode cX11_isHeard 45 = .ok (.aload_n 0, 1) := by decide +kernel
theorem dX11_isHeard_46 : decode cX11_isHeard 46 = .ok (.getfield 34, 3) := by decide +kernel
theorem dX11_isHeard_49 : decode cX11_isHeard 49 = .ok (.bipush 6, 2) := by decide +kernel
theorem dX11_isHeard_51 : decode cX11_isHeard 51 = .ok (.iload_n 1, 1) := by decide +kernel
theorem dX11_isHeard_52 : decode cX11_isHeard 52 = .ok (.imul, 1) := by decide +kernel
theorem dX11_isHeard_53 : decode cX11_isHeard 53 = .ok (.iload 4, 2) := by decide +kernel
theorem dX11_isHeard_55 : decode cX11_isHeard 55 = .ok (.iadd, 1) := by decide +kernel
theorem dX11_isHeard_56 : decode cX11_isHeard 56 = .ok (.iload 6, 2) := by decide +kernel
theorem dX11_isHeard_58 : decode cX11_isHeard 58 = .ok (.iadd, 1) := by decide +kernel
theorem dX11_isHeard_59 : decode cX11_isHeard 59 = .ok (.iaload, 1) := by decide +kernel
theorem dX11_isHeard_60 : decode cX11_isHeard 60 = .ok (.aload_n 0, 1) := by decide +kernel
theorem dX11_isHeard_61 : decode cX11_isHeard 61 = .ok (.getfield 44, 3) := by decide +kernel
theorem dX11_isHeard_64 : decode cX11_isHeard 64 = .ok (.iconst 3, 1) := by decide +kernel
theorem dX11_isHeard_65 : decode cX11_isHeard 65 = .ok (.iload_n 2, 1) := by decide +kernel
theorem dX11_isHeard_66 : decode cX11_isHeard 66 = .ok (.imul, 1) := by decide +kernel
theorem dX11_isHeard_67 : decode cX11_isHeard 67 = .ok (.iload 6, 2) := by decide +kernel
theorem dX11_isHeard_69 : decode cX11_isHeard 69 = .ok (.iadd, 1) := by decide +kernel
theorem dX11_isHeard_70 : decode cX11_isHeard 70 = .ok (.iaload, 1) := by decide +kernel
theorem dX11_isHeard_71 : decode cX11_isHeard 71 = .ok (.if_icmp .ne 7, 3) := by decide +kernel
theorem dX11_isHeard_74 : decode cX11_isHeard 74 = .ok (.iconst 1, 1) := by decide +kernel
theorem dX11_isHeard_75 : decode cX11_isHeard 75 = .ok (.goto 4, 3) := by decide +kernel
theorem dX11_isHeard_78 : decode cX11_isHeard 78 = .ok (.iconst 0, 1) := by decide +kernel
theorem dX11_isHeard_79 : decode cX11_isHeard 79 = .ok (.istore 5, 2) := by decide +kernel
theorem dX11_isHeard_81 : decode cX11_isHeard 81 = .ok (.iinc 6 1, 3) := by decide +kernel
theorem dX11_isHeard_84 : decode cX11_isHeard 84 = .ok (.goto (-55), 3) := by decide +kernel
theorem dX11_isHeard_87 : decode cX11_isHeard 87 = .ok (.iload_n 3, 1) := by decide +kernel
theorem dX11_isHeard_88 : decode cX11_isHeard 88 = .ok (.ifCond .ne 8, 3) := by decide +kernel
theorem dX11_isHeard_91 : decode cX11_isHeard 91 = .ok (.iload 5, 2) := by decide +kernel
theorem dX11_isHeard_93 : decode cX11_isHeard 93 = .ok (.ifCond .eq 7, 3) := by decide +kernel
theorem dX11_isHeard_96 : decode cX11_isHeard 96 = .ok (.iconst 1, 1) := by decide +kernel
theorem dX11_isHeard_97 : decode cX11_isHeard 97 = .ok (.goto 4, 3) := by decide +kernel
theorem dX11_isHeard_100 : decode cX11_isHeard 100 = .ok (.iconst 0, 1) := by decide +kernel
theorem dX11_isHeard_101 : decode cX11_isHeard 101 = .ok (.istore_n 3, 1) := by decide +kernel
theorem dX11_isHeard_102 : decode cX11_isHeard 102 = .ok (.iinc 4 1, 3) := by decide +kernel
theorem dX11_isHeard_105 : decode cX11_isHeard 105 = .ok (.goto (-100), 3) := by decide +kernel
theorem dX11_isHeard_108 : decode cX11_isHeard 108 = .ok (.iload_n 3, 1) := by decide +kernel
theorem dX11_isHeard_109 : decode cX11_isHeard 109 = .ok (.aload_n 0, 1) := by decide +kernel
theorem dX11_isHeard_110 : decode cX11_isHeard 110 = .ok (.getfield 37, 3) := by decide +kernel
theorem dX11_isHeard_113 : decode cX11_isHeard 113 = .ok (.iload_n 2, 1) := by decide +kernel
theorem dX11_isHeard_114 : decode cX11_isHeard 114 = .ok (.baload, 1) := by decide +kernel
theorem dX11_isHeard_115 : decode cX11_isHeard 115 = .ok (.if_icmp .ne 7, 3) := by decide +kernel
theorem dX11_isHeard_118 : decode cX11_isHeard 118 = .ok (.iconst 1, 1) := by decide +kernel
theorem dX11_isHeard_119 : decode cX11_isHeard 119 = .ok (.goto 4, 3) := by decide +kernel
theorem dX11_isHeard_122 : decode cX11_isHeard 122 = .ok (.iconst 0, 1) := by decide +kernel
theorem dX11_isHeard_123 : decode cX11_isHeard 123 = .ok (.ireturn, 1) := by decide +kernel
theorem dX11_isSung_0 : decode cX11_isSung 0 = .ok (.aload_n 0, 1) := by decide +kernel
theorem dX11_isSung_1 : decode cX11_isSung 1 = .ok (.getfield 131, 3) := by decide +kernel
theorem dX11_isSung_4 : decode cX11_isSung 4 = .ok (.ifCond .eq 16, 3) := by decide +kernel
theorem dX11_isSung_7 : decode cX11_isSung 7 = .ok (.aload_n 0, 1) := by decide +kernel
theorem dX11_isSung_8 : decode cX11_isSung 8 = .ok (.getfield 131, 3) := by decide +kernel
theorem dX11_isSung_11 : decode cX11_isSung 11 = .ok (.aload_n 0, 1) := by decide +kernel
theorem dX11_isSung_12 : decode cX11_isSung 12 = .ok (.getfield 31, 3) := by decide +kernel
theorem dX11_isSung_15 : decode cX11_isSung 15 = .ok (.iload_n 1, 1) := by decide +kernel
theorem dX11_isSung_16 : decode cX11_isSung 16 = .ok (.iaload, 1) := by decide +kernel
theorem dX11_isSung_17 : decode cX11_isSung 17 = .ok (.if_icmp .ne 7, 3) := by decide +kernel
theorem dX11_isSung_20 : decode cX11_isSung 20 = .ok (.iconst 1, 1) := by decide +kernel
theorem dX11_isSung_21 : decode cX11_isSung 21 = .ok (.goto 4, 3) := by decide +kernel
theorem dX11_isSung_24 : decode cX11_isSung 24 = .ok (.iconst 0, 1) := by decide +kernel
theorem dX11_isSung_25 : decode cX11_isSung 25 = .ok (.istore_n 2, 1) := by decide +kernel
theorem dX11_isSung_26 : decode cX11_isSung 26 = .ok (.iconst 0, 1) := by decide +kernel
theorem dX11_isSung_27 : decode cX11_isSung 27 = .ok (.istore_n 3, 1) := by decide +kernel
theorem dX11_isSung_28 : decode cX11_isSung 28 = .ok (.iload_n 3, 1) := by decide +kernel
theorem dX11_isSung_29 : decode cX11_isSung 29 = .ok (.aload_n 0, 1) := by decide +kernel
theorem dX11_isSung_30 : decode cX11_isSung 30 = .ok (.getfield 131, 3) := by decide +kernel
theorem dX11_isSung_33 : decode cX11_isSung 33 = .ok (.if_icmp .ge 49, 3) := by decide +kernel
theorem dX11_isSung_36 : decode cX11_isSung 36 = .ok (.iload_n 2, 1) := by decide +kernel
theorem dX11_isSung_37 : decode cX11_isSung 37 = .ok (.ifCond .eq 45, 3) := by decide +kernel
theorem dX11_isSung_40 : decode cX11_isSung 40 = .ok (.aload_n 0, 1) := by decide +kernel
theorem dX11_isSung_41 : decode cX11_isSung 41 = .ok (.getfield 47, 3) := by decide +kernel
theorem dX11_isSung_44 : decode cX11_isSung 44 = .ok (.iload_n 3, 1) := by decide +kernel
theorem dX11_isSung_45 : decode cX11_isSung 45 = .ok (.iaload, 1) := by decide +kernel
theorem dX11_isSung_46 : decode cX11_isSung 46 = .ok (.iconst (-1), 1) := by decide +kernel
theorem dX11_isSung_47 : decode cX11_isSung 47 = .ok (.if_icmp .eq 23, 3) := by decide +kernel
theorem dX11_isSung_50 : decode cX11_isSung 50 = .ok (.aload_n 0, 1) := by decide +kernel
theorem dX11_isSung_51 : decode cX11_isSung 51 = .ok (.getfield 47, 3) := by decide +kernel
theorem dX11_isSung_54 : decode cX11_isSung 54 = .ok (.iload_n 3, 1) := by decide +kernel
theorem dX11_isSung_55 : decode cX11_isSung 55 = .ok (.iaload, 1) := by decide +kernel
theorem dX11_isSung_56 : decode cX11_isSung 56 = .ok (.aload_n 0, 1) := by decide +kernel
theorem dX11_isSung_57 : decode cX11_isSung 57 = .ok (.getfield 34, 3) := by decide +kernel
theorem dX11_isSung_60 : decode cX11_isSung 60 = .ok (.bipush 6, 2) := by decide +kernel
theorem dX11_isSung_62 : decode cX11_isSung 62 = .ok (.iload_n 1, 1) := by decide +kernel
theorem dX11_isSung_63 : decode cX11_isSung 63 = .ok (.imul, 1) := by decide +kernel
theorem dX11_isSung_64 : decode cX11_isSung 64 = .ok (.iload_n 3, 1) := by decide +kernel
theorem dX11_isSung_65 : decode cX11_isSung 65 = .ok (.iadd, 1) := by decide +kernel
theorem dX11_isSung_66 : decode cX11_isSung 66 = .ok (.iaload, 1) := by decide +kernel
theorem dX11_isSung_67 : decode cX11_isSung 67 = .ok (.if_icmp .ne 7, 3) := by decide +kernel
theorem dX11_isSung_70 : decode cX11_isSung 70 = .ok (.iconst 1, 1) := by decide +kernel
theorem dX11_isSung_71 : decode cX11_isSung 71 = .ok (.goto 4, 3) := by decide +kernel
theorem dX11_isSung_74 : decode cX11_isSung 74 = .ok (.iconst 0, 1) := by decide +kernel
theorem dX11_isSung_75 : decode cX11_isSung 75 = .ok (.istore_n 2, 1) := by decide +kernel
theorem dX11_isSung_76 : decode cX11_isSung 76 = .ok (.iinc 3 1, 3) := by decide +kernel
theorem dX11_isSung_79 : decode cX11_isSung 79 = .ok (.goto (-51), 3) := by decide +kernel
theorem dX11_isSung_82 : decode cX11_isSung 82 = .ok (.iload_n 2, 1) := by decide +kernel
theorem dX11_isSung_83 : decode cX11_isSung 83 = .ok (.ireturn, 1) := by decide +kernel
theorem dX11_fitsBy_0 : decode cX11_fitsBy 0 = .ok (.iconst 0, 1) := by decide +kernel
theorem dX11_fitsBy_1 : decode cX11_fitsBy 1 = .ok (.istore_n 2, 1) := by decide +kernel
theorem dX11_fitsBy_2 : decode cX11_fitsBy 2 = .ok (.iconst 0, 1) := by decide +kernel
theorem dX11_fitsBy_3 : decode cX11_fitsBy 3 = .ok (.istore_n 3, 1) := by decide +kernel
theorem dX11_fitsBy_4 : decode cX11_fitsBy 4 = .ok (.iload_n 3, 1) := by decide +kernel
theorem dX11_fitsBy_5 : decode cX11_fitsBy 5 = .ok (.aload_n 0, 1) := by decide +kernel
theorem dX11_fitsBy_6 : decode cX11_fitsBy 6 = .ok (.getfield 113, 3) := by decide +kernel
theorem dX11_fitsBy_9 : decode cX11_fitsBy 9 = .ok (.if_icmp .ge 80, 3) := by decide +kernel
theorem dX11_fitsBy_12 : decode cX11_fitsBy 12 = .ok (.aload_n 0, 1) := by decide +kernel
theorem dX11_fitsBy_13 : decode cX11_fitsBy 13 = .ok (.iload_n 3, 1) := by decide +kernel
theorem dX11_fitsBy_14 : decode cX11_fitsBy 14 = .ok (.invokevirtual 163, 3) := by decide +kernel
theorem dX11_fitsBy_17 : decode cX11_fitsBy 17 = .ok (.istore 4, 2) := by decide +kernel
theorem dX11_fitsBy_19 : decode cX11_fitsBy 19 = .ok (.iconst 0, 1) := by decide +kernel
theorem dX11_fitsBy_20 : decode cX11_fitsBy 20 = .ok (.istore 5, 2) := by decide +kernel
theorem dX11_fitsBy_22 : decode cX11_fitsBy 22 = .ok (.iload 5, 2) := by decide +kernel
theorem dX11_fitsBy_24 : decode cX11_fitsBy 24 = .ok (.aload_n 0, 1) := by decide +kernel
theorem dX11_fitsBy_25 : decode cX11_fitsBy 25 = .ok (.getfield 125, 3) := by decide +kernel
theorem dX11_fitsBy_28 : decode cX11_fitsBy 28 = .ok (.if_icmp .ge 40, 3) := by decide +kernel
theorem dX11_fitsBy_31 : decode cX11_fitsBy 31 = .ok (.iload 4, 2) := by decide +kernel
theorem dX11_fitsBy_33 : decode cX11_fitsBy 33 = .ok (.ifCond .eq 26, 3) := by decide +kernel
theorem dX11_fitsBy_36 : decode cX11_fitsBy 36 = .ok (.iload_n 1, 1) := by decide +kernel
theorem dX11_fitsBy_37 : decode cX11_fitsBy 37 = .ok (.iload 5, 2) := by decide +kernel
theorem dX11_fitsBy_39 : decode cX11_fitsBy 39 = .ok (.invokestatic 166, 3) := by decide +kernel
theorem dX11_fitsBy_42 : decode cX11_fitsBy 42 = .ok (.ifCond .eq 13, 3) := by decide +kernel
theorem dX11_fitsBy_45 : decode cX11_fitsBy 45 = .ok (.aload_n 0, 1) := by decide +kernel
theorem dX11_fitsBy_46 : decode cX11_fitsBy 46 = .ok (.iload_n 3, 1) := by decide +kernel
theorem dX11_fitsBy_47 : decode cX11_fitsBy 47 = .ok (.iload 5, 2) := by decide +kernel
theorem dX11_fitsBy_49 : decode cX11_fitsBy 49 = .ok (.invokevirtual 170, 3) := by decide +kernel
theorem dX11_fitsBy_52 : decode cX11_fitsBy 52 = .ok (.ifCond .eq 7, 3) := by decide +kernel
theorem dX11_fitsBy_55 : decode cX11_fitsBy 55 = .ok (.iconst 1, 1) := by decide +kernel
theorem dX11_fitsBy_56 : decode cX11_fitsBy 56 = .ok (.goto 4, 3) := by decide +kernel
theorem dX11_fitsBy_59 : decode cX11_fitsBy 59 = .ok (.iconst 0, 1) := by decide +kernel
theorem dX11_fitsBy_60 : decode cX11_fitsBy 60 = .ok (.istore 4, 2) := by decide +kernel
theorem dX11_fitsBy_62 : decode cX11_fitsBy 62 = .ok (.iinc 5 1, 3) := by decide +kernel
theorem dX11_fitsBy_65 : decode cX11_fitsBy 65 = .ok (.goto (-43), 3) := by decide +kernel
theorem dX11_fitsBy_68 : decode cX11_fitsBy 68 = .ok (.iload_n 2, 1) := by decide +kernel
theorem dX11_fitsBy_69 : decode cX11_fitsBy 69 = .ok (.iload 4, 2) := by decide +kernel
theorem dX11_fitsBy_71 : decode cX11_fitsBy 71 = .ok (.ifCond .eq 9, 3) := by decide +kernel
theorem dX11_fitsBy_74 : decode cX11_fitsBy 74 = .ok (.iconst 1, 1) := by decide +kernel
theorem dX11_fitsBy_75 : decode cX11_fitsBy 75 = .ok (.iload_n 3, 1) := by decide +kernel
theorem dX11_fitsBy_76 : decode cX11_fitsBy 76 = .ok (.ishl, 1) := by decide +kernel
theorem dX11_fitsBy_77 : decode cX11_fitsBy 77 = .ok (.goto 4, 3) := by decide +kernel
theorem dX11_fitsBy_80 : decode cX11_fitsBy 80 = .ok (.iconst 0, 1) := by decide +kernel
theorem dX11_fitsBy_81 : decode cX11_fitsBy 81 = .ok (.ior, 1) := by decide +kernel
theorem dX11_fitsBy_82 : decode cX11_fitsBy 82 = .ok (.istore_n 2, 1) := by decide +kernel
theorem dX11_fitsBy_83 : decode cX11_fitsBy 83 = .ok (.iinc 3 1, 3) := by decide +kernel
theorem dX11_fitsBy_86 : decode cX11_fitsBy 86 = .ok (.goto (-82), 3) := by decide +kernel
theorem dX11_fitsBy_89 : decode cX11_fitsBy 89 = .ok (.iload_n 2, 1) := by decide +kernel
theorem dX11_fitsBy_90 : decode cX11_fitsBy 90 = .ok (.ireturn, 1) := by decide +kernel
theorem dX11_fitsNow_0 : decode cX11_fitsNow 0 = .ok (.aload_n 0, 1) := by decide +kernel
theorem dX11_fitsNow_1 : decode cX11_fitsNow 1 = .ok (.bipush 63, 2) := by decide +kernel
theorem dX11_fitsNow_3 : decode cX11_fitsNow 3 = .ok (.invokevirtual 173, 3) := by decide +kernel
theorem dX11_fitsNow_6 : decode cX11_fitsNow 6 = .ok (.ireturn, 1) := by decide +kernel
theorem dX11_fits_0 : decode cX11_fits 0 = .ok (.aload_n 0, 1) := by decide +kernel
theorem dX11_fits_1 : decode cX11_fits 1 = .ok (.invokevirtual 144, 3) := by decide +kernel
theorem dX11_fits_4 : decode cX11_fits 4 = .ok (.aload_n 0, 1) := by decide +kernel
theorem dX11_fits_5 : decode cX11_fits 5 = .ok (.invokevirtual 176, 3) := by decide +kernel
theorem dX11_fits_8 : decode cX11_fits 8 = .ok (.ireturn, 1) := by decide +kernel
theorem dX11_weight_0 : decode cX11_weight 0 = .ok (.iconst 0, 1) := by decide +kernel
theorem dX11_weight_1 : decode cX11_weight 1 = .ok (.istore_n 2, 1) := by decide +kernel
theorem dX11_weight_2 : decode cX11_weight 2 = .ok (.iconst 0, 1) := by decide +kernel
theorem dX11_weight_3 : decode cX11_weight 3 = .ok (.istore_n 3, 1) := by decide +kernel
theorem dX11_weight_4 : decode cX11_weight 4 = .ok (.iload_n 3, 1) := by decide +kernel
theorem dX11_weight_5 : decode cX11_weight 5 = .ok (.aload_n 0, 1) := by decide +kernel
theorem dX11_weight_6 : decode cX11_weight 6 = .ok (.getfield 113, 3) := by decide +kernel
theorem dX11_weight_9 : decode cX11_weight 9 = .ok (.if_icmp .ge 30, 3) := by decide +kernel
theorem dX11_weight_12 : decode cX11_weight 12 = .ok (.iload_n 2, 1) := by decide +kernel
theorem dX11_weight_13 : decode cX11_weight 13 = .ok (.iload_n 1, 1) := by decide +kernel
theorem dX11_weight_14 : decode cX11_weight 14 = .ok (.iload_n 3, 1) := by decide +kernel
theorem dX11_weight_15 : decode cX11_weight 15 = .ok (.invokestatic 166, 3) := by decide +kernel
theorem dX11_weight_18 : decode cX11_weight 18 = .ok (.ifCond .eq 12, 3) := by decide +kernel
theorem dX11_weight_21 : decode cX11_weight 21 = .ok (.aload_n 0, 1) := by decide +kernel
theorem dX11_weight_22 : decode cX11_weight 22 = .ok (.getfield 28, 3) := by decide +kernel
theorem dX11_weight_25 : decode cX11_weight 25 = .ok (.iload_n 3, 1) := by decide +kernel
theorem dX11_weight_26 : decode cX11_weight 26 = .ok (.iaload, 1) := by decide +kernel
theorem dX11_weight_27 : decode cX11_weight 27 = .ok (.goto 4, 3) := by decide +kernel
theorem dX11_weight_30 : decode cX11_weight 30 = .ok (.iconst 0, 1) := by decide +kernel
theorem dX11_weight_31 : decode cX11_weight 31 = .ok (.iadd, 1) := by decide +kernel
theorem dX11_weight_32 : decode cX11_weight 32 = .ok (.istore_n 2, 1) := by decide +kernel
theorem dX11_weight_33 : decode cX11_weight 33 = .ok (.iinc 3 1, 3) := by decide +kernel
theorem dX11_weight_36 : decode cX11_weight 36 = .ok (.goto (-32), 3) := by decide +kernel
theorem dX11_weight_39 : decode cX11_weight 39 = .ok (.iload_n 2, 1) := by decide +kernel
theorem dX11_weight_40 : decode cX11_weight 40 = .ok (.ireturn, 1) := by decide +kernel
theorem dX11_part_0 : decode cX11_part 0 = .ok (.lload_n 0, 1) := by decide +kernel
theorem dX11_part_1 : decode cX11_part 1 = .ok (.lstore 5, 2) := by decide +kernel
theorem dX11_part_3 : decode cX11_part 3 = .ok (.lload_n 2, 1) := by decide +kernel
theorem dX11_part_4 : decode cX11_part 4 = .ok (.lstore 7, 2) := by decide +kernel
theorem dX11_part_6 : decode cX11_part 6 = .ok (.lload 7, 2) := by decide +kernel
theorem dX11_part_8 : decode cX11_part 8 = .ok (.lconst 0, 1) := by decide +kernel
theorem dX11_part_9 : decode cX11_part 9 = .ok (.lcmp, 1) := by decide +kernel
theorem dX11_part_10 : decode cX11_part 10 = .ok (.ifCond .eq 21, 3) := by decide +kernel
theorem dX11_part_13 : decode cX11_part 13 = .ok (.lload 5, 2) := by decide +kernel
theorem dX11_part_15 : decode cX11_part 15 = .ok (.lload 7, 2) := by decide +kernel
theorem dX11_part_17 : decode cX11_part 17 = .ok (.lrem, 1) := by decide +kernel
theorem dX11_part_18 : decode cX11_part 18 = .ok (.lstore 9, 2) := by decide +kernel
theorem dX11_part_20 : decode cX11_part 20 = .ok (.lload 7, 2) := by decide +kernel
theorem dX11_part_22 : decode cX11_part 22 = .ok (.lstore 5, 2) := by decide +kernel
theorem dX11_part_24 : decode cX11_part 24 = .ok (.lload 9, 2) := by decide +kernel
theorem dX11_part_26 : decode cX11_part 26 = .ok (.lstore 7, 2) := by decide +kernel
theorem dX11_part_28 : decode cX11_part 28 = .ok (.goto (-22), 3) := by decide +kernel
theorem dX11_part_31 : decode cX11_part 31 = .ok (.iload 4, 2) := by decide +kernel
theorem dX11_part_33 : decode cX11_part 33 = .ok (.ifCond .ne 7, 3) := by decide +kernel
theorem dX11_part_36 : decode cX11_part 36 = .ok (.lload_n 0, 1) := by decide +kernel
theorem dX11_part_37 : decode cX11_part 37 = .ok (.goto 4, 3) := by decide +kernel
theorem dX11_part_40 : decode cX11_part 40 = .ok (.lload_n 2, 1) := by decide +kernel
theorem dX11_part_41 : decode cX11_part 41 = .ok (.lload 5, 2) := by decide +kernel
theorem dX11_part_43 : decode cX11_part 43 = .ok (.ldiv, 1) := by decide +kernel
theorem dX11_part_44 : decode cX11_part 44 = .ok (.lreturn, 1) := by decide +kernel
theorem dX11_chanceOf_0 : decode cX11_chanceOf 0 = .ok (.aload_n 0, 1) := by decide +kernel
theorem dX11_chanceOf_1 : decode cX11_chanceOf 1 = .ok (.invokevirtual 176, 3) := by decide +kernel
theorem dX11_chanceOf_4 : decode cX11_chanceOf 4 = .ok (.istore_n 3, 1) := by decide +kernel
theorem dX11_chanceOf_5 : decode cX11_chanceOf 5 = .ok (.iload_n 3, 1) := by decide +kernel
theorem dX11_chanceOf_6 : decode cX11_chanceOf 6 = .ok (.ifCond .ne 11, 3) := by decide +kernel
theorem dX11_chanceOf_9 : decode cX11_chanceOf 9 = .ok (.bipush (-3), 2) := by decide +kernel
theorem dX11_chanceOf_11 : decode cX11_chanceOf 11 = .ok (.invokestatic 179, 3) := by decide +kernel
theorem dX11_chanceOf_14 : decode cX11_chanceOf 14 = .ok (.goto 32, 3) := by decide +kernel
theorem dX11_chanceOf_17 : decode cX11_chanceOf 17 = .ok (.iload_n 3, 1) := by decide +kernel
theorem dX11_chanceOf_18 : decode cX11_chanceOf 18 = .ok (.iload_n 1, 1) := by decide +kernel
theorem dX11_chanceOf_19 : decode cX11_chanceOf 19 = .ok (.invokestatic 166, 3) := by decide +kernel
theorem dX11_chanceOf_22 : decode cX11_chanceOf 22 = .ok (.ifCond .eq 13, 3) := by decide +kernel
theorem dX11_chanceOf_25 : decode cX11_chanceOf 25 = .ok (.aload_n 0, 1) := by decide +kernel
theorem dX11_chanceOf_26 : decode cX11_chanceOf 26 = .ok (.getfield 28, 3) := by decide +kernel
theorem dX11_chanceOf_29 : decode cX11_chanceOf 29 = .ok (.iload_n 1, 1) := by decide +kernel
theorem dX11_chanceOf_30 : decode cX11_chanceOf 30 = .ok (.iaload, 1) := by decide +kernel
theorem dX11_chanceOf_31 : decode cX11_chanceOf 31 = .ok (.i2l, 1) := by decide +kernel
theorem dX11_chanceOf_32 : decode cX11_chanceOf 32 = .ok (.goto 4, 3) := by decide +kernel
theorem dX11_chanceOf_35 : decode cX11_chanceOf 35 = .ok (.lconst 0, 1) := by decide +kernel
theorem dX11_chanceOf_36 : decode cX11_chanceOf 36 = .ok (.aload_n 0, 1) := by decide +kernel
theorem dX11_chanceOf_37 : decode cX11_chanceOf 37 = .ok (.iload_n 3, 1) := by decide +kernel
theorem dX11_chanceOf_38 : decode cX11_chanceOf 38 = .ok (.invokevirtual 183, 3) := by decide +kernel
theorem dX11_chanceOf_41 : decode cX11_chanceOf 41 = .ok (.i2l, 1) := by decide +kernel
theorem dX11_chanceOf_42 : decode cX11_chanceOf 42 = .ok (.iload_n 2, 1) := by decide +kernel
theorem dX11_chanceOf_43 : decode cX11_chanceOf 43 = .ok (.invokestatic 186, 3) := by decide +kernel
theorem dX11_chanceOf_46 : decode cX11_chanceOf 46 = .ok (.lreturn, 1) := by decide +kernel
theorem dX11_chance_0 : decode cX11_chance 0 = .ok (.aload_n 0, 1) := by decide +kernel
theorem dX11_chance_1 : decode cX11_chance 1 = .ok (.invokevirtual 144, 3) := by decide +kernel
theorem dX11_chance_4 : decode cX11_chance 4 = .ok (.aload_n 0, 1) := by decide +kernel
theorem dX11_chance_5 : decode cX11_chance 5 = .ok (.iload_n 1, 1) := by decide +kernel
theorem dX11_chance_6 : decode cX11_chance 6 = .ok (.invokevirtual 147, 3) := by decide +kernel
theorem dX11_chance_9 : decode cX11_chance 9 = .ok (.ifCond .eq 19, 3) := by decide +kernel
theorem dX11_chance_12 : decode cX11_chance 12 = .ok (.iload_n 2, 1) := by decide +kernel
theorem dX11_chance_13 : decode cX11_chance 13 = .ok (.invokestatic 190, 3) := by decide +kernel
theorem dX11_chance_16 : decode cX11_chance 16 = .ok (.ifCond .eq 12, 3) := by decide +kernel
theorem dX11_chance_19 : decode cX11_chance 19 = .ok (.aload_n 0, 1) := by decide +kernel
theorem dX11_chance_20 : decode cX11_chance 20 = .ok (.iload_n 1, 1) := by decide +kernel
theorem dX11_chance_21 : decode cX11_chance 21 = .ok (.iload_n 2, 1) := by decide +kernel
theorem dX11_chance_22 : decode cX11_chance 22 = .ok (.invokevirtual 193, 3) := by decide +kernel
theorem dX11_chance_25 : decode cX11_chance 25 = .ok (.goto 8, 3) := by decide +kernel
theorem dX11_chance_28 : decode cX11_chance 28 = .ok (.bipush (-2), 2) := by decide +kernel
theorem dX11_chance_30 : decode cX11_chance 30 = .ok (.invokestatic 179, 3) := by decide +kernel
theorem dX11_chance_33 : decode cX11_chance 33 = .ok (.lreturn, 1) := by decide +kernel
theorem dX11_heardOf_0 : decode cX11_heardOf 0 = .ok (.iconst 0, 1) := by decide +kernel
theorem dX11_heardOf_1 : decode cX11_heardOf 1 = .ok (.istore_n 2, 1) := by decide +kernel
theorem dX11_heardOf_2 : decode cX11_heardOf 2 = .ok (.iconst 0, 1) := by decide +kernel
theorem dX11_heardOf_3 : decode cX11_heardOf 3 = .ok (.istore_n 3, 1) := by decide +kernel
theorem dX11_heardOf_4 : decode cX11_heardOf 4 = .ok (.iload_n 3, 1) := by decide +kernel
theorem dX11_heardOf_5 : decode cX11_heardOf 5 = .ok (.aload_n 0, 1) := by decide +kernel
theorem dX11_heardOf_6 : decode cX11_heardOf 6 = .ok (.getfield 113, 3) := by decide +kernel
theorem dX11_heardOf_9 : decode cX11_heardOf 9 = .ok (.if_icmp .ge 28, 3) := by decide +kernel
theorem dX11_heardOf_12 : decode cX11_heardOf 12 = .ok (.iload_n 2, 1) := by decide +kernel
theorem dX11_heardOf_13 : decode cX11_heardOf 13 = .ok (.aload_n 0, 1) := by decide +kernel
theorem dX11_heardOf_14 : decode cX11_heardOf 14 = .ok (.iload_n 3, 1) := by decide +kernel
theorem dX11_heardOf_15 : decode cX11_heardOf 15 = .ok (.iload_n 1, 1) := by decide +kernel
theorem dX11_heardOf_16 : decode cX11_heardOf 16 = .ok (.invokevirtual 170, 3) := by decide +kernel
theorem dX11_heardOf_19 : decode cX11_heardOf 19 = .ok (.ifCond .eq 9, 3) := by decide +kernel
theorem dX11_heardOf_22 : decode cX11_heardOf 22 = .ok (.iconst 1, 1) := by decide +kernel
theorem dX11_heardOf_23 : decode cX11_heardOf 23 = .ok (.iload_n 3, 1) := by decide +kernel
theorem dX11_heardOf_24 : decode cX11_heardOf 24 = .ok (.ishl, 1) := by decide +kernel
theorem dX11_heardOf_25 : decode cX11_heardOf 25 = .ok (.goto 4, 3) := by decide +kernel
theorem dX11_heardOf_28 : decode cX11_heardOf 28 = .ok (.iconst 0, 1) := by decide +kernel
theorem dX11_heardOf_29 : decode cX11_heardOf 29 = .ok (.ior, 1) := by decide +kernel
theorem dX11_heardOf_30 : decode cX11_heardOf 30 = .ok (.istore_n 2, 1) := by decide +kernel
theorem dX11_heardOf_31 : decode cX11_heardOf 31 = .ok (.iinc 3 1, 3) := by decide +kernel
theorem dX11_heardOf_34 : decode cX11_heardOf 34 = .ok (.goto (-30), 3) := by decide +kernel
theorem dX11_heardOf_37 : decode cX11_heardOf 37 = .ok (.iload_n 2, 1) := by decide +kernel
theorem dX11_heardOf_38 : decode cX11_heardOf 38 = .ok (.ireturn, 1) := by decide +kernel
theorem dX11_heard_0 : decode cX11_heard 0 = .ok (.aload_n 0, 1) := by decide +kernel
theorem dX11_heard_1 : decode cX11_heard 1 = .ok (.invokevirtual 144, 3) := by decide +kernel
theorem dX11_heard_4 : decode cX11_heard 4 = .ok (.iload_n 1, 1) := by decide +kernel
theorem dX11_heard_5 : decode cX11_heard 5 = .ok (.i2l, 1) := by decide +kernel
theorem dX11_heard_6 : decode cX11_heard 6 = .ok (.lconst 0, 1) := by decide +kernel
theorem dX11_heard_7 : decode cX11_heard 7 = .ok (.aload_n 0, 1) := by decide +kernel
theorem dX11_heard_8 : decode cX11_heard 8 = .ok (.getfield 125, 3) := by decide +kernel
theorem dX11_heard_11 : decode cX11_heard 11 = .ok (.iconst 1, 1) := by decide +kernel
theorem dX11_heard_12 : decode cX11_heard 12 = .ok (.isub, 1) := by decide +kernel
theorem dX11_heard_13 : decode cX11_heard 13 = .ok (.i2l, 1) := by decide +kernel
theorem dX11_heard_14 : decode cX11_heard 14 = .ok (.invokestatic 68, 3) := by decide +kernel
theorem dX11_heard_17 : decode cX11_heard 17 = .ok (.ifCond .eq 11, 3) := by decide +kernel
theorem dX11_heard_20 : decode cX11_heard 20 = .ok (.aload_n 0, 1) := by decide +kernel
theorem dX11_heard_21 : decode cX11_heard 21 = .ok (.iload_n 1, 1) := by decide +kernel
theorem dX11_heard_22 : decode cX11_heard 22 = .ok (.invokevirtual 197, 3) := by decide +kernel
theorem dX11_heard_25 : decode cX11_heard 25 = .ok (.goto 5, 3) := by decide +kernel
theorem dX11_heard_28 : decode cX11_heard 28 = .ok (.bipush (-2), 2) := by decide +kernel
theorem dX11_heard_30 : decode cX11_heard 30 = .ok (.ireturn, 1) := by decide +kernel
theorem dX11_offOf_0 : decode cX11_offOf 0 = .ok (.iconst 0, 1) := by decide +kernel
theorem dX11_offOf_1 : decode cX11_offOf 1 = .ok (.istore_n 2, 1) := by decide +kernel
theorem dX11_offOf_2 : decode cX11_offOf 2 = .ok (.iconst 0, 1) := by decide +kernel
theorem dX11_offOf_3 : decode cX11_offOf 3 = .ok (.istore_n 3, 1) := by decide +kernel
theorem dX11_offOf_4 : decode cX11_offOf 4 = .ok (.iload_n 3, 1) := by decide +kernel
theorem dX11_offOf_5 : decode cX11_offOf 5 = .ok (.aload_n 0, 1) := by decide +kernel
theorem dX11_offOf_6 : decode cX11_offOf 6 = .ok (.getfield 113, 3) := by decide +kernel
theorem dX11_offOf_9 : decode cX11_offOf 9 = .ok (.if_icmp .ge 100, 3) := by decide +kernel
theorem dX11_offOf_12 : decode cX11_offOf 12 = .ok (.iconst 0, 1) := by decide +kernel
theorem dX11_offOf_13 : decode cX11_offOf 13 = .ok (.istore 4, 2) := by decide +kernel
theorem dX11_offOf_15 : decode cX11_offOf 15 = .ok (.iconst 0, 1) := by decide +kernel
theorem dX11_offOf_16 : decode cX11_offOf 16 = .ok (.istore 5, 2) := by decide +kernel
theorem dX11_offOf_18 : decode cX11_offOf 18 = .ok (.iload 5, 2) := by decide +kernel
theorem dX11_offOf_20 : decode cX11_offOf 20 = .ok (.aload_n 0, 1) := by decide +kernel
theorem dX11_offOf_21 : decode cX11_offOf 21 = .ok (.getfield 31, 3) := by decide +kernel
theorem dX11_offOf_24 : decode cX11_offOf 24 = .ok (.iload_n 1, 1) := by decide +kernel
theorem dX11_offOf_25 : decode cX11_offOf 25 = .ok (.iaload, 1) := by decide +kernel
theorem dX11_offOf_26 : decode cX11_offOf 26 = .ok (.if_icmp .ge 61, 3) := by decide +kernel
theorem dX11_offOf_29 : decode cX11_offOf 29 = .ok (.aload_n 0, 1) := by decide +kernel
theorem dX11_offOf_30 : decode cX11_offOf 30 = .ok (.getfield 31, 3) := by decide +kernel
theorem dX11_offOf_33 : decode cX11_offOf 33 = .ok (.iload_n 3, 1) := by decide +kernel
theorem dX11_offOf_34 : decode cX11_offOf 34 = .ok (.iaload, 1) := by decide +kernel
theorem dX11_offOf_35 : decode cX11_offOf 35 = .ok (.aload_n 0, 1) := by decide +kernel
theorem dX11_offOf_36 : decode cX11_offOf 36 = .ok (.getfield 31, 3) := by decide +kernel
theorem dX11_offOf_39 : decode cX11_offOf 39 = .ok (.iload_n 1, 1) := by decide +kernel
theorem dX11_offOf_40 : decode cX11_offOf 40 = .ok (.iaload, 1) := by decide +kernel
theorem dX11_offOf_41 : decode cX11_offOf 41 = .ok (.if_icmp .ne 46, 3) := by decide +kernel
theorem dX11_offOf_44 : decode cX11_offOf 44 = .ok (.iload 4, 2) := by decide +kernel
theorem dX11_offOf_46 : decode cX11_offOf 46 = .ok (.aload_n 0, 1) := by decide +kernel
theorem dX11_offOf_47 : decode cX11_offOf 47 = .ok (.getfield 34, 3) := by decide +kernel
theorem dX11_offOf_50 : decode cX11_offOf 50 = .ok (.bipush 6, 2) := by decide +kernel
theorem dX11_offOf_52 : decode cX11_offOf 52 = .ok (.iload_n 3, 1) := by decide +kernel
theorem dX11_offOf_53 : decode cX11_offOf 53 = .ok (.imul, 1) := by decide +kernel
theorem dX11_offOf_54 : decode cX11_offOf 54 = .ok (.iload 5, 2) := by decide +kernel
theorem dX11_offOf_56 : decode cX11_offOf 56 = .ok (.iadd, 1) := by decide +kernel
theorem dX11_offOf_57 : decode cX11_offOf 57 = .ok (.iaload, 1) := by decide +kernel
theorem dX11_offOf_58 : decode cX11_offOf 58 = .ok (.aload_n 0, 1) := by decide +kernel
theorem dX11_offOf_59 : decode cX11_offOf 59 = .ok (.getfield 34, 3) := by decide +kernel
theorem dX11_offOf_62 : decode cX11_offOf 62 = .ok (.bipush 6, 2) := by decide +kernel
theorem dX11_offOf_64 : decode cX11_offOf 64 = .ok (.iload_n 1, 1) := by decide +kernel
theorem dX11_offOf_65 : decode cX11_offOf 65 = .ok (.imul, 1) := by decide +kernel
theorem dX11_offOf_66 : decode cX11_offOf 66 = .ok (.iload 5, 2) := by decide +kernel
theorem dX11_offOf_68 : decode cX11_offOf 68 = .ok (.iadd, 1) := by decide +kernel
theorem dX11_offOf_69 : decode cX11_offOf 69 = .ok (.iaload, 1) := by decide +kernel
theorem dX11_offOf_70 : decode cX11_offOf 70 = .ok (.if_icmp .ne 7, 3) := by decide +kernel
theorem dX11_offOf_73 : decode cX11_offOf 73 = .ok (.iconst 0, 1) := by decide +kernel
theorem dX11_offOf_74 : decode cX11_offOf 74 = .ok (.goto 4, 3) := by decide +kernel
theorem dX11_offOf_77 : decode cX11_offOf 77 = .ok (.iconst 1, 1) := by decide +kernel
theorem dX11_offOf_78 : decode cX11_offOf 78 = .ok (.iadd, 1) := by decide +kernel
theorem dX11_offOf_79 : decode cX11_offOf 79 = .ok (.istore 4, 2) := by decide +kernel
theorem dX11_offOf_81 : decode cX11_offOf 81 = .ok (.iinc 5 1, 3) := by decide +kernel
theorem dX11_offOf_84 : decode cX11_offOf 84 = .ok (.goto (-66), 3) := by decide +kernel
theorem dX11_offOf_87 : decode cX11_offOf 87 = .ok (.iload_n 2, 1) := by decide +kernel
theorem dX11_offOf_88 : decode cX11_offOf 88 = .ok (.iload 4, 2) := by decide +kernel
theorem dX11_offOf_90 : decode cX11_offOf 90 = .ok (.iconst 1, 1) := by decide +kernel
theorem dX11_offOf_91 : decode cX11_offOf 91 = .ok (.if_icmp .ne 9, 3) := by decide +kernel
theorem dX11_offOf_94 : decode cX11_offOf 94 = .ok (.iconst 1, 1) := by decide +kernel
theorem dX11_offOf_95 : decode cX11_offOf 95 = .ok (.iload_n 3, 1) := by decide +kernel
theorem dX11_offOf_96 : decode cX11_offOf 96 = .ok (.ishl, 1) := by decide +kernel
theorem dX11_offOf_97 : decode cX11_offOf 97 = .ok (.goto 4, 3) := by decide +kernel
theorem dX11_offOf_100 : decode cX11_offOf 100 = .ok (.iconst 0, 1) := by decide +kernel
theorem dX11_offOf_101 : decode cX11_offOf 101 = .ok (.ior, 1) := by decide +kernel
theorem dX11_offOf_102 : decode cX11_offOf 102 = .ok (.istore_n 2, 1) := by decide +kernel
theorem dX11_offOf_103 : decode cX11_offOf 103 = .ok (.iinc 3 1, 3) := by decide +kernel
theorem dX11_offOf_106 : decode cX11_offOf 106 = .ok (.goto (-102), 3) := by decide +kernel
theorem dX11_offOf_109 : decode cX11_offOf 109 = .ok (.iload_n 2, 1) := by decide +kernel
theorem dX11_offOf_110 : decode cX11_offOf 110 = .ok (.ireturn, 1) := by decide +kernel
theorem dX11_off_0 : decode cX11_off 0 = .ok (.aload_n 0, 1) := by decide +kernel
theorem dX11_off_1 : decode cX11_off 1 = .ok (.invokevirtual 144, 3) := by decide +kernel
theorem dX11_off_4 : decode cX11_off 4 = .ok (.aload_n 0, 1) := by decide +kernel
theorem dX11_off_5 : decode cX11_off 5 = .ok (.iload_n 1, 1) := by decide +kernel
theorem dX11_off_6 : decode cX11_off 6 = .ok (.invokevirtual 147, 3) := by decide +kernel
theorem dX11_off_9 : decode cX11_off 9 = .ok (.ifCond .eq 11, 3) := by decide +kernel
theorem dX11_off_12 : decode cX11_off 12 = .ok (.aload_n 0, 1) := by decide +kernel
theorem dX11_off_13 : decode cX11_off 13 = .ok (.iload_n 1, 1) := by decide +kernel
theorem dX11_off_14 : decode cX11_off 14 = .ok (.invokevirtual 200, 3) := by decide +kernel
theorem dX11_off_17 : decode cX11_off 17 = .ok (.goto 5, 3) := by decide +kernel
theorem dX11_off_20 : decode cX11_off 20 = .ok (.bipush (-2), 2) := by decide +kernel
theorem dX11_off_22 : decode cX11_off 22 = .ok (.ireturn, 1) := by decide +kernel
theorem dX11_promise_0 : decode cX11_promise 0 = .ok (.aload_n 0, 1) := by decide +kernel
theorem dX11_promise_1 : decode cX11_promise 1 = .ok (.getfield 50, 3) := by decide +kernel
theorem dX11_promise_4 : decode cX11_promise 4 = .ok (.iconst 0, 1) := by decide +kernel
theorem dX11_promise_5 : decode cX11_promise 5 = .ok (.iaload, 1) := by decide +kernel
theorem dX11_promise_6 : decode cX11_promise 6 = .ok (.i2l, 1) := by decide +kernel
theorem dX11_promise_7 : decode cX11_promise 7 = .ok (.iload_n 1, 1) := by decide +kernel
theorem dX11_promise_8 : decode cX11_promise 8 = .ok (.lshl, 1) := by decide +kernel
theorem dX11_promise_9 : decode cX11_promise 9 = .ok (.lreturn, 1) := by decide +kernel
theorem dX11_ruin_0 : decode cX11_ruin 0 = .ok (.aload_n 0, 1) := by decide +kernel
theorem dX11_ruin_1 : decode cX11_ruin 1 = .ok (.aload_n 0, 1) := by decide +kernel
theorem dX11_ruin_2 : decode cX11_ruin 2 = .ok (.getfield 50, 3) := by decide +kernel
theorem dX11_ruin_5 : decode cX11_ruin 5 = .ok (.iconst 2, 1) := by decide +kernel
theorem dX11_ruin_6 : decode cX11_ruin 6 = .ok (.iaload, 1) := by decide +kernel
theorem dX11_ruin_7 : decode cX11_ruin 7 = .ok (.invokevirtual 203, 3) := by decide +kernel
theorem dX11_ruin_10 : decode cX11_ruin 10 = .ok (.l2i, 1) := by decide +kernel
theorem dX11_ruin_11 : decode cX11_ruin 11 = .ok (.aload_n 0, 1) := by decide +kernel
theorem dX11_ruin_12 : decode cX11_ruin 12 = .ok (.getfield 50, 3) := by decide +kernel
theorem dX11_ruin_15 : decode cX11_ruin 15 = .ok (.iconst 3, 1) := by decide +kernel
theorem dX11_ruin_16 : decode cX11_ruin 16 = .ok (.iaload, 1) := by decide +kernel
theorem dX11_ruin_17 : decode cX11_ruin 17 = .ok (.iadd, 1) := by decide +kernel
theorem dX11_ruin_18 : decode cX11_ruin 18 = .ok (.ireturn, 1) := by decide +kernel
theorem dX11_namedOf_0 : decode cX11_namedOf 0 = .ok (.iconst 0, 1) := by decide +kernel
theorem dX11_namedOf_1 : decode cX11_namedOf 1 = .ok (.istore_n 3, 1) := by decide +kernel
theorem dX11_namedOf_2 : decode cX11_namedOf 2 = .ok (.iload_n 3, 1) := by decide +kernel
theorem dX11_namedOf_3 : decode cX11_namedOf 3 = .ok (.aload_n 0, 1) := by decide +kernel
theorem dX11_namedOf_4 : decode cX11_namedOf 4 = .ok (.getfield 160, 3) := by decide +kernel
theorem dX11_namedOf_7 : decode cX11_namedOf 7 = .ok (.if_icmp .ge 74, 3) := by decide +kernel
theorem dX11_namedOf_10 : decode cX11_namedOf 10 = .ok (.iload_n 3, 1) := by decide +kernel
theorem dX11_namedOf_11 : decode cX11_namedOf 11 = .ok (.aload_n 0, 1) := by decide +kernel
theorem dX11_namedOf_12 : decode cX11_namedOf 12 = .ok (.getfield 50, 3) := by decide +kernel
theorem dX11_namedOf_15 : decode cX11_namedOf 15 = .ok (.iconst 4, 1) := by decide +kernel
theorem dX11_namedOf_16 : decode cX11_namedOf 16 = .ok (.iaload, 1) := by decide +kernel
theorem dX11_namedOf_17 : decode cX11_namedOf 17 = .ok (.idiv, 1) := by decide +kernel
theorem dX11_namedOf_18 : decode cX11_namedOf 18 = .ok (.aload_n 0, 1) := by decide +kernel
theorem dX11_namedOf_19 : decode cX11_namedOf 19 = .ok (.getfield 50, 3) := by decide +kernel
theorem dX11_namedOf_22 : decode cX11_namedOf 22 = .ok (.iconst 2, 1) := by decide +kernel
theorem dX11_namedOf_23 : decode cX11_namedOf 23 = .ok (.iaload, 1) := by decide +kernel
theorem dX11_namedOf_24 : decode cX11_namedOf 24 = .ok (.if_icmp .ge 57, 3) := by decide +kernel
theorem dX11_namedOf_27 : decode cX11_namedOf 27 = .ok (.aload_n 0, 1) := by decide +kernel
theorem dX11_namedOf_28 : decode cX11_namedOf 28 = .ok (.getfield 53, 3) := by decide +kernel
theorem dX11_namedOf_31 : decode cX11_namedOf 31 = .ok (.iload_n 3, 1) := by decide +kernel
theorem dX11_namedOf_32 : decode cX11_namedOf 32 = .ok (.iaload, 1) := by decide +kernel
theorem dX11_namedOf_33 : decode cX11_namedOf 33 = .ok (.iload_n 1, 1) := by decide +kernel
theorem dX11_namedOf_34 : decode cX11_namedOf 34 = .ok (.if_icmp .ne 41, 3) := by decide +kernel
theorem dX11_namedOf_37 : decode cX11_namedOf 37 = .ok (.iload_n 2, 1) := by decide +kernel
theorem dX11_namedOf_38 : decode cX11_namedOf 38 = .ok (.ifCond .ne 14, 3) := by decide +kernel
theorem dX11_namedOf_41 : decode cX11_namedOf 41 = .ok (.iload_n 3, 1) := by decide +kernel
theorem dX11_namedOf_42 : decode cX11_namedOf 42 = .ok (.aload_n 0, 1) := by decide +kernel
theorem dX11_namedOf_43 : decode cX11_namedOf 43 = .ok (.getfield 50, 3) := by decide +kernel
theorem dX11_namedOf_46 : decode cX11_namedOf 46 = .ok (.iconst 4, 1) := by decide +kernel
theorem dX11_namedOf_47 : decode cX11_namedOf 47 = .ok (.iaload, 1) := by decide +kernel
theorem dX11_namedOf_48 : decode cX11_namedOf 48 = .ok (.idiv, 1) := by decide +kernel
theorem dX11_namedOf_49 : decode cX11_namedOf 49 = .ok (.goto 25, 3) := by decide +kernel
theorem dX11_namedOf_52 : decode cX11_namedOf 52 = .ok (.aload_n 0, 1) := by decide +kernel
theorem dX11_namedOf_53 : decode cX11_namedOf 53 = .ok (.iload_n 3, 1) := by decide +kernel
theorem dX11_namedOf_54 : decode cX11_namedOf 54 = .ok (.aload_n 0, 1) := by decide +kernel
theorem dX11_namedOf_55 : decode cX11_namedOf 55 = .ok (.getfield 50, 3) := by decide +kernel
theorem dX11_namedOf_58 : decode cX11_namedOf 58 = .ok (.iconst 4, 1) := by decide +kernel
theorem dX11_namedOf_59 : decode cX11_namedOf 59 = .ok (.iaload, 1) := by decide +kernel
theorem dX11_namedOf_60 : decode cX11_namedOf 60 = .ok (.idiv, 1) := by decide +kernel
theorem dX11_namedOf_61 : decode cX11_namedOf 61 = .ok (.invokevirtual 203, 3) := by decide +kernel
theorem dX11_namedOf_64 : decode cX11_namedOf 64 = .ok (.l2i, 1) := by decide +kernel
theorem dX11_namedOf_65 : decode cX11_namedOf 65 = .ok (.iload_n 3, 1) := by decide +kernel
theorem dX11_namedOf_66 : decode cX11_namedOf 66 = .ok (.aload_n 0, 1) := by decide +kernel
theorem dX11_namedOf_67 : decode cX11_namedOf 67 = .ok (.getfield 50, 3) := by decide +kernel
theorem dX11_namedOf_70 : decode cX11_namedOf 70 = .ok (.iconst 1, 1) := by decide +kernel
theorem dX11_namedOf_71 : decode cX11_namedOf 71 = .ok (.iaload, 1) := by decide +kernel
theorem dX11_namedOf_72 : decode cX11_namedOf 72 = .ok (.imul, 1) := by decide +kernel
theorem dX11_namedOf_73 : decode cX11_namedOf 73 = .ok (.iadd, 1) := by decide +kernel
theorem dX11_namedOf_74 : decode cX11_namedOf 74 = .ok (.ireturn, 1) := by decide +kernel
theorem dX11_namedOf_75 : decode cX11_namedOf 75 = .ok (.iinc 3 1, 3) := by decide +kernel
theorem dX11_namedOf_78 : decode cX11_namedOf 78 = .ok (.goto (-76), 3) := by decide +kernel
theorem dX11_namedOf_81 : decode cX11_namedOf 81 = .ok (.iload_n 2, 1) := by decide +kernel
theorem dX11_namedOf_82 : decode cX11_namedOf 82 = .ok (.ifCond .ne 7, 3) := by decide +kernel
theorem dX11_namedOf_85 : decode cX11_namedOf 85 = .ok (.iconst (-1), 1) := by decide +kernel
theorem dX11_namedOf_86 : decode cX11_namedOf 86 = .ok (.goto 16, 3) := by decide +kernel
theorem dX11_namedOf_89 : decode cX11_namedOf 89 = .ok (.aload_n 0, 1) := by decide +kernel
theorem dX11_namedOf_90 : decode cX11_namedOf 90 = .ok (.invokevirtual 206, 3) := by decide +kernel
theorem dX11_namedOf_93 : decode cX11_namedOf 93 = .ok (.iload_n 3, 1) := by decide +kernel
theorem dX11_namedOf_94 : decode cX11_namedOf 94 = .ok (.aload_n 0, 1) := by decide +kernel
theorem dX11_namedOf_95 : decode cX11_namedOf 95 = .ok (.getfield 50, 3) := by decide +kernel
theorem dX11_namedOf_98 : decode cX11_namedOf 98 = .ok (.iconst 1, 1) := by decide +kernel
theorem dX11_namedOf_99 : decode cX11_namedOf 99 = .ok (.iaload, 1) := by decide +kernel
theorem dX11_namedOf_100 : decode cX11_namedOf 100 = .ok (.imul, 1) := by decide +kernel
theorem dX11_namedOf_101 : decode cX11_namedOf 101 = .ok (.iadd, 1) := by decide +kernel
theorem dX11_namedOf_102 : decode cX11_namedOf 102 = .ok (.ireturn, 1) := by decide +kernel
theorem dX11_named_0 : decode cX11_named 0 = .ok (.aload_n 0, 1) := by decide +kernel
theorem dX11_named_1 : decode cX11_named 1 = .ok (.invokevirtual 144, 3) := by decide +kernel
theorem dX11_named_4 : decode cX11_named 4 = .ok (.aload_n 0, 1) := by decide +kernel
theorem dX11_named_5 : decode cX11_named 5 = .ok (.iload_n 1, 1) := by decide +kernel
theorem dX11_named_6 : decode cX11_named 6 = .ok (.invokevirtual 147, 3) := by decide +kernel
theorem dX11_named_9 : decode cX11_named 9 = .ok (.ifCond .eq 19, 3) := by decide +kernel
theorem dX11_named_12 : decode cX11_named 12 = .ok (.iload_n 2, 1) := by decide +kernel
theorem dX11_named_13 : decode cX11_named 13 = .ok (.invokestatic 190, 3) := by decide +kernel
theorem dX11_named_16 : decode cX11_named 16 = .ok (.ifCond .eq 12, 3) := by decide +kernel
theorem dX11_named_19 : decode cX11_named 19 = .ok (.aload_n 0, 1) := by decide +kernel
theorem dX11_named_20 : decode cX11_named 20 = .ok (.iload_n 1, 1) := by decide +kernel
theorem dX11_named_21 : decode cX11_named 21 = .ok (.iload_n 2, 1) := by decide +kernel
theorem dX11_named_22 : decode cX11_named 22 = .ok (.invokevirtual 209, 3) := by decide +kernel
theorem dX11_named_25 : decode cX11_named 25 = .ok (.goto 5, 3) := by decide +kernel
theorem dX11_named_28 : decode cX11_named 28 = .ok (.bipush (-2), 2) := by decide +kernel
theorem dX11_named_30 : decode cX11_named 30 = .ok (.ireturn, 1) := by decide +kernel
theorem dX11_findRow_0 : decode cX11_findRow 0 = .ok (.aload_n 0, 1) := by decide +kernel
theorem dX11_findRow_1 : decode cX11_findRow 1 = .ok (.invokevirtual 176, 3) := by decide +kernel
theorem dX11_findRow_4 : decode cX11_findRow 4 = .ok (.istore_n 1, 1) := by decide +kernel
theorem dX11_findRow_5 : decode cX11_findRow 5 = .ok (.iconst 0, 1) := by decide +kernel
theorem dX11_findRow_6 : decode cX11_findRow 6 = .ok (.istore_n 2, 1) := by decide +kernel
theorem dX11_findRow_7 : decode cX11_findRow 7 = .ok (.iload_n 1, 1) := by decide +kernel
theorem dX11_findRow_8 : decode cX11_findRow 8 = .ok (.ifCond .eq 81, 3) := by decide +kernel
theorem dX11_findRow_11 : decode cX11_findRow 11 = .ok (.iconst (-1), 1) := by decide +kernel
theorem dX11_findRow_12 : decode cX11_findRow 12 = .ok (.istore_n 3, 1) := by decide +kernel
theorem dX11_findRow_13 : decode cX11_findRow 13 = .ok (.iconst 0, 1) := by decide +kernel
theorem dX11_findRow_14 : decode cX11_findRow 14 = .ok (.istore 4, 2) := by decide +kernel
theorem dX11_findRow_16 : decode cX11_findRow 16 = .ok (.iload 4, 2) := by decide +kernel
theorem dX11_findRow_18 : decode cX11_findRow 18 = .ok (.aload_n 0, 1) := by decide +kernel
theorem dX11_findRow_19 : decode cX11_findRow 19 = .ok (.getfield 113, 3) := by decide +kernel
theorem dX11_findRow_22 : decode cX11_findRow 22 = .ok (.if_icmp .ge 46, 3) := by decide +kernel
theorem dX11_findRow_25 : decode cX11_findRow 25 = .ok (.iload_n 1, 1) := by decide +kernel
theorem dX11_findRow_26 : decode cX11_findRow 26 = .ok (.iload 4, 2) := by decide +kernel
theorem dX11_findRow_28 : decode cX11_findRow 28 = .ok (.invokestatic 166, 3) := by decide +kernel
theorem dX11_findRow_31 : decode cX11_findRow 31 = .ok (.ifCond .eq 29, 3) := by decide +kernel
theorem dX11_findRow_34 : decode cX11_findRow 34 = .ok (.iload_n 3, 1) := by decide +kernel
theorem dX11_findRow_35 : decode cX11_findRow 35 = .ok (.iconst (-1), 1) := by decide +kernel
theorem dX11_findRow_36 : decode cX11_findRow 36 = .ok (.if_icmp .eq 19, 3) := by decide +kernel
theorem dX11_findRow_39 : decode cX11_findRow 39 = .ok (.aload_n 0, 1) := by decide +kernel
theorem dX11_findRow_40 : decode cX11_findRow 40 = .ok (.getfield 28, 3) := by decide +kernel
theorem dX11_findRow_43 : decode cX11_findRow 43 = .ok (.iload 4, 2) := by decide +kernel
theorem dX11_findRow_45 : decode cX11_findRow 45 = .ok (.iaload, 1) := by decide +kernel
theorem dX11_findRow_46 : decode cX11_findRow 46 = .ok (.aload_n 0, 1) := by decide +kernel
theorem dX11_findRow_47 : decode cX11_findRow 47 = .ok (.getfield 28, 3) := by decide +kernel
theorem dX11_findRow_50 : decode cX11_findRow 50 = .ok (.iload_n 3, 1) := by decide +kernel
theorem dX11_findRow_51 : decode cX11_findRow 51 = .ok (.iaload, 1) := by decide +kernel
theorem dX11_findRow_52 : decode cX11_findRow 52 = .ok (.if_icmp .le 8, 3) := by decide +kernel
theorem dX11_findRow_55 : decode cX11_findRow 55 = .ok (.iload 4, 2) := by decide +kernel
theorem dX11_findRow_57 : decode cX11_findRow 57 = .ok (.goto 4, 3) := by decide +kernel
theorem dX11_findRow_60 : decode cX11_findRow 60 = .ok (.iload_n 3, 1) := by decide +kernel
theorem dX11_findRow_61 : decode cX11_findRow 61 = .ok (.istore_n 3, 1) := by decide +kernel
theorem dX11_findRow_62 : decode cX11_findRow 62 = .ok (.iinc 4 1, 3) := by decide +kernel
theorem dX11_findRow_65 : decode cX11_findRow 65 = .ok (.goto (-49), 3) := by decide +kernel
theorem dX11_findRow_68 : decode cX11_findRow 68 = .ok (.aload_n 0, 1) := by decide +kernel
theorem dX11_findRow_69 : decode cX11_findRow 69 = .ok (.getfield 56, 3) := by decide +kernel
theorem dX11_findRow_72 : decode cX11_findRow 72 = .ok (.iload_n 2, 1) := by decide +kernel
theorem dX11_findRow_73 : decode cX11_findRow 73 = .ok (.iload_n 3, 1) := by decide +kernel
theorem dX11_findRow_74 : decode cX11_findRow 74 = .ok (.iastore, 1) := by decide +kernel
theorem dX11_findRow_75 : decode cX11_findRow 75 = .ok (.iinc 2 1, 3) := by decide +kernel
theorem dX11_findRow_78 : decode cX11_findRow 78 = .ok (.iload_n 1, 1) := by decide +kernel
theorem dX11_findRow_79 : decode cX11_findRow 79 = .ok (.iconst 1, 1) := by decide +kernel
theorem dX11_findRow_80 : decode cX11_findRow 80 = .ok (.iload_n 3, 1) := by decide +kernel
theorem dX11_findRow_81 : decode cX11_findRow 81 = .ok (.ishl, 1) := by decide +kernel
theorem dX11_findRow_82 : decode cX11_findRow 82 = .ok (.iconst (-1), 1) := by decide +kernel
theorem dX11_findRow_83 : decode cX11_findRow 83 = .ok (.ixor, 1) := by decide +kernel
theorem dX11_findRow_84 : decode cX11_findRow 84 = .ok (.iand, 1) := by decide +kernel
theorem dX11_findRow_85 : decode cX11_findRow 85 = .ok (.istore_n 1, 1) := by decide +kernel
theorem dX11_findRow_86 : decode cX11_findRow 86 = .ok (.goto (-79), 3) := by decide +kernel
theorem dX11_findRow_89 : decode cX11_findRow 89 = .ok (.iload_n 2, 1) := by decide +kernel
theorem dX11_findRow_90 : decode cX11_findRow 90 = .ok (.ireturn, 1) := by decide +kernel
theorem dX11_rowOf_0 : decode cX11_rowOf 0 = .ok (.iload_n 1, 1) := by decide +kernel
theorem dX11_rowOf_1 : decode cX11_rowOf 1 = .ok (.aload_n 0, 1) := by decide +kernel
theorem dX11_rowOf_2 : decode cX11_rowOf 2 = .ok (.invokevirtual 212, 3) := by decide +kernel
theorem dX11_rowOf_5 : decode cX11_rowOf 5 = .ok (.if_icmp .ge 12, 3) := by decide +kernel
theorem dX11_rowOf_8 : decode cX11_rowOf 8 = .ok (.aload_n 0, 1) := by decide +kernel
theorem dX11_rowOf_9 : decode cX11_rowOf 9 = .ok (.getfield 56, 3) := by decide +kernel
theorem dX11_rowOf_12 : decode cX11_rowOf 12 = .ok (.iload_n 1, 1) := by decide +kernel
theorem dX11_rowOf_13 : decode cX11_rowOf 13 = .ok (.iaload, 1) := by decide +kernel
theorem dX11_rowOf_14 : decode cX11_rowOf 14 = .ok (.goto 4, 3) := by decide +kernel
theorem dX11_rowOf_17 : decode cX11_rowOf 17 = .ok (.iconst (-1), 1) := by decide +kernel
theorem dX11_rowOf_18 : decode cX11_rowOf 18 = .ok (.ireturn, 1) := by decide +kernel
theorem dX11_row_0 : decode cX11_row 0 = .ok (.aload_n 0, 1) := by decide +kernel
theorem dX11_row_1 : decode cX11_row 1 = .ok (.invokevirtual 144, 3) := by decide +kernel
theorem dX11_row_4 : decode cX11_row 4 = .ok (.iload_n 1, 1) := by decide +kernel
theorem dX11_row_5 : decode cX11_row 5 = .ok (.i2l, 1) := by decide +kernel
theorem dX11_row_6 : decode cX11_row 6 = .ok (.lconst 0, 1) := by decide +kernel
theorem dX11_row_7 : decode cX11_row 7 = .ok (.ldc2_w 116, 3) := by decide +kernel
theorem dX11_row_10 : decode cX11_row 10 = .ok (.invokestatic 68, 3) := by decide +kernel
theorem dX11_row_13 : decode cX11_row 13 = .ok (.ifCond .eq 11, 3) := by decide +kernel
theorem dX11_row_16 : decode cX11_row 16 = .ok (.aload_n 0, 1) := by decide +kernel
theorem dX11_row_17 : decode cX11_row 17 = .ok (.iload_n 1, 1) := by decide +kernel
theorem dX11_row_18 : decode cX11_row 18 = .ok (.invokevirtual 215, 3) := by decide +kernel
theorem dX11_row_21 : decode cX11_row 21 = .ok (.goto 5, 3) := by decide +kernel
theorem dX11_row_24 : decode cX11_row 24 = .ok (.bipush (-2), 2) := by decide +kernel
theorem dX11_row_26 : decode cX11_row 26 = .ok (.ireturn, 1) := by decide +kernel
theorem dX11_meanOf_0 : decode cX11_meanOf 0 = .ok (.aload_n 0, 1) := by decide +kernel
theorem dX11_meanOf_1 : decode cX11_meanOf 1 = .ok (.invokevirtual 212, 3) := by decide +kernel
theorem dX11_meanOf_4 : decode cX11_meanOf 4 = .ok (.istore_n 2, 1) := by decide +kernel
theorem dX11_meanOf_5 : decode cX11_meanOf 5 = .ok (.lconst 0, 1) := by decide +kernel
theorem dX11_meanOf_6 : decode cX11_meanOf 6 = .ok (.lstore_n 3, 1) := by decide +kernel
theorem dX11_meanOf_7 : decode cX11_meanOf 7 = .ok (.iconst 0, 1) := by decide +kernel
theorem dX11_meanOf_8 : decode cX11_meanOf 8 = .ok (.istore 5, 2) := by decide +kernel
theorem dX11_meanOf_10 : decode cX11_meanOf 10 = .ok (.iload 5, 2) := by decide +kernel
theorem dX11_meanOf_12 : decode cX11_meanOf 12 = .ok (.iload_n 2, 1) := by decide +kernel
theorem dX11_meanOf_13 : decode cX11_meanOf 13 = .ok (.if_icmp .ge 98, 3) := by decide +kernel
theorem dX11_meanOf_16 : decode cX11_meanOf 16 = .ok (.iload 5, 2) := by decide +kernel
theorem dX11_meanOf_18 : decode cX11_meanOf 18 = .ok (.aload_n 0, 1) := by decide +kernel
theorem dX11_meanOf_19 : decode cX11_meanOf 19 = .ok (.getfield 50, 3) := by decide +kernel
theorem dX11_meanOf_22 : decode cX11_meanOf 22 = .ok (.iconst 4, 1) := by decide +kernel
theorem dX11_meanOf_23 : decode cX11_meanOf 23 = .ok (.iaload, 1) := by decide +kernel
theorem dX11_meanOf_24 : decode cX11_meanOf 24 = .ok (.idiv, 1) := by decide +kernel
theorem dX11_meanOf_25 : decode cX11_meanOf 25 = .ok (.istore 6, 2) := by decide +kernel
theorem dX11_meanOf_27 : decode cX11_meanOf 27 = .ok (.iload 6, 2) := by decide +kernel
theorem dX11_meanOf_29 : decode cX11_meanOf 29 = .ok (.aload_n 0, 1) := by decide +kernel
theorem dX11_meanOf_30 : decode cX11_meanOf 30 = .ok (.getfield 50, 3) := by decide +kernel
theorem dX11_meanOf_33 : decode cX11_meanOf 33 = .ok (.iconst 2, 1) := by decide +kernel
theorem dX11_meanOf_34 : decode cX11_meanOf 34 = .ok (.iaload, 1) := by decide +kernel
theorem dX11_meanOf_35 : decode cX11_meanOf 35 = .ok (.if_icmp .ge 23, 3) := by decide +kernel
theorem dX11_meanOf_38 : decode cX11_meanOf 38 = .ok (.aload_n 0, 1) := by decide +kernel
theorem dX11_meanOf_39 : decode cX11_meanOf 39 = .ok (.iload 6, 2) := by decide +kernel
theorem dX11_meanOf_41 : decode cX11_meanOf 41 = .ok (.invokevirtual 203, 3) := by decide +kernel
theorem dX11_meanOf_44 : decode cX11_meanOf 44 = .ok (.iload 5, 2) := by decide +kernel
theorem dX11_meanOf_46 : decode cX11_meanOf 46 = .ok (.aload_n 0, 1) := by decide +kernel
theorem dX11_meanOf_47 : decode cX11_meanOf 47 = .ok (.getfield 50, 3) := by decide +kernel
theorem dX11_meanOf_50 : decode cX11_meanOf 50 = .ok (.iconst 1, 1) := by decide +kernel
theorem dX11_meanOf_51 : decode cX11_meanOf 51 = .ok (.iaload, 1) := by decide +kernel
theorem dX11_meanOf_52 : decode cX11_meanOf 52 = .ok (.imul, 1) := by decide +kernel
theorem dX11_meanOf_53 : decode cX11_meanOf 53 = .ok (.i2l, 1) := by decide +kernel
theorem dX11_meanOf_54 : decode cX11_meanOf 54 = .ok (.ladd, 1) := by decide +kernel
theorem dX11_meanOf_55 : decode cX11_meanOf 55 = .ok (.goto 29, 3) := by decide +kernel
theorem dX11_meanOf_58 : decode cX11_meanOf 58 = .ok (.aload_n 0, 1) := by decide +kernel
theorem dX11_meanOf_59 : decode cX11_meanOf 59 = .ok (.invokevirtual 206, 3) := by decide +kernel
theorem dX11_meanOf_62 : decode cX11_meanOf 62 = .ok (.aload_n 0, 1) := by decide +kernel
theorem dX11_meanOf_63 : decode cX11_meanOf 63 = .ok (.getfield 50, 3) := by decide +kernel
theorem dX11_meanOf_66 : decode cX11_meanOf 66 = .ok (.iconst 4, 1) := by decide +kernel
theorem dX11_meanOf_67 : decode cX11_meanOf 67 = .ok (.iaload, 1) := by decide +kernel
theorem dX11_meanOf_68 : decode cX11_meanOf 68 = .ok (.aload_n 0, 1) := by decide +kernel
theorem dX11_meanOf_69 : decode cX11_meanOf 69 = .ok (.getfield 50, 3) := by decide +kernel
theorem dX11_meanOf_72 : decode cX11_meanOf 72 = .ok (.iconst 2, 1) := by decide +kernel
theorem dX11_meanOf_73 : decode cX11_meanOf 73 = .ok (.iaload, 1) := by decide +kernel
theorem dX11_meanOf_74 : decode cX11_meanOf 74 = .ok (.imul, 1) := by decide +kernel
theorem dX11_meanOf_75 : decode cX11_meanOf 75 = .ok (.aload_n 0, 1) := by decide +kernel
theorem dX11_meanOf_76 : decode cX11_meanOf 76 = .ok (.getfield 50, 3) := by decide +kernel
theorem dX11_meanOf_79 : decode cX11_meanOf 79 = .ok (.iconst 1, 1) := by decide +kernel
theorem dX11_meanOf_80 : decode cX11_meanOf 80 = .ok (.iaload, 1) := by decide +kernel
theorem dX11_meanOf_81 : decode cX11_meanOf 81 = .ok (.imul, 1) := by decide +kernel
theorem dX11_meanOf_82 : decode cX11_meanOf 82 = .ok (.iadd, 1) := by decide +kernel
theorem dX11_meanOf_83 : decode cX11_meanOf 83 = .ok (.i2l, 1) := by decide +kernel
theorem dX11_meanOf_84 : decode cX11_meanOf 84 = .ok (.lstore 7, 2) := by decide +kernel
theorem dX11_meanOf_86 : decode cX11_meanOf 86 = .ok (.lload_n 3, 1) := by decide +kernel
theorem dX11_meanOf_87 : decode cX11_meanOf 87 = .ok (.aload_n 0, 1) := by decide +kernel
theorem dX11_meanOf_88 : decode cX11_meanOf 88 = .ok (.getfield 28, 3) := by decide +kernel
theorem dX11_meanOf_91 : decode cX11_meanOf 91 = .ok (.aload_n 0, 1) := by decide +kernel
theorem dX11_meanOf_92 : decode cX11_meanOf 92 = .ok (.getfield 56, 3) := by decide +kernel
theorem dX11_meanOf_95 : decode cX11_meanOf 95 = .ok (.iload 5, 2) := by decide +kernel
theorem dX11_meanOf_97 : decode cX11_meanOf 97 = .ok (.iaload, 1) := by decide +kernel
theorem dX11_meanOf_98 : decode cX11_meanOf 98 = .ok (.iaload, 1) := by decide +kernel
theorem dX11_meanOf_99 : decode cX11_meanOf 99 = .ok (.i2l, 1) := by decide +kernel
theorem dX11_meanOf_100 : decode cX11_meanOf 100 = .ok (.lload 7, 2) := by decide +kernel
theorem dX11_meanOf_102 : decode cX11_meanOf 102 = .ok (.lmul, 1) := by decide +kernel
theorem dX11_meanOf_103 : decode cX11_meanOf 103 = .ok (.ladd, 1) := by decide +kernel
theorem dX11_meanOf_104 : decode cX11_meanOf 104 = .ok (.lstore_n 3, 1) := by decide +kernel
theorem dX11_meanOf_105 : decode cX11_meanOf 105 = .ok (.iinc 5 1, 3) := by decide +kernel
theorem dX11_meanOf_108 : decode cX11_meanOf 108 = .ok (.goto (-98), 3) := by decide +kernel
theorem dX11_meanOf_111 : decode cX11_meanOf 111 = .ok (.iload_n 2, 1) := by decide +kernel
theorem dX11_meanOf_112 : decode cX11_meanOf 112 = .ok (.ifCond .ne 11, 3) := by decide +kernel
theorem dX11_meanOf_115 : decode cX11_meanOf 115 = .ok (.bipush (-3), 2) := by decide +kernel
theorem dX11_meanOf_117 : decode cX11_meanOf 117 = .ok (.invokestatic 179, 3) := by decide +kernel
theorem dX11_meanOf_120 : decode cX11_meanOf 120 = .ok (.goto 17, 3) := by decide +kernel
theorem dX11_meanOf_123 : decode cX11_meanOf 123 = .ok (.lload_n 3, 1) := by decide +kernel
theorem dX11_meanOf_124 : decode cX11_meanOf 124 = .ok (.aload_n 0, 1) := by decide +kernel
theorem dX11_meanOf_125 : decode cX11_meanOf 125 = .ok (.aload_n 0, 1) := by decide +kernel
theorem dX11_meanOf_126 : decode cX11_meanOf 126 = .ok (.invokevirtual 176, 3) := by decide +kernel
theorem dX11_meanOf_129 : decode cX11_meanOf 129 = .ok (.invokevirtual 183, 3) := by decide +kernel
theorem dX11_meanOf_132 : decode cX11_meanOf 132 = .ok (.i2l, 1) := by decide +kernel
theorem dX11_meanOf_133 : decode cX11_meanOf 133 = .ok (.iload_n 1, 1) := by decide +kernel
theorem dX11_meanOf_134 : decode cX11_meanOf 134 = .ok (.invokestatic 186, 3) := by decide +kernel
theorem dX11_meanOf_137 : decode cX11_meanOf 137 = .ok (.lreturn, 1) := by decide +kernel
theorem dX11_mean_0 : decode cX11_mean 0 = .ok (.aload_n 0, 1) := by decide +kernel
theorem dX11_mean_1 : decode cX11_mean 1 = .ok (.invokevirtual 144, 3) := by decide +kernel
theorem dX11_mean_4 : decode cX11_mean 4 = .ok (.iload_n 1, 1) := by decide +kernel
theorem dX11_mean_5 : decode cX11_mean 5 = .ok (.invokestatic 190, 3) := by decide +kernel
theorem dX11_mean_8 : decode cX11_mean 8 = .ok (.ifCond .eq 11, 3) := by decide +kernel
theorem dX11_mean_11 : decode cX11_mean 11 = .ok (.aload_n 0, 1) := by decide +kernel
theorem dX11_mean_12 : decode cX11_mean 12 = .ok (.iload_n 1, 1) := by decide +kernel
theorem dX11_mean_13 : decode cX11_mean 13 = .ok (.invokevirtual 218, 3) := by decide +kernel
theorem dX11_mean_16 : decode cX11_mean 16 = .ok (.goto 8, 3) := by decide +kernel
theorem dX11_mean_19 : decode cX11_mean 19 = .ok (.bipush (-2), 2) := by decide +kernel
theorem dX11_mean_21 : decode cX11_mean 21 = .ok (.invokestatic 179, 3) := by decide +kernel
theorem dX11_mean_24 : decode cX11_mean 24 = .ok (.lreturn, 1) := by decide +kernel
theorem dX11_letterAt_0 : decode cX11_letterAt 0 = .ok (.iload_n 2, 1) := by decide +kernel
theorem dX11_letterAt_1 : decode cX11_letterAt 1 = .ok (.aload_n 0, 1) := by decide +kernel
theorem dX11_letterAt_2 : decode cX11_letterAt 2 = .ok (.getfield 31, 3) := by decide +kernel
theorem dX11_letterAt_5 : decode cX11_letterAt 5 = .ok (.iload_n 1, 1) := by decide +kernel
theorem dX11_letterAt_6 : decode cX11_letterAt 6 = .ok (.iaload, 1) := by decide +kernel
theorem dX11_letterAt_7 : decode cX11_letterAt 7 = .ok (.if_icmp .ge 17, 3) := by decide +kernel
theorem dX11_letterAt_10 : decode cX11_letterAt 10 = .ok (.aload_n 0, 1) := by decide +kernel
theorem dX11_letterAt_11 : decode cX11_letterAt 11 = .ok (.getfield 34, 3) := by decide +kernel
theorem dX11_letterAt_14 : decode cX11_letterAt 14 = .ok (.bipush 6, 2) := by decide +kernel
theorem dX11_letterAt_16 : decode cX11_letterAt 16 = .ok (.iload_n 1, 1) := by decide +kernel
theorem dX11_letterAt_17 : decode cX11_letterAt 17 = .ok (.imul, 1) := by decide +kernel
theorem dX11_letterAt_18 : decode cX11_letterAt 18 = .ok (.iload_n 2, 1) := by decide +kernel
theorem dX11_letterAt_19 : decode cX11_letterAt 19 = .ok (.iadd, 1) := by decide +kernel
theorem dX11_letterAt_20 : decode cX11_letterAt 20 = .ok (.iaload, 1) := by decide +kernel
theorem dX11_letterAt_21 : decode cX11_letterAt 21 = .ok (.goto 5, 3) := by decide +kernel
theorem dX11_letterAt_24 : decode cX11_letterAt 24 = .ok (.bipush 6, 2) := by decide +kernel
theorem dX11_letterAt_26 : decode cX11_letterAt 26 = .ok (.ireturn, 1) := by decide +kernel
theorem dX11_withLetter_0 : decode cX11_withLetter 0 = .ok (.iconst 0, 1) := by decide +kernel
theorem dX11_withLetter_1 : decode cX11_withLetter 1 = .ok (.istore 4, 2) := by decide +kernel
theorem dX11_withLetter_3 : decode cX11_withLetter 3 = .ok (.iconst 0, 1) := by decide +kernel
theorem dX11_withLetter_4 : decode cX11_withLetter 4 = .ok (.istore 5, 2) := by decide +kernel
theorem dX11_withLetter_6 : decode cX11_withLetter 6 = .ok (.iload 5, 2) := by decide +kernel
theorem dX11_withLetter_8 : decode cX11_withLetter 8 = .ok (.aload_n 0, 1) := by decide +kernel
theorem dX11_withLetter_9 : decode cX11_withLetter 9 = .ok (.getfield 113, 3) := by decide +kernel
theorem dX11_withLetter_12 : decode cX11_withLetter 12 = .ok (.if_icmp .ge 42, 3) := by decide +kernel
theorem dX11_withLetter_15 : decode cX11_withLetter 15 = .ok (.iload 4, 2) := by decide +kernel
theorem dX11_withLetter_17 : decode cX11_withLetter 17 = .ok (.iload_n 1, 1) := by decide +kernel
theorem dX11_withLetter_18 : decode cX11_withLetter 18 = .ok (.iload 5, 2) := by decide +kernel
theorem dX11_withLetter_20 : decode cX11_withLetter 20 = .ok (.invokestatic 166, 3) := by decide +kernel
theorem dX11_withLetter_23 : decode cX11_withLetter 23 = .ok (.ifCond .eq 21, 3) := by decide +kernel
theorem dX11_withLetter_26 : decode cX11_withLetter 26 = .ok (.aload_n 0, 1) := by decide +kernel
theorem dX11_withLetter_27 : decode cX11_withLetter 27 = .ok (.iload 5, 2) := by decide +kernel
theorem dX11_withLetter_29 : decode cX11_withLetter 29 = .ok (.iload_n 2, 1) := by decide +kernel
theorem dX11_withLetter_30 : decode cX11_withLetter 30 = .ok (.invokevirtual 221, 3) := by decide +kernel
theorem dX11_withLetter_33 : decode cX11_withLetter 33 = .ok (.iload_n 3, 1) := by decide +kernel
theorem dX11_withLetter_34 : decode cX11_withLetter 34 = .ok (.if_icmp .ne 10, 3) := by decide +kernel
theorem dX11_withLetter_37 : decode cX11_withLetter 37 = .ok (.iconst 1, 1) := by decide +kernel
theorem dX11_withLetter_38 : decode cX11_withLetter 38 = .ok (.iload 5, 2) := by decide +kernel
theorem dX11_withLetter_40 : decode cX11_withLetter 40 = .ok (.ishl, 1) := by decide +kernel
theorem dX11_withLetter_41 : decode cX11_withLetter 41 = .ok (.goto 4, 3) := by decide +kernel
theorem dX11_withLetter_44 : decode cX11_withLetter 44 = .ok (.iconst 0, 1) := by decide +kernel
theorem dX11_withLetter_45 : decode cX11_withLetter 45 = .ok (.ior, 1) := by decide +kernel
theorem dX11_withLetter_46 : decode cX11_withLetter 46 = .ok (.istore 4, 2) := by decide +kernel
theorem dX11_withLetter_48 : decode cX11_withLetter 48 = .ok (.iinc 5 1, 3) := by decide +kernel
theorem dX11_withLetter_51 : decode cX11_withLetter 51 = .ok (.goto (-45), 3) := by decide +kernel
theorem dX11_withLetter_54 : decode cX11_withLetter 54 = .ok (.iload 4, 2) := by decide +kernel
theorem dX11_withLetter_56 : decode cX11_withLetter 56 = .ok (.ireturn, 1) := by decide +kernel
theorem dX11_guessed_0 : decode cX11_guessed 0 = .ok (.iload_n 2, 1) := by decide +kernel
theorem dX11_guessed_1 : decode cX11_guessed 1 = .ok (.iconst 1, 1) := by decide +kernel
theorem dX11_guessed_2 : decode cX11_guessed 2 = .ok (.iload_n 3, 1) := by decide +kernel
theorem dX11_guessed_3 : decode cX11_guessed 3 = .ok (.ishl, 1) := by decide +kernel
theorem dX11_guessed_4 : decode cX11_guessed 4 = .ok (.iconst (-1), 1) := by decide +kernel
theorem dX11_guessed_5 : decode cX11_guessed 5 = .ok (.ixor, 1) := by decide +kernel
theorem dX11_guessed_6 : decode cX11_guessed 6 = .ok (.iand, 1) := by decide +kernel
theorem dX11_guessed_7 : decode cX11_guessed 7 = .ok (.istore 4, 2) := by decide +kernel
theorem dX11_guessed_9 : decode cX11_guessed 9 = .ok (.aload_n 0, 1) := by decide +kernel
theorem dX11_guessed_10 : decode cX11_guessed 10 = .ok (.getfield 28, 3) := by decide +kernel
theorem dX11_guessed_13 : decode cX11_guessed 13 = .ok (.iload_n 3, 1) := by decide +kernel
theorem dX11_guessed_14 : decode cX11_guessed 14 = .ok (.iaload, 1) := by decide +kernel
theorem dX11_guessed_15 : decode cX11_guessed 15 = .ok (.i2l, 1) := by decide +kernel
theorem dX11_guessed_16 : decode cX11_guessed 16 = .ok (.aload_n 0, 1) := by decide +kernel
theorem dX11_guessed_17 : decode cX11_guessed 17 = .ok (.iload_n 1, 1) := by decide +kernel
theorem dX11_guessed_18 : decode cX11_guessed 18 = .ok (.invokevirtual 203, 3) := by decide +kernel
theorem dX11_guessed_21 : decode cX11_guessed 21 = .ok (.lmul, 1) := by decide +kernel
theorem dX11_guessed_22 : decode cX11_guessed 22 = .ok (.aload_n 0, 1) := by decide +kernel
theorem dX11_guessed_23 : decode cX11_guessed 23 = .ok (.getfield 50, 3) := by decide +kernel
theorem dX11_guessed_26 : decode cX11_guessed 26 = .ok (.iconst 1, 1) := by decide +kernel
theorem dX11_guessed_27 : decode cX11_guessed 27 = .ok (.iaload, 1) := by decide +kernel
theorem dX11_guessed_28 : decode cX11_guessed 28 = .ok (.i2l, 1) := by decide +kernel
theorem dX11_guessed_29 : decode cX11_guessed 29 = .ok (.aload_n 0, 1) := by decide +kernel
theorem dX11_guessed_30 : decode cX11_guessed 30 = .ok (.iload 4, 2) := by decide +kernel
theorem dX11_guessed_32 : decode cX11_guessed 32 = .ok (.invokevirtual 183, 3) := by decide +kernel
theorem dX11_guessed_35 : decode cX11_guessed 35 = .ok (.i2l, 1) := by decide +kernel
theorem dX11_guessed_36 : decode cX11_guessed 36 = .ok (.lmul, 1) := by decide +kernel
theorem dX11_guessed_37 : decode cX11_guessed 37 = .ok (.ladd, 1) := by decide +kernel
theorem dX11_guessed_38 : decode cX11_guessed 38 = .ok (.aload_n 0, 1) := by decide +kernel
theorem dX11_guessed_39 : decode cX11_guessed 39 = .ok (.getfield 59, 3) := by decide +kernel
theorem dX11_guessed_42 : decode cX11_guessed 42 = .ok (.sipush 1024, 3) := by decide +kernel
theorem dX11_guessed_45 : decode cX11_guessed 45 = .ok (.iload_n 1, 1) := by decide +kernel
theorem dX11_guessed_46 : decode cX11_guessed 46 = .ok (.iconst 1, 1) := by decide +kernel
theorem dX11_guessed_47 : decode cX11_guessed 47 = .ok (.iadd, 1) := by decide +kernel
theorem dX11_guessed_48 : decode cX11_guessed 48 = .ok (.imul, 1) := by decide +kernel
theorem dX11_guessed_49 : decode cX11_guessed 49 = .ok (.iload 4, 2) := by decide +kernel
theorem dX11_guessed_51 : decode cX11_guessed 51 = .ok (.iadd, 1) := by decide +kernel
theorem dX11_guessed_52 : decode cX11_guessed 52 = .ok (.laload, 1) := by decide +kernel
theorem dX11_guessed_53 : decode cX11_guessed 53 = .ok (.ladd, 1) := by decide +kernel
theorem dX11_guessed_54 : decode cX11_guessed 54 = .ok (.lreturn, 1) := by decide +kernel
theorem dX11_listened_0 : decode cX11_listened 0 = .ok (.lconst 0, 1) := by decide +kernel
theorem dX11_listened_1 : decode cX11_listened 1 = .ok (.lstore 4, 2) := by decide +kernel
theorem dX11_listened_3 : decode cX11_listened 3 = .ok (.iconst 0, 1) := by decide +kernel
theorem dX11_listened_4 : decode cX11_listened 4 = .ok (.istore 6, 2) := by decide +kernel
theorem dX11_listened_6 : decode cX11_listened 6 = .ok (.iload 6, 2) := by decide +kernel
theorem dX11_listened_8 : decode cX11_listened 8 = .ok (.bipush 7, 2) := by decide +kernel
theorem dX11_listened_10 : decode cX11_listened 10 = .ok (.if_icmp .ge 35, 3) := by decide +kernel
theorem dX11_listened_13 : decode cX11_listened 13 = .ok (.lload 4, 2) := by decide +kernel
theorem dX11_listened_15 : decode cX11_listened 15 = .ok (.aload_n 0, 1) := by decide +kernel
theorem dX11_listened_16 : decode cX11_listened 16 = .ok (.getfield 59, 3) := by decide +kernel
theorem dX11_listened_19 : decode cX11_listened 19 = .ok (.sipush 1024, 3) := by decide +kernel
theorem dX11_listened_22 : decode cX11_listened 22 = .ok (.iload_n 1, 1) := by decide +kernel
theorem dX11_listened_23 : decode cX11_listened 23 = .ok (.iconst 1, 1) := by decide +kernel
theorem dX11_listened_24 : decode cX11_listened 24 = .ok (.iadd, 1) := by decide +kernel
theorem dX11_listened_25 : decode cX11_listened 25 = .ok (.imul, 1) := by decide +kernel
theorem dX11_listened_26 : decode cX11_listened 26 = .ok (.aload_n 0, 1) := by decide +kernel
theorem dX11_listened_27 : decode cX11_listened 27 = .ok (.iload_n 2, 1) := by decide +kernel
theorem dX11_listened_28 : decode cX11_listened 28 = .ok (.iload_n 3, 1) := by decide +kernel
theorem dX11_listened_29 : decode cX11_listened 29 = .ok (.iload 6, 2) := by decide +kernel
theorem dX11_listened_31 : decode cX11_listened 31 = .ok (.invokevirtual 224, 3) := by decide +kernel
theorem dX11_listened_34 : decode cX11_listened 34 = .ok (.iadd, 1) := by decide +kernel
theorem dX11_listened_35 : decode cX11_listened 35 = .ok (.laload, 1) := by decide +kernel
theorem dX11_listened_36 : decode cX11_listened 36 = .ok (.ladd, 1) := by decide +kernel
theorem dX11_listened_37 : decode cX11_listened 37 = .ok (.lstore 4, 2) := by decide +kernel
theorem dX11_listened_39 : decode cX11_listened 39 = .ok (.iinc 6 1, 3) := by decide +kernel
theorem dX11_listened_42 : decode cX11_listened 42 = .ok (.goto (-36), 3) := by decide +kernel
theorem dX11_listened_45 : decode cX11_listened 45 = .ok (.lload 4, 2) := by decide +kernel
theorem dX11_listened_47 : decode cX11_listened 47 = .ok (.lreturn, 1) := by decide +kernel
theorem dX11_findBest_0 : decode cX11_findBest 0 = .ok (.ldc2_w 227, 3) := by decide +kernel
theorem dX11_findBest_3 : decode cX11_findBest 3 = .ok (.lstore_n 3, 1) := by decide +kernel
theorem dX11_findBest_4 : decode cX11_findBest 4 = .ok (.aload_n 0, 1) := by decide +kernel
theorem dX11_findBest_5 : decode cX11_findBest 5 = .ok (.iconst (-1), 1) := by decide +kernel
theorem dX11_findBest_6 : decode cX11_findBest 6 = .ok (.putfield 229, 3) := by decide +kernel
theorem dX11_findBest_9 : decode cX11_findBest 9 = .ok (.iconst 0, 1) := by decide +kernel
theorem dX11_findBest_10 : decode cX11_findBest 10 = .ok (.istore 5, 2) := by decide +kernel
theorem dX11_findBest_12 : decode cX11_findBest 12 = .ok (.iload 5, 2) := by decide +kernel
theorem dX11_findBest_14 : decode cX11_findBest 14 = .ok (.aload_n 0, 1) := by decide +kernel
theorem dX11_findBest_15 : decode cX11_findBest 15 = .ok (.getfield 113, 3) := by decide +kernel
theorem dX11_findBest_18 : decode cX11_findBest 18 = .ok (.if_icmp .ge 74, 3) := by decide +kernel
theorem dX11_findBest_21 : decode cX11_findBest 21 = .ok (.iload_n 2, 1) := by decide +kernel
theorem dX11_findBest_22 : decode cX11_findBest 22 = .ok (.iload 5, 2) := by decide +kernel
theorem dX11_findBest_24 : decode cX11_findBest 24 = .ok (.invokestatic 166, 3) := by decide +kernel
theorem dX11_findBest_27 : decode cX11_findBest 27 = .ok (.ifCond .eq 59, 3) := by decide +kernel
theorem dX11_findBest_30 : decode cX11_findBest 30 = .ok (.aload_n 0, 1) := by decide +kernel
theorem dX11_findBest_31 : decode cX11_findBest 31 = .ok (.iload_n 1, 1) := by decide +kernel
theorem dX11_findBest_32 : decode cX11_findBest 32 = .ok (.iload_n 2, 1) := by decide +kernel
theorem dX11_findBest_33 : decode cX11_findBest 33 = .ok (.iload 5, 2) := by decide +kernel
theorem dX11_findBest_35 : decode cX11_findBest 35 = .ok (.invokevirtual 232, 3) := by decide +kernel
theorem dX11_findBest_38 : decode cX11_findBest 38 = .ok (.lstore 6, 2) := by decide +kernel
theorem dX11_findBest_40 : decode cX11_findBest 40 = .ok (.aload_n 0, 1) := by decide +kernel
theorem dX11_findBest_41 : decode cX11_findBest 41 = .ok (.lload_n 3, 1) := by decide +kernel
theorem dX11_findBest_42 : decode cX11_findBest 42 = .ok (.lconst 0, 1) := by decide +kernel
theorem dX11_findBest_43 : decode cX11_findBest 43 = .ok (.lcmp, 1) := by decide +kernel
theorem dX11_findBest_44 : decode cX11_findBest 44 = .ok (.ifCond .lt 10, 3) := by decide +kernel
theorem dX11_findBest_47 : decode cX11_findBest 47 = .ok (.lload 6, 2) := by decide +kernel
theorem dX11_findBest_49 : decode cX11_findBest 49 = .ok (.lload_n 3, 1) := by decide +kernel
theorem dX11_findBest_50 : decode cX11_findBest 50 = .ok (.lcmp, 1) := by decide +kernel
theorem dX11_findBest_51 : decode cX11_findBest 51 = .ok (.ifCond .ge 8, 3) := by decide +kernel
theorem dX11_findBest_54 : decode cX11_findBest 54 = .ok (.iload 5, 2) := by decide +kernel
theorem dX11_findBest_56 : decode cX11_findBest 56 = .ok (.goto 7, 3) := by decide +kernel
theorem dX11_findBest_59 : decode cX11_findBest 59 = .ok (.aload_n 0, 1) := by decide +kernel
theorem dX11_findBest_60 : decode cX11_findBest 60 = .ok (.getfield 229, 3) := by decide +kernel
theorem dX11_findBest_63 : decode cX11_findBest 63 = .ok (.putfield 229, 3) := by decide +kernel
theorem dX11_findBest_66 : decode cX11_findBest 66 = .ok (.lload_n 3, 1) := by decide +kernel
theorem dX11_findBest_67 : decode cX11_findBest 67 = .ok (.lconst 0, 1) := by decide +kernel
theorem dX11_findBest_68 : decode cX11_findBest 68 = .ok (.lcmp, 1) := by decide +kernel
theorem dX11_findBest_69 : decode cX11_findBest 69 = .ok (.ifCond .lt 10, 3) := by decide +kernel
theorem dX11_findBest_72 : decode cX11_findBest 72 = .ok (.lload 6, 2) := by decide +kernel
theorem dX11_findBest_74 : decode cX11_findBest 74 = .ok (.lload_n 3, 1) := by decide +kernel
theorem dX11_findBest_75 : decode cX11_findBest 75 = .ok (.lcmp, 1) := by decide +kernel
theorem dX11_findBest_76 : decode cX11_findBest 76 = .ok (.ifCond .ge 8, 3) := by decide +kernel
theorem dX11_findBest_79 : decode cX11_findBest 79 = .ok (.lload 6, 2) := by decide +kernel
theorem dX11_findBest_81 : decode cX11_findBest 81 = .ok (.goto 4, 3) := by decide +kernel
theorem dX11_findBest_84 : decode cX11_findBest 84 = .ok (.lload_n 3, 1) := by decide +kernel
theorem dX11_findBest_85 : decode cX11_findBest 85 = .ok (.lstore_n 3, 1) := by decide +kernel
theorem dX11_findBest_86 : decode cX11_findBest 86 = .ok (.iinc 5 1, 3) := by decide +kernel
theorem dX11_findBest_89 : decode cX11_findBest 89 = .ok (.goto (-77), 3) := by decide +kernel
theorem dX11_findBest_92 : decode cX11_findBest 92 = .ok (.iconst 0, 1) := by decide +kernel
theorem dX11_findBest_93 : decode cX11_findBest 93 = .ok (.istore 5, 2) := by decide +kernel
theorem dX11_findBest_95 : decode cX11_findBest 95 = .ok (.iload 5, 2) := by decide +kernel
theorem dX11_findBest_97 : decode cX11_findBest 97 = .ok (.bipush 6, 2) := by decide +kernel
theorem dX11_findBest_99 : decode cX11_findBest 99 = .ok (.if_icmp .ge 60, 3) := by decide +kernel
theorem dX11_findBest_102 : decode cX11_findBest 102 = .ok (.iload_n 2, 1) := by decide +kernel
theorem dX11_findBest_103 : decode cX11_findBest 103 = .ok (.ifCond .eq 56, 3) := by decide +kernel
theorem dX11_findBest_106 : decode cX11_findBest 106 = .ok (.aload_n 0, 1) := by decide +kernel
theorem dX11_findBest_107 : decode cX11_findBest 107 = .ok (.iload_n 1, 1) := by decide +kernel
theorem dX11_findBest_108 : decode cX11_findBest 108 = .ok (.iload_n 2, 1) := by decide +kernel
theorem dX11_findBest_109 : decode cX11_findBest 109 = .ok (.iload 5, 2) := by decide +kernel
theorem dX11_findBest_111 : decode cX11_findBest 111 = .ok (.invokevirtual 236, 3) := by decide +kernel
theorem dX11_findBest_114 : decode cX11_findBest 114 = .ok (.lstore 6, 2) := by decide +kernel
theorem dX11_findBest_116 : decode cX11_findBest 116 = .ok (.aload_n 0, 1) := by decide +kernel
theorem dX11_findBest_117 : decode cX11_findBest 117 = .ok (.lload 6, 2) := by decide +kernel
theorem dX11_findBest_119 : decode cX11_findBest 119 = .ok (.lload_n 3, 1) := by decide +kernel
theorem dX11_findBest_120 : decode cX11_findBest 120 = .ok (.lcmp, 1) := by decide +kernel
theorem dX11_findBest_121 : decode cX11_findBest 121 = .ok (.ifCond .ge 11, 3) := by decide +kernel
theorem dX11_findBest_124 : decode cX11_findBest 124 = .ok (.bipush 10, 2) := by decide +kernel
theorem dX11_findBest_126 : decode cX11_findBest 126 = .ok (.iload 5, 2) := by decide +kernel
theorem dX11_findBest_128 : decode cX11_findBest 128 = .ok (.iadd, 1) := by decide +kernel
theorem dX11_findBest_129 : decode cX11_findBest 129 = .ok (.goto 7, 3) := by decide +kernel
theorem dX11_findBest_132 : decode cX11_findBest 132 = .ok (.aload_n 0, 1) := by decide +kernel
theorem dX11_findBest_133 : decode cX11_findBest 133 = .ok (.getfield 229, 3) := by decide +kernel
theorem dX11_findBest_136 : decode cX11_findBest 136 = .ok (.putfield 229, 3) := by decide +kernel
theorem dX11_findBest_139 : decode cX11_findBest 139 = .ok (.lload 6, 2) := by decide +kernel
theorem dX11_findBest_141 : decode cX11_findBest 141 = .ok (.lload_n 3, 1) := by decide +kernel
theorem dX11_findBest_142 : decode cX11_findBest 142 = .ok (.lcmp, 1) := by decide +kernel
theorem dX11_findBest_143 : decode cX11_findBest 143 = .ok (.ifCond .ge 8, 3) := by decide +kernel
theorem dX11_findBest_146 : decode cX11_findBest 146 = .ok (.lload 6, 2) := by decide +kernel
theorem dX11_findBest_148 : decode cX11_findBest 148 = .ok (.goto 4, 3) := by decide +kernel
theorem dX11_findBest_151 : decode cX11_findBest 151 = .ok (.lload_n 3, 1) := by decide +kernel
theorem dX11_findBest_152 : decode cX11_findBest 152 = .ok (.lstore_n 3, 1) := by decide +kernel
theorem dX11_findBest_153 : decode cX11_findBest 153 = .ok (.iinc 5 1, 3) := by decide +kernel
theorem dX11_findBest_156 : decode cX11_findBest 156 = .ok (.goto (-61), 3) := by decide +kernel
theorem dX11_findBest_159 : decode cX11_findBest 159 = .ok (.aload_n 0, 1) := by decide +kernel
theorem dX11_findBest_160 : decode cX11_findBest 160 = .ok (.getfield 59, 3) := by decide +kernel
theorem dX11_findBest_163 : decode cX11_findBest 163 = .ok (.sipush 1024, 3) := by decide +kernel
theorem dX11_findBest_166 : decode cX11_findBest 166 = .ok (.iload_n 1, 1) := by decide +kernel
theorem dX11_findBest_167 : decode cX11_findBest 167 = .ok (.imul, 1) := by decide +kernel
theorem dX11_findBest_168 : decode cX11_findBest 168 = .ok (.iload_n 2, 1) := by decide +kernel
theorem dX11_findBest_169 : decode cX11_findBest 169 = .ok (.iadd, 1) := by decide +kernel
theorem dX11_findBest_170 : decode cX11_findBest 170 = .ok (.iload_n 2, 1) := by decide +kernel
theorem dX11_findBest_171 : decode cX11_findBest 171 = .ok (.ifCond .ne 7, 3) := by decide +kernel
theorem dX11_findBest_174 : decode cX11_findBest 174 = .ok (.lconst 0, 1) := by decide +kernel
theorem dX11_findBest_175 : decode cX11_findBest 175 = .ok (.goto 4, 3) := by decide +kernel
theorem dX11_findBest_178 : decode cX11_findBest 178 = .ok (.lload_n 3, 1) := by decide +kernel
theorem dX11_findBest_179 : decode cX11_findBest 179 = .ok (.lastore, 1) := by decide +kernel
theorem dX11_findBest_180 : decode cX11_findBest 180 = .ok (.return_, 1) := by decide +kernel
theorem dX11_findWisest_0 : decode cX11_findWisest 0 = .ok (.iconst 0, 1) := by decide +kernel
theorem dX11_findWisest_1 : decode cX11_findWisest 1 = .ok (.istore_n 3, 1) := by decide +kernel
theorem dX11_findWisest_2 : decode cX11_findWisest 2 = .ok (.iload_n 3, 1) := by decide +kernel
theorem dX11_findWisest_3 : decode cX11_findWisest 3 = .ok (.iload_n 2, 1) := by decide +kernel
theorem dX11_findWisest_4 : decode cX11_findWisest 4 = .ok (.if_icmp .gt 46, 3) := by decide +kernel
theorem dX11_findWisest_7 : decode cX11_findWisest 7 = .ok (.iload_n 3, 1) := by decide +kernel
theorem dX11_findWisest_8 : decode cX11_findWisest 8 = .ok (.iload_n 2, 1) := by decide +kernel
theorem dX11_findWisest_9 : decode cX11_findWisest 9 = .ok (.iconst (-1), 1) := by decide +kernel
theorem dX11_findWisest_10 : decode cX11_findWisest 10 = .ok (.ixor, 1) := by decide +kernel
theorem dX11_findWisest_11 : decode cX11_findWisest 11 = .ok (.iand, 1) := by decide +kernel
theorem dX11_findWisest_12 : decode cX11_findWisest 12 = .ok (.ifCond .ne 32, 3) := by decide +kernel
theorem dX11_findWisest_15 : decode cX11_findWisest 15 = .ok (.aload_n 0, 1) := by decide +kernel
theorem dX11_findWisest_16 : decode cX11_findWisest 16 = .ok (.getfield 59, 3) := by decide +kernel
theorem dX11_findWisest_19 : decode cX11_findWisest 19 = .ok (.sipush 1024, 3) := by decide +kernel
theorem dX11_findWisest_22 : decode cX11_findWisest 22 = .ok (.aload_n 0, 1) := by decide +kernel
theorem dX11_findWisest_23 : decode cX11_findWisest 23 = .ok (.getfield 50, 3) := by decide +kernel
theorem dX11_findWisest_26 : decode cX11_findWisest 26 = .ok (.iconst 2, 1) := by decide +kernel
theorem dX11_findWisest_27 : decode cX11_findWisest 27 = .ok (.iaload, 1) := by decide +kernel
theorem dX11_findWisest_28 : decode cX11_findWisest 28 = .ok (.imul, 1) := by decide +kernel
theorem dX11_findWisest_29 : decode cX11_findWisest 29 = .ok (.iload_n 3, 1) := by decide +kernel
theorem dX11_findWisest_30 : decode cX11_findWisest 30 = .ok (.iadd, 1) := by decide +kernel
theorem dX11_findWisest_31 : decode cX11_findWisest 31 = .ok (.aload_n 0, 1) := by decide +kernel
theorem dX11_findWisest_32 : decode cX11_findWisest 32 = .ok (.iload_n 3, 1) := by decide +kernel
theorem dX11_findWisest_33 : decode cX11_findWisest 33 = .ok (.invokevirtual 183, 3) := by decide +kernel
theorem dX11_findWisest_36 : decode cX11_findWisest 36 = .ok (.i2l, 1) := by decide +kernel
theorem dX11_findWisest_37 : decode cX11_findWisest 37 = .ok (.aload_n 0, 1) := by decide +kernel
theorem dX11_findWisest_38 : decode cX11_findWisest 38 = .ok (.invokevirtual 206, 3) := by decide +kernel
theorem dX11_findWisest_41 : decode cX11_findWisest 41 = .ok (.i2l, 1) := by decide +kernel
theorem dX11_findWisest_42 : decode cX11_findWisest 42 = .ok (.lmul, 1) := by decide +kernel
theorem dX11_findWisest_43 : decode cX11_findWisest 43 = .ok (.lastore, 1) := by decide +kernel
theorem dX11_findWisest_44 : decode cX11_findWisest 44 = .ok (.iinc 3 1, 3) := by decide +kernel
theorem dX11_findWisest_47 : decode cX11_findWisest 47 = .ok (.goto (-45), 3) := by decide +kernel
theorem dX11_findWisest_50 : decode cX11_findWisest 50 = .ok (.aload_n 0, 1) := by decide +kernel
theorem dX11_findWisest_51 : decode cX11_findWisest 51 = .ok (.iconst (-1), 1) := by decide +kernel
theorem dX11_findWisest_52 : decode cX11_findWisest 52 = .ok (.putfield 229, 3) := by decide +kernel
theorem dX11_findWisest_55 : decode cX11_findWisest 55 = .ok (.aload_n 0, 1) := by decide +kernel
theorem dX11_findWisest_56 : decode cX11_findWisest 56 = .ok (.getfield 50, 3) := by decide +kernel
theorem dX11_findWisest_59 : decode cX11_findWisest 59 = .ok (.iconst 2, 1) := by decide +kernel
theorem dX11_findWisest_60 : decode cX11_findWisest 60 = .ok (.iaload, 1) := by decide +kernel
theorem dX11_findWisest_61 : decode cX11_findWisest 61 = .ok (.iconst 1, 1) := by decide +kernel
theorem dX11_findWisest_62 : decode cX11_findWisest 62 = .ok (.isub, 1) := by decide +kernel
theorem dX11_findWisest_63 : decode cX11_findWisest 63 = .ok (.istore_n 3, 1) := by decide +kernel
theorem dX11_findWisest_64 : decode cX11_findWisest 64 = .ok (.iload_n 3, 1) := by decide +kernel
theorem dX11_findWisest_65 : decode cX11_findWisest 65 = .ok (.iload_n 1, 1) := by decide +kernel
theorem dX11_findWisest_66 : decode cX11_findWisest 66 = .ok (.if_icmp .lt 40, 3) := by decide +kernel
theorem dX11_findWisest_69 : decode cX11_findWisest 69 = .ok (.iconst 0, 1) := by decide +kernel
theorem dX11_findWisest_70 : decode cX11_findWisest 70 = .ok (.istore 4, 2) := by decide +kernel
theorem dX11_findWisest_72 : decode cX11_findWisest 72 = .ok (.iload 4, 2) := by decide +kernel
theorem dX11_findWisest_74 : decode cX11_findWisest 74 = .ok (.iload_n 2, 1) := by decide +kernel
theorem dX11_findWisest_75 : decode cX11_findWisest 75 = .ok (.if_icmp .gt 25, 3) := by decide +kernel
theorem dX11_findWisest_78 : decode cX11_findWisest 78 = .ok (.iload 4, 2) := by decide +kernel
theorem dX11_findWisest_80 : decode cX11_findWisest 80 = .ok (.iload_n 2, 1) := by decide +kernel
theorem dX11_findWisest_81 : decode cX11_findWisest 81 = .ok (.iconst (-1), 1) := by decide +kernel
theorem dX11_findWisest_82 : decode cX11_findWisest 82 = .ok (.ixor, 1) := by decide +kernel
theorem dX11_findWisest_83 : decode cX11_findWisest 83 = .ok (.iand, 1) := by decide +kernel
theorem dX11_findWisest_84 : decode cX11_findWisest 84 = .ok (.ifCond .ne 10, 3) := by decide +kernel
theorem dX11_findWisest_87 : decode cX11_findWisest 87 = .ok (.aload_n 0, 1) := by decide +kernel
theorem dX11_findWisest_88 : decode cX11_findWisest 88 = .ok (.iload_n 3, 1) := by decide +kernel
theorem dX11_findWisest_89 : decode cX11_findWisest 89 = .ok (.iload 4, 2) := by decide +kernel
theorem dX11_findWisest_91 : decode cX11_findWisest 91 = .ok (.invokevirtual 239, 3) := by decide +kernel
theorem dX11_findWisest_94 : decode cX11_findWisest 94 = .ok (.iinc 4 1, 3) := by decide +kernel
theorem dX11_findWisest_97 : decode cX11_findWisest 97 = .ok (.goto (-25), 3) := by decide +kernel
theorem dX11_findWisest_100 : decode cX11_findWisest 100 = .ok (.iinc 3 (-1), 3) := by decide +kernel
theorem dX11_findWisest_103 : decode cX11_findWisest 103 = .ok (.goto (-39), 3) := by decide +kernel
theorem dX11_findWisest_106 : decode cX11_findWisest 106 = .ok (.return_, 1) := by decide +kernel
theorem dX11_wisestOf_0 : decode cX11_wisestOf 0 = .ok (.iload_n 2, 1) := by decide +kernel
theorem dX11_wisestOf_1 : decode cX11_wisestOf 1 = .ok (.iconst 1, 1) := by decide +kernel
theorem dX11_wisestOf_2 : decode cX11_wisestOf 2 = .ok (.aload_n 0, 1) := by decide +kernel
theorem dX11_wisestOf_3 : decode cX11_wisestOf 3 = .ok (.getfield 113, 3) := by decide +kernel
theorem dX11_wisestOf_6 : decode cX11_wisestOf 6 = .ok (.ishl, 1) := by decide +kernel
theorem dX11_wisestOf_7 : decode cX11_wisestOf 7 = .ok (.iconst 1, 1) := by decide +kernel
theorem dX11_wisestOf_8 : decode cX11_wisestOf 8 = .ok (.isub, 1) := by decide +kernel
theorem dX11_wisestOf_9 : decode cX11_wisestOf 9 = .ok (.iand, 1) := by decide +kernel
theorem dX11_wisestOf_10 : decode cX11_wisestOf 10 = .ok (.istore 4, 2) := by decide +kernel
theorem dX11_wisestOf_12 : decode cX11_wisestOf 12 = .ok (.aload_n 0, 1) := by decide +kernel
theorem dX11_wisestOf_13 : decode cX11_wisestOf 13 = .ok (.iload_n 1, 1) := by decide +kernel
theorem dX11_wisestOf_14 : decode cX11_wisestOf 14 = .ok (.iload 4, 2) := by decide +kernel
theorem dX11_wisestOf_16 : decode cX11_wisestOf 16 = .ok (.invokevirtual 243, 3) := by decide +kernel
theorem dX11_wisestOf_19 : decode cX11_wisestOf 19 = .ok (.aload_n 0, 1) := by decide +kernel
theorem dX11_wisestOf_20 : decode cX11_wisestOf 20 = .ok (.iload_n 1, 1) := by decide +kernel
theorem dX11_wisestOf_21 : decode cX11_wisestOf 21 = .ok (.iload 4, 2) := by decide +kernel
theorem dX11_wisestOf_23 : decode cX11_wisestOf 23 = .ok (.iload_n 3, 1) := by decide +kernel
theorem dX11_wisestOf_24 : decode cX11_wisestOf 24 = .ok (.invokevirtual 246, 3) := by decide +kernel
theorem dX11_wisestOf_27 : decode cX11_wisestOf 27 = .ok (.lreturn, 1) := by decide +kernel
theorem dX11_tellsWisest_0 : decode cX11_tellsWisest 0 = .ok (.iload_n 3, 1) := by decide +kernel
theorem dX11_tellsWisest_1 : decode cX11_tellsWisest 1 = .ok (.iconst 2, 1) := by decide +kernel
theorem dX11_tellsWisest_2 : decode cX11_tellsWisest 2 = .ok (.if_icmp .ne 9, 3) := by decide +kernel
theorem dX11_tellsWisest_5 : decode cX11_tellsWisest 5 = .ok (.aload_n 0, 1) := by decide +kernel
theorem dX11_tellsWisest_6 : decode cX11_tellsWisest 6 = .ok (.getfield 229, 3) := by decide +kernel
theorem dX11_tellsWisest_9 : decode cX11_tellsWisest 9 = .ok (.i2l, 1) := by decide +kernel
theorem dX11_tellsWisest_10 : decode cX11_tellsWisest 10 = .ok (.lreturn, 1) := by decide +kernel
theorem dX11_tellsWisest_11 : decode cX11_tellsWisest 11 = .ok (.iload_n 2, 1) := by decide +kernel
theorem dX11_tellsWisest_12 : decode cX11_tellsWisest 12 = .ok (.ifCond .ne 8, 3) := by decide +kernel
theorem dX11_tellsWisest_15 : decode cX11_tellsWisest 15 = .ok (.iload_n 3, 1) := by decide +kernel
theorem dX11_tellsWisest_16 : decode cX11_tellsWisest 16 = .ok (.i2l, 1) := by decide +kernel
theorem dX11_tellsWisest_17 : decode cX11_tellsWisest 17 = .ok (.goto 25, 3) := by decide +kernel
theorem dX11_tellsWisest_20 : decode cX11_tellsWisest 20 = .ok (.aload_n 0, 1) := by decide +kernel
theorem dX11_tellsWisest_21 : decode cX11_tellsWisest 21 = .ok (.getfield 59, 3) := by decide +kernel
theorem dX11_tellsWisest_24 : decode cX11_tellsWisest 24 = .ok (.sipush 1024, 3) := by decide +kernel
theorem dX11_tellsWisest_27 : decode cX11_tellsWisest 27 = .ok (.iload_n 1, 1) := by decide +kernel
theorem dX11_tellsWisest_28 : decode cX11_tellsWisest 28 = .ok (.imul, 1) := by decide +kernel
theorem dX11_tellsWisest_29 : decode cX11_tellsWisest 29 = .ok (.iload_n 2, 1) := by decide +kernel
theorem dX11_tellsWisest_30 : decode cX11_tellsWisest 30 = .ok (.iadd, 1) := by decide +kernel
theorem dX11_tellsWisest_31 : decode cX11_tellsWisest 31 = .ok (.laload, 1) := by decide +kernel
theorem dX11_tellsWisest_32 : decode cX11_tellsWisest 32 = .ok (.aload_n 0, 1) := by decide +kernel
theorem dX11_tellsWisest_33 : decode cX11_tellsWisest 33 = .ok (.iload_n 2, 1) := by decide +kernel
theorem dX11_tellsWisest_34 : decode cX11_tellsWisest 34 = .ok (.invokevirtual 183, 3) := by decide +kernel
theorem dX11_tellsWisest_37 : decode cX11_tellsWisest 37 = .ok (.i2l, 1) := by decide +kernel
theorem dX11_tellsWisest_38 : decode cX11_tellsWisest 38 = .ok (.iload_n 3, 1) := by decide +kernel
theorem dX11_tellsWisest_39 : decode cX11_tellsWisest 39 = .ok (.invokestatic 186, 3) := by decide +kernel
theorem dX11_tellsWisest_42 : decode cX11_tellsWisest 42 = .ok (.lreturn, 1) := by decide +kernel
theorem dX11_wisest_0 : decode cX11_wisest 0 = .ok (.aload_n 0, 1) := by decide +kernel
theorem dX11_wisest_1 : decode cX11_wisest 1 = .ok (.invokevirtual 144, 3) := by decide +kernel
theorem dX11_wisest_4 : decode cX11_wisest 4 = .ok (.iload_n 1, 1) := by decide +kernel
theorem dX11_wisest_5 : decode cX11_wisest 5 = .ok (.i2l, 1) := by decide +kernel
theorem dX11_wisest_6 : decode cX11_wisest 6 = .ok (.lconst 0, 1) := by decide +kernel
theorem dX11_wisest_7 : decode cX11_wisest 7 = .ok (.aload_n 0, 1) := by decide +kernel
theorem dX11_wisest_8 : decode cX11_wisest 8 = .ok (.getfield 50, 3) := by decide +kernel
theorem dX11_wisest_11 : decode cX11_wisest 11 = .ok (.iconst 2, 1) := by decide +kernel
theorem dX11_wisest_12 : decode cX11_wisest 12 = .ok (.iaload, 1) := by decide +kernel
theorem dX11_wisest_13 : decode cX11_wisest 13 = .ok (.i2l, 1) := by decide +kernel
theorem dX11_wisest_14 : decode cX11_wisest 14 = .ok (.invokestatic 68, 3) := by decide +kernel
theorem dX11_wisest_17 : decode cX11_wisest 17 = .ok (.ifCond .eq 37, 3) := by decide +kernel
theorem dX11_wisest_20 : decode cX11_wisest 20 = .ok (.iload_n 2, 1) := by decide +kernel
theorem dX11_wisest_21 : decode cX11_wisest 21 = .ok (.i2l, 1) := by decide +kernel
theorem dX11_wisest_22 : decode cX11_wisest 22 = .ok (.lconst 0, 1) := by decide +kernel
theorem dX11_wisest_23 : decode cX11_wisest 23 = .ok (.ldc2_w 249, 3) := by decide +kernel
theorem dX11_wisest_26 : decode cX11_wisest 26 = .ok (.invokestatic 68, 3) := by decide +kernel
theorem dX11_wisest_29 : decode cX11_wisest 29 = .ok (.ifCond .eq 25, 3) := by decide +kernel
theorem dX11_wisest_32 : decode cX11_wisest 32 = .ok (.iload_n 3, 1) := by decide +kernel
theorem dX11_wisest_33 : decode cX11_wisest 33 = .ok (.i2l, 1) := by decide +kernel
theorem dX11_wisest_34 : decode cX11_wisest 34 = .ok (.lconst 0, 1) := by decide +kernel
theorem dX11_wisest_35 : decode cX11_wisest 35 = .ok (.ldc2_w 82, 3) := by decide +kernel
theorem dX11_wisest_38 : decode cX11_wisest 38 = .ok (.invokestatic 68, 3) := by decide +kernel
theorem dX11_wisest_41 : decode cX11_wisest 41 = .ok (.ifCond .eq 13, 3) := by decide +kernel
theorem dX11_wisest_44 : decode cX11_wisest 44 = .ok (.aload_n 0, 1) := by decide +kernel
theorem dX11_wisest_45 : decode cX11_wisest 45 = .ok (.iload_n 1, 1) := by decide +kernel
theorem dX11_wisest_46 : decode cX11_wisest 46 = .ok (.iload_n 2, 1) := by decide +kernel
theorem dX11_wisest_47 : decode cX11_wisest 47 = .ok (.iload_n 3, 1) := by decide +kernel
theorem dX11_wisest_48 : decode cX11_wisest 48 = .ok (.invokevirtual 251, 3) := by decide +kernel
theorem dX11_wisest_51 : decode cX11_wisest 51 = .ok (.goto 8, 3) := by decide +kernel
theorem dX11_wisest_54 : decode cX11_wisest 54 = .ok (.bipush (-2), 2) := by decide +kernel
theorem dX11_wisest_56 : decode cX11_wisest 56 = .ok (.invokestatic 179, 3) := by decide +kernel
theorem dX11_wisest_59 : decode cX11_wisest 59 = .ok (.lreturn, 1) := by decide +kernel
theorem dX11_worstAt_0 : decode cX11_worstAt 0 = .ok (.iconst 0, 1) := by decide +kernel
theorem dX11_worstAt_1 : decode cX11_worstAt 1 = .ok (.istore_n 3, 1) := by decide +kernel
theorem dX11_worstAt_2 : decode cX11_worstAt 2 = .ok (.iconst 0, 1) := by decide +kernel
theorem dX11_worstAt_3 : decode cX11_worstAt 3 = .ok (.istore 4, 2) := by decide +kernel
theorem dX11_worstAt_5 : decode cX11_worstAt 5 = .ok (.iload 4, 2) := by decide +kernel
theorem dX11_worstAt_7 : decode cX11_worstAt 7 = .ok (.bipush 7, 2) := by decide +kernel
theorem dX11_worstAt_9 : decode cX11_worstAt 9 = .ok (.if_icmp .ge 35, 3) := by decide +kernel
theorem dX11_worstAt_12 : decode cX11_worstAt 12 = .ok (.aload_n 0, 1) := by decide +kernel
theorem dX11_worstAt_13 : decode cX11_worstAt 13 = .ok (.iload_n 1, 1) := by decide +kernel
theorem dX11_worstAt_14 : decode cX11_worstAt 14 = .ok (.iload_n 2, 1) := by decide +kernel
theorem dX11_worstAt_15 : decode cX11_worstAt 15 = .ok (.iload 4, 2) := by decide +kernel
theorem dX11_worstAt_17 : decode cX11_worstAt 17 = .ok (.invokevirtual 224, 3) := by decide +kernel
theorem dX11_worstAt_20 : decode cX11_worstAt 20 = .ok (.invokestatic 254, 3) := by decide +kernel
theorem dX11_worstAt_23 : decode cX11_worstAt 23 = .ok (.istore 5, 2) := by decide +kernel
theorem dX11_worstAt_25 : decode cX11_worstAt 25 = .ok (.iload 5, 2) := by decide +kernel
theorem dX11_worstAt_27 : decode cX11_worstAt 27 = .ok (.iload_n 3, 1) := by decide +kernel
theorem dX11_worstAt_28 : decode cX11_worstAt 28 = .ok (.if_icmp .le 8, 3) := by decide +kernel
theorem dX11_worstAt_31 : decode cX11_worstAt 31 = .ok (.iload 5, 2) := by decide +kernel
theorem dX11_worstAt_33 : decode cX11_worstAt 33 = .ok (.goto 4, 3) := by decide +kernel
theorem dX11_worstAt_36 : decode cX11_worstAt 36 = .ok (.iload_n 3, 1) := by decide +kernel
theorem dX11_worstAt_37 : decode cX11_worstAt 37 = .ok (.istore_n 3, 1) := by decide +kernel
theorem dX11_worstAt_38 : decode cX11_worstAt 38 = .ok (.iinc 4 1, 3) := by decide +kernel
theorem dX11_worstAt_41 : decode cX11_worstAt 41 = .ok (.goto (-36), 3) := by decide +kernel
theorem dX11_worstAt_44 : decode cX11_worstAt 44 = .ok (.iload_n 3, 1) := by decide +kernel
theorem dX11_worstAt_45 : decode cX11_worstAt 45 = .ok (.ireturn, 1) := by decide +kernel
theorem dX11_listenOf_0 : decode cX11_listenOf 0 = .ok (.aload_n 0, 1) := by decide +kernel
theorem dX11_listenOf_1 : decode cX11_listenOf 1 = .ok (.invokevirtual 176, 3) := by decide +kernel
theorem dX11_listenOf_4 : decode cX11_listenOf 4 = .ok (.istore_n 2, 1) := by decide +kernel
theorem dX11_listenOf_5 : decode cX11_listenOf 5 = .ok (.iload_n 2, 1) := by decide +kernel
theorem dX11_listenOf_6 : decode cX11_listenOf 6 = .ok (.ifCond .ne 6, 3) := by decide +kernel
theorem dX11_listenOf_9 : decode cX11_listenOf 9 = .ok (.bipush (-3), 2) := by decide +kernel
theorem dX11_listenOf_11 : decode cX11_listenOf 11 = .ok (.ireturn, 1) := by decide +kernel
theorem dX11_listenOf_12 : decode cX11_listenOf 12 = .ok (.iconst 0, 1) := by decide +kernel
theorem dX11_listenOf_13 : decode cX11_listenOf 13 = .ok (.istore_n 3, 1) := by decide +kernel
theorem dX11_listenOf_14 : decode cX11_listenOf 14 = .ok (.iconst 1, 1) := by decide +kernel
theorem dX11_listenOf_15 : decode cX11_listenOf 15 = .ok (.istore 4, 2) := by decide +kernel
theorem dX11_listenOf_17 : decode cX11_listenOf 17 = .ok (.iload 4, 2) := by decide +kernel
theorem dX11_listenOf_19 : decode cX11_listenOf 19 = .ok (.bipush 6, 2) := by decide +kernel
theorem dX11_listenOf_21 : decode cX11_listenOf 21 = .ok (.if_icmp .ge 32, 3) := by decide +kernel
theorem dX11_listenOf_24 : decode cX11_listenOf 24 = .ok (.aload_n 0, 1) := by decide +kernel
theorem dX11_listenOf_25 : decode cX11_listenOf 25 = .ok (.iload_n 2, 1) := by decide +kernel
theorem dX11_listenOf_26 : decode cX11_listenOf 26 = .ok (.iload 4, 2) := by decide +kernel
theorem dX11_listenOf_28 : decode cX11_listenOf 28 = .ok (.invokevirtual 257, 3) := by decide +kernel
theorem dX11_listenOf_31 : decode cX11_listenOf 31 = .ok (.aload_n 0, 1) := by decide +kernel
theorem dX11_listenOf_32 : decode cX11_listenOf 32 = .ok (.iload_n 2, 1) := by decide +kernel
theorem dX11_listenOf_33 : decode cX11_listenOf 33 = .ok (.iload_n 3, 1) := by decide +kernel
theorem dX11_listenOf_34 : decode cX11_listenOf 34 = .ok (.invokevirtual 257, 3) := by decide +kernel
theorem dX11_listenOf_37 : decode cX11_listenOf 37 = .ok (.if_icmp .ge 8, 3) := by decide +kernel
theorem dX11_listenOf_40 : decode cX11_listenOf 40 = .ok (.iload 4, 2) := by decide +kernel
theorem dX11_listenOf_42 : decode cX11_listenOf 42 = .ok (.goto 4, 3) := by decide +kernel
theorem dX11_listenOf_45 : decode cX11_listenOf 45 = .ok (.iload_n 3, 1) := by decide +kernel
theorem dX11_listenOf_46 : decode cX11_listenOf 46 = .ok (.istore_n 3, 1) := by decide +kernel
theorem dX11_listenOf_47 : decode cX11_listenOf 47 = .ok (.iinc 4 1, 3) := by decide +kernel
theorem dX11_listenOf_50 : decode cX11_listenOf 50 = .ok (.goto (-33), 3) := by decide +kernel
theorem dX11_listenOf_53 : decode cX11_listenOf 53 = .ok (.iload_n 1, 1) := by decide +kernel
theorem dX11_listenOf_54 : decode cX11_listenOf 54 = .ok (.ifCond .ne 7, 3) := by decide +kernel
theorem dX11_listenOf_57 : decode cX11_listenOf 57 = .ok (.iload_n 3, 1) := by decide +kernel
theorem dX11_listenOf_58 : decode cX11_listenOf 58 = .ok (.goto 9, 3) := by decide +kernel
theorem dX11_listenOf_61 : decode cX11_listenOf 61 = .ok (.aload_n 0, 1) := by decide +kernel
theorem dX11_listenOf_62 : decode cX11_listenOf 62 = .ok (.iload_n 2, 1) := by decide +kernel
theorem dX11_listenOf_63 : decode cX11_listenOf 63 = .ok (.iload_n 3, 1) := by decide +kernel
theorem dX11_listenOf_64 : decode cX11_listenOf 64 = .ok (.invokevirtual 257, 3) := by decide +kernel
theorem dX11_listenOf_67 : decode cX11_listenOf 67 = .ok (.ireturn, 1) := by decide +kernel
theorem dX11_listen_0 : decode cX11_listen 0 = .ok (.aload_n 0, 1) := by decide +kernel
theorem dX11_listen_1 : decode cX11_listen 1 = .ok (.invokevirtual 144, 3) := by decide +kernel
theorem dX11_listen_4 : decode cX11_listen 4 = .ok (.iload_n 1, 1) := by decide +kernel
theorem dX11_listen_5 : decode cX11_listen 5 = .ok (.invokestatic 190, 3) := by decide +kernel
theorem dX11_listen_8 : decode cX11_listen 8 = .ok (.ifCond .eq 11, 3) := by decide +kernel
theorem dX11_listen_11 : decode cX11_listen 11 = .ok (.aload_n 0, 1) := by decide +kernel
theorem dX11_listen_12 : decode cX11_listen 12 = .ok (.iload_n 1, 1) := by decide +kernel
theorem dX11_listen_13 : decode cX11_listen 13 = .ok (.invokevirtual 260, 3) := by decide +kernel
theorem dX11_listen_16 : decode cX11_listen 16 = .ok (.goto 5, 3) := by decide +kernel
theorem dX11_listen_19 : decode cX11_listen 19 = .ok (.bipush (-2), 2) := by decide +kernel
theorem dX11_listen_21 : decode cX11_listen 21 = .ok (.ireturn, 1) := by decide +kernel
theorem dX11_sureOf_0 : decode cX11_sureOf 0 = .ok (.bipush 99, 2) := by decide +kernel
theorem dX11_sureOf_2 : decode cX11_sureOf 2 = .ok (.istore_n 2, 1) := by decide +kernel
theorem dX11_sureOf_3 : decode cX11_sureOf 3 = .ok (.iconst 0, 1) := by decide +kernel
theorem dX11_sureOf_4 : decode cX11_sureOf 4 = .ok (.istore_n 3, 1) := by decide +kernel
theorem dX11_sureOf_5 : decode cX11_sureOf 5 = .ok (.iload_n 3, 1) := by decide +kernel
theorem dX11_sureOf_6 : decode cX11_sureOf 6 = .ok (.aload_n 0, 1) := by decide +kernel
theorem dX11_sureOf_7 : decode cX11_sureOf 7 = .ok (.getfield 113, 3) := by decide +kernel
theorem dX11_sureOf_10 : decode cX11_sureOf 10 = .ok (.if_icmp .ge 46, 3) := by decide +kernel
theorem dX11_sureOf_13 : decode cX11_sureOf 13 = .ok (.iload_n 1, 1) := by decide +kernel
theorem dX11_sureOf_14 : decode cX11_sureOf 14 = .ok (.iload_n 3, 1) := by decide +kernel
theorem dX11_sureOf_15 : decode cX11_sureOf 15 = .ok (.invokestatic 166, 3) := by decide +kernel
theorem dX11_sureOf_18 : decode cX11_sureOf 18 = .ok (.ifCond .eq 32, 3) := by decide +kernel
theorem dX11_sureOf_21 : decode cX11_sureOf 21 = .ok (.iconst 1, 1) := by decide +kernel
theorem dX11_sureOf_22 : decode cX11_sureOf 22 = .ok (.aload_n 0, 1) := by decide +kernel
theorem dX11_sureOf_23 : decode cX11_sureOf 23 = .ok (.getfield 63, 3) := by decide +kernel
theorem dX11_sureOf_26 : decode cX11_sureOf 26 = .ok (.iload_n 1, 1) := by decide +kernel
theorem dX11_sureOf_27 : decode cX11_sureOf 27 = .ok (.iconst 1, 1) := by decide +kernel
theorem dX11_sureOf_28 : decode cX11_sureOf 28 = .ok (.iload_n 3, 1) := by decide +kernel
theorem dX11_sureOf_29 : decode cX11_sureOf 29 = .ok (.ishl, 1) := by decide +kernel
theorem dX11_sureOf_30 : decode cX11_sureOf 30 = .ok (.iconst (-1), 1) := by decide +kernel
theorem dX11_sureOf_31 : decode cX11_sureOf 31 = .ok (.ixor, 1) := by decide +kernel
theorem dX11_sureOf_32 : decode cX11_sureOf 32 = .ok (.iand, 1) := by decide +kernel
theorem dX11_sureOf_33 : decode cX11_sureOf 33 = .ok (.iaload, 1) := by decide +kernel
theorem dX11_sureOf_34 : decode cX11_sureOf 34 = .ok (.iadd, 1) := by decide +kernel
theorem dX11_sureOf_35 : decode cX11_sureOf 35 = .ok (.istore 4, 2) := by decide +kernel
theorem dX11_sureOf_37 : decode cX11_sureOf 37 = .ok (.iload 4, 2) := by decide +kernel
theorem dX11_sureOf_39 : decode cX11_sureOf 39 = .ok (.iload_n 2, 1) := by decide +kernel
theorem dX11_sureOf_40 : decode cX11_sureOf 40 = .ok (.if_icmp .ge 8, 3) := by decide +kernel
theorem dX11_sureOf_43 : decode cX11_sureOf 43 = .ok (.iload 4, 2) := by decide +kernel
theorem dX11_sureOf_45 : decode cX11_sureOf 45 = .ok (.goto 4, 3) := by decide +kernel
theorem dX11_sureOf_48 : decode cX11_sureOf 48 = .ok (.iload_n 2, 1) := by decide +kernel
theorem dX11_sureOf_49 : decode cX11_sureOf 49 = .ok (.istore_n 2, 1) := by decide +kernel
theorem dX11_sureOf_50 : decode cX11_sureOf 50 = .ok (.iinc 3 1, 3) := by decide +kernel
theorem dX11_sureOf_53 : decode cX11_sureOf 53 = .ok (.goto (-48), 3) := by decide +kernel
theorem dX11_sureOf_56 : decode cX11_sureOf 56 = .ok (.iconst 0, 1) := by decide +kernel
theorem dX11_sureOf_57 : decode cX11_sureOf 57 = .ok (.istore_n 3, 1) := by decide +kernel
theorem dX11_sureOf_58 : decode cX11_sureOf 58 = .ok (.iload_n 3, 1) := by decide +kernel
theorem dX11_sureOf_59 : decode cX11_sureOf 59 = .ok (.bipush 6, 2) := by decide +kernel
theorem dX11_sureOf_61 : decode cX11_sureOf 61 = .ok (.if_icmp .ge 91, 3) := by decide +kernel
theorem dX11_sureOf_64 : decode cX11_sureOf 64 = .ok (.iconst 0, 1) := by decide +kernel
theorem dX11_sureOf_65 : decode cX11_sureOf 65 = .ok (.istore 4, 2) := by decide +kernel
theorem dX11_sureOf_67 : decode cX11_sureOf 67 = .ok (.iconst 0, 1) := by decide +kernel
theorem dX11_sureOf_68 : decode cX11_sureOf 68 = .ok (.istore 5, 2) := by decide +kernel
theorem dX11_sureOf_70 : decode cX11_sureOf 70 = .ok (.iload 5, 2) := by decide +kernel
theorem dX11_sureOf_72 : decode cX11_sureOf 72 = .ok (.bipush 7, 2) := by decide +kernel
theorem dX11_sureOf_74 : decode cX11_sureOf 74 = .ok (.if_icmp .ge 55, 3) := by decide +kernel
theorem dX11_sureOf_77 : decode cX11_sureOf 77 = .ok (.aload_n 0, 1) := by decide +kernel
theorem dX11_sureOf_78 : decode cX11_sureOf 78 = .ok (.iload_n 1, 1) := by decide +kernel
theorem dX11_sureOf_79 : decode cX11_sureOf 79 = .ok (.iload_n 3, 1) := by decide +kernel
theorem dX11_sureOf_80 : decode cX11_sureOf 80 = .ok (.iload 5, 2) := by decide +kernel
theorem dX11_sureOf_82 : decode cX11_sureOf 82 = .ok (.invokevirtual 224, 3) := by decide +kernel
theorem dX11_sureOf_85 : decode cX11_sureOf 85 = .ok (.istore 6, 2) := by decide +kernel
theorem dX11_sureOf_87 : decode cX11_sureOf 87 = .ok (.iload 6, 2) := by decide +kernel
theorem dX11_sureOf_89 : decode cX11_sureOf 89 = .ok (.iload_n 1, 1) := by decide +kernel
theorem dX11_sureOf_90 : decode cX11_sureOf 90 = .ok (.if_icmp .ne 8, 3) := by decide +kernel
theorem dX11_sureOf_93 : decode cX11_sureOf 93 = .ok (.bipush 99, 2) := by decide +kernel
theorem dX11_sureOf_95 : decode cX11_sureOf 95 = .ok (.goto 10, 3) := by decide +kernel
theorem dX11_sureOf_98 : decode cX11_sureOf 98 = .ok (.aload_n 0, 1) := by decide +kernel
theorem dX11_sureOf_99 : decode cX11_sureOf 99 = .ok (.getfield 63, 3) := by decide +kernel
theorem dX11_sureOf_102 : decode cX11_sureOf 102 = .ok (.iload 6, 2) := by decide +kernel
theorem dX11_sureOf_104 : decode cX11_sureOf 104 = .ok (.iaload, 1) := by decide +kernel
theorem dX11_sureOf_105 : decode cX11_sureOf 105 = .ok (.istore 7, 2) := by decide +kernel
theorem dX11_sureOf_107 : decode cX11_sureOf 107 = .ok (.iload 7, 2) := by decide +kernel
theorem dX11_sureOf_109 : decode cX11_sureOf 109 = .ok (.iload 4, 2) := by decide +kernel
theorem dX11_sureOf_111 : decode cX11_sureOf 111 = .ok (.if_icmp .le 8, 3) := by decide +kernel
theorem dX11_sureOf_114 : decode cX11_sureOf 114 = .ok (.iload 7, 2) := by decide +kernel
theorem dX11_sureOf_116 : decode cX11_sureOf 116 = .ok (.goto 5, 3) := by decide +kernel
theorem dX11_sureOf_119 : decode cX11_sureOf 119 = .ok (.iload 4, 2) := by decide +kernel
theorem dX11_sureOf_121 : decode cX11_sureOf 121 = .ok (.istore 4, 2) := by decide +kernel
theorem dX11_sureOf_123 : decode cX11_sureOf 123 = .ok (.iinc 5 1, 3) := by decide +kernel
theorem dX11_sureOf_126 : decode cX11_sureOf 126 = .ok (.goto (-56), 3) := by decide +kernel
theorem dX11_sureOf_129 : decode cX11_sureOf 129 = .ok (.iconst 1, 1) := by decide +kernel
theorem dX11_sureOf_130 : decode cX11_sureOf 130 = .ok (.iload 4, 2) := by decide +kernel
theorem dX11_sureOf_132 : decode cX11_sureOf 132 = .ok (.iadd, 1) := by decide +kernel
theorem dX11_sureOf_133 : decode cX11_sureOf 133 = .ok (.iload_n 2, 1) := by decide +kernel
theorem dX11_sureOf_134 : decode cX11_sureOf 134 = .ok (.if_icmp .ge 10, 3) := by decide +kernel
theorem dX11_sureOf_137 : decode cX11_sureOf 137 = .ok (.iconst 1, 1) := by decide +kernel
theorem dX11_sureOf_138 : decode cX11_sureOf 138 = .ok (.iload 4, 2) := by decide +kernel
theorem dX11_sureOf_140 : decode cX11_sureOf 140 = .ok (.iadd, 1) := by decide +kernel
theorem dX11_sureOf_141 : decode cX11_sureOf 141 = .ok (.goto 4, 3) := by decide +kernel
theorem dX11_sureOf_144 : decode cX11_sureOf 144 = .ok (.iload_n 2, 1) := by decide +kernel
theorem dX11_sureOf_145 : decode cX11_sureOf 145 = .ok (.istore_n 2, 1) := by decide +kernel
theorem dX11_sureOf_146 : decode cX11_sureOf 146 = .ok (.iinc 3 1, 3) := by decide +kernel
theorem dX11_sureOf_149 : decode cX11_sureOf 149 = .ok (.goto (-91), 3) := by decide +kernel
theorem dX11_sureOf_152 : decode cX11_sureOf 152 = .ok (.iload_n 2, 1) := by decide +kernel
theorem dX11_sureOf_153 : decode cX11_sureOf 153 = .ok (.ireturn, 1) := by decide +kernel
theorem dX11_sureNow_0 : decode cX11_sureNow 0 = .ok (.aload_n 0, 1) := by decide +kernel
theorem dX11_sureNow_1 : decode cX11_sureNow 1 = .ok (.invokevirtual 176, 3) := by decide +kernel
theorem dX11_sureNow_4 : decode cX11_sureNow 4 = .ok (.istore_n 1, 1) := by decide +kernel
theorem dX11_sureNow_5 : decode cX11_sureNow 5 = .ok (.aload_n 0, 1) := by decide +kernel
theorem dX11_sureNow_6 : decode cX11_sureNow 6 = .ok (.getfield 63, 3) := by decide +kernel
theorem dX11_sureNow_9 : decode cX11_sureNow 9 = .ok (.iconst 0, 1) := by decide +kernel
theorem dX11_sureNow_10 : decode cX11_sureNow 10 = .ok (.iconst 0, 1) := by decide +kernel
theorem dX11_sureNow_11 : decode cX11_sureNow 11 = .ok (.iastore, 1) := by decide +kernel
theorem dX11_sureNow_12 : decode cX11_sureNow 12 = .ok (.iconst 1, 1) := by decide +kernel
theorem dX11_sureNow_13 : decode cX11_sureNow 13 = .ok (.istore_n 2, 1) := by decide +kernel
theorem dX11_sureNow_14 : decode cX11_sureNow 14 = .ok (.iload_n 2, 1) := by decide +kernel
theorem dX11_sureNow_15 : decode cX11_sureNow 15 = .ok (.iload_n 1, 1) := by decide +kernel
theorem dX11_sureNow_16 : decode cX11_sureNow 16 = .ok (.if_icmp .gt 28, 3) := by decide +kernel
theorem dX11_sureNow_19 : decode cX11_sureNow 19 = .ok (.iload_n 2, 1) := by decide +kernel
theorem dX11_sureNow_20 : decode cX11_sureNow 20 = .ok (.iload_n 1, 1) := by decide +kernel
theorem dX11_sureNow_21 : decode cX11_sureNow 21 = .ok (.iconst (-1), 1) := by decide +kernel
theorem dX11_sureNow_22 : decode cX11_sureNow 22 = .ok (.ixor, 1) := by decide +kernel
theorem dX11_sureNow_23 : decode cX11_sureNow 23 = .ok (.iand, 1) := by decide +kernel
theorem dX11_sureNow_24 : decode cX11_sureNow 24 = .ok (.ifCond .ne 14, 3) := by decide +kernel
theorem dX11_sureNow_27 : decode cX11_sureNow 27 = .ok (.aload_n 0, 1) := by decide +kernel
theorem dX11_sureNow_28 : decode cX11_sureNow 28 = .ok (.getfield 63, 3) := by decide +kernel
theorem dX11_sureNow_31 : decode cX11_sureNow 31 = .ok (.iload_n 2, 1) := by decide +kernel
theorem dX11_sureNow_32 : decode cX11_sureNow 32 = .ok (.aload_n 0, 1) := by decide +kernel
theorem dX11_sureNow_33 : decode cX11_sureNow 33 = .ok (.iload_n 2, 1) := by decide +kernel
theorem dX11_sureNow_34 : decode cX11_sureNow 34 = .ok (.invokevirtual 263, 3) := by decide +kernel
theorem dX11_sureNow_37 : decode cX11_sureNow 37 = .ok (.iastore, 1) := by decide +kernel
theorem dX11_sureNow_38 : decode cX11_sureNow 38 = .ok (.iinc 2 1, 3) := by decide +kernel
theorem dX11_sureNow_41 : decode cX11_sureNow 41 = .ok (.goto (-27), 3) := by decide +kernel
theorem dX11_sureNow_44 : decode cX11_sureNow 44 = .ok (.aload_n 0, 1) := by decide +kernel
theorem dX11_sureNow_45 : decode cX11_sureNow 45 = .ok (.getfield 63, 3) := by decide +kernel
theorem dX11_sureNow_48 : decode cX11_sureNow 48 = .ok (.iload_n 1, 1) := by decide +kernel
theorem dX11_sureNow_49 : decode cX11_sureNow 49 = .ok (.iaload, 1) := by decide +kernel
theorem dX11_sureNow_50 : decode cX11_sureNow 50 = .ok (.ireturn, 1) := by decide +kernel
theorem dX11_sure_0 : decode cX11_sure 0 = .ok (.aload_n 0, 1) := by decide +kernel
theorem dX11_sure_1 : decode cX11_sure 1 = .ok (.invokevirtual 144, 3) := by decide +kernel
theorem dX11_sure_4 : decode cX11_sure 4 = .ok (.aload_n 0, 1) := by decide +kernel
theorem dX11_sure_5 : decode cX11_sure 5 = .ok (.invokevirtual 266, 3) := by decide +kernel
theorem dX11_sure_8 : decode cX11_sure 8 = .ok (.ireturn, 1) := by decide +kernel
theorem dX11_spunOf_0 : decode cX11_spunOf 0 = .ok (.aload_n 0, 1) := by decide +kernel
theorem dX11_spunOf_1 : decode cX11_spunOf 1 = .ok (.invokevirtual 176, 3) := by decide +kernel
theorem dX11_spunOf_4 : decode cX11_spunOf 4 = .ok (.istore_n 2, 1) := by decide +kernel
theorem dX11_spunOf_5 : decode cX11_spunOf 5 = .ok (.aload_n 0, 1) := by decide +kernel
theorem dX11_spunOf_6 : decode cX11_spunOf 6 = .ok (.iconst 0, 1) := by decide +kernel
theorem dX11_spunOf_7 : decode cX11_spunOf 7 = .ok (.iload_n 2, 1) := by decide +kernel
theorem dX11_spunOf_8 : decode cX11_spunOf 8 = .ok (.invokevirtual 243, 3) := by decide +kernel
theorem dX11_spunOf_11 : decode cX11_spunOf 11 = .ok (.aload_n 0, 1) := by decide +kernel
theorem dX11_spunOf_12 : decode cX11_spunOf 12 = .ok (.iload_n 1, 1) := by decide +kernel
theorem dX11_spunOf_13 : decode cX11_spunOf 13 = .ok (.iload_n 2, 1) := by decide +kernel
theorem dX11_spunOf_14 : decode cX11_spunOf 14 = .ok (.invokevirtual 269, 3) := by decide +kernel
theorem dX11_spunOf_17 : decode cX11_spunOf 17 = .ok (.ireturn, 1) := by decide +kernel
theorem dX11_spunBy_0 : decode cX11_spunBy 0 = .ok (.iload_n 2, 1) := by decide +kernel
theorem dX11_spunBy_1 : decode cX11_spunBy 1 = .ok (.ifCond .ne 8, 3) := by decide +kernel
theorem dX11_spunBy_4 : decode cX11_spunBy 4 = .ok (.bipush (-3), 2) := by decide +kernel
theorem dX11_spunBy_6 : decode cX11_spunBy 6 = .ok (.goto 27, 3) := by decide +kernel
theorem dX11_spunBy_9 : decode cX11_spunBy 9 = .ok (.iload_n 1, 1) := by decide +kernel
theorem dX11_spunBy_10 : decode cX11_spunBy 10 = .ok (.i2l, 1) := by decide +kernel
theorem dX11_spunBy_11 : decode cX11_spunBy 11 = .ok (.aload_n 0, 1) := by decide +kernel
theorem dX11_spunBy_12 : decode cX11_spunBy 12 = .ok (.iload_n 2, 1) := by decide +kernel
theorem dX11_spunBy_13 : decode cX11_spunBy 13 = .ok (.invokevirtual 183, 3) := by decide +kernel
theorem dX11_spunBy_16 : decode cX11_spunBy 16 = .ok (.i2l, 1) := by decide +kernel
theorem dX11_spunBy_17 : decode cX11_spunBy 17 = .ok (.lmul, 1) := by decide +kernel
theorem dX11_spunBy_18 : decode cX11_spunBy 18 = .ok (.aload_n 0, 1) := by decide +kernel
theorem dX11_spunBy_19 : decode cX11_spunBy 19 = .ok (.getfield 59, 3) := by decide +kernel
theorem dX11_spunBy_22 : decode cX11_spunBy 22 = .ok (.iload_n 2, 1) := by decide +kernel
theorem dX11_spunBy_23 : decode cX11_spunBy 23 = .ok (.laload, 1) := by decide +kernel
theorem dX11_spunBy_24 : decode cX11_spunBy 24 = .ok (.lcmp, 1) := by decide +kernel
theorem dX11_spunBy_25 : decode cX11_spunBy 25 = .ok (.ifCond .lt 7, 3) := by decide +kernel
theorem dX11_spunBy_28 : decode cX11_spunBy 28 = .ok (.iconst 1, 1) := by decide +kernel
theorem dX11_spunBy_29 : decode cX11_spunBy 29 = .ok (.goto 4, 3) := by decide +kernel
theorem dX11_spunBy_32 : decode cX11_spunBy 32 = .ok (.iconst 0, 1) := by decide +kernel
theorem dX11_spunBy_33 : decode cX11_spunBy 33 = .ok (.ireturn, 1) := by decide +kernel
theorem dX11_spun_0 : decode cX11_spun 0 = .ok (.aload_n 0, 1) := by decide +kernel
theorem dX11_spun_1 : decode cX11_spun 1 = .ok (.invokevirtual 144, 3) := by decide +kernel
theorem dX11_spun_4 : decode cX11_spun 4 = .ok (.iload_n 1, 1) := by decide +kernel
theorem dX11_spun_5 : decode cX11_spun 5 = .ok (.i2l, 1) := by decide +kernel
theorem dX11_spun_6 : decode cX11_spun 6 = .ok (.lconst 0, 1) := by decide +kernel
theorem dX11_spun_7 : decode cX11_spun 7 = .ok (.ldc2_w 272, 3) := by decide +kernel
theorem dX11_spun_10 : decode cX11_spun 10 = .ok (.invokestatic 68, 3) := by decide +kernel
theorem dX11_spun_13 : decode cX11_spun 13 = .ok (.ifCond .eq 11, 3) := by decide +kernel
theorem dX11_spun_16 : decode cX11_spun 16 = .ok (.aload_n 0, 1) := by decide +kernel
theorem dX11_spun_17 : decode cX11_spun 17 = .ok (.iload_n 1, 1) := by decide +kernel
theorem dX11_spun_18 : decode cX11_spun 18 = .ok (.invokevirtual 274, 3) := by decide +kernel
theorem dX11_spun_21 : decode cX11_spun 21 = .ok (.goto 5, 3) := by decide +kernel
theorem dX11_spun_24 : decode cX11_spun 24 = .ok (.bipush (-2), 2) := by decide +kernel
theorem dX11_spun_26 : decode cX11_spun 26 = .ok (.ireturn, 1) := by decide +kernel
theorem dX11_poolOf_0 : decode cX11_poolOf 0 = .ok (.aload_n 0, 1) := by decide +kernel
theorem dX11_poolOf_1 : decode cX11_poolOf 1 = .ok (.iload_n 3, 1) := by decide +kernel
theorem dX11_poolOf_2 : decode cX11_poolOf 2 = .ok (.ifCond .ne 7, 3) := by decide +kernel
theorem dX11_poolOf_5 : decode cX11_poolOf 5 = .ok (.iload_n 1, 1) := by decide +kernel
theorem dX11_poolOf_6 : decode cX11_poolOf 6 = .ok (.goto 15, 3) := by decide +kernel
theorem dX11_poolOf_9 : decode cX11_poolOf 9 = .ok (.iload_n 3, 1) := by decide +kernel
theorem dX11_poolOf_10 : decode cX11_poolOf 10 = .ok (.iconst 1, 1) := by decide +kernel
theorem dX11_poolOf_11 : decode cX11_poolOf 11 = .ok (.if_icmp .ne 7, 3) := by decide +kernel
theorem dX11_poolOf_14 : decode cX11_poolOf 14 = .ok (.iload_n 2, 1) := by decide +kernel
theorem dX11_poolOf_15 : decode cX11_poolOf 15 = .ok (.goto 6, 3) := by decide +kernel
theorem dX11_poolOf_18 : decode cX11_poolOf 18 = .ok (.iload_n 1, 1) := by decide +kernel
theorem dX11_poolOf_19 : decode cX11_poolOf 19 = .ok (.iload_n 2, 1) := by decide +kernel
theorem dX11_poolOf_20 : decode cX11_poolOf 20 = .ok (.ior, 1) := by decide +kernel
theorem dX11_poolOf_21 : decode cX11_poolOf 21 = .ok (.invokevirtual 173, 3) := by decide +kernel
theorem dX11_poolOf_24 : decode cX11_poolOf 24 = .ok (.invokestatic 254, 3) := by decide +kernel
theorem dX11_poolOf_27 : decode cX11_poolOf 27 = .ok (.ireturn, 1) := by decide +kernel
theorem dX11_pool_0 : decode cX11_pool 0 = .ok (.aload_n 0, 1) := by decide +kernel
theorem dX11_pool_1 : decode cX11_pool 1 = .ok (.invokevirtual 144, 3) := by decide +kernel
theorem dX11_pool_4 : decode cX11_pool 4 = .ok (.iload_n 1, 1) := by decide +kernel
theorem dX11_pool_5 : decode cX11_pool 5 = .ok (.i2l, 1) := by decide +kernel
theorem dX11_pool_6 : decode cX11_pool 6 = .ok (.lconst 0, 1) := by decide +kernel
theorem dX11_pool_7 : decode cX11_pool 7 = .ok (.ldc2_w 277, 3) := by decide +kernel
theorem dX11_pool_10 : decode cX11_pool 10 = .ok (.invokestatic 68, 3) := by decide +kernel
theorem dX11_pool_13 : decode cX11_pool 13 = .ok (.ifCond .eq 37, 3) := by decide +kernel
theorem dX11_pool_16 : decode cX11_pool 16 = .ok (.iload_n 2, 1) := by decide +kernel
theorem dX11_pool_17 : decode cX11_pool 17 = .ok (.i2l, 1) := by decide +kernel
theorem dX11_pool_18 : decode cX11_pool 18 = .ok (.lconst 0, 1) := by decide +kernel
theorem dX11_pool_19 : decode cX11_pool 19 = .ok (.ldc2_w 277, 3) := by decide +kernel
theorem dX11_pool_22 : decode cX11_pool 22 = .ok (.invokestatic 68, 3) := by decide +kernel
theorem dX11_pool_25 : decode cX11_pool 25 = .ok (.ifCond .eq 25, 3) := by decide +kernel
theorem dX11_pool_28 : decode cX11_pool 28 = .ok (.iload_n 3, 1) := by decide +kernel
theorem dX11_pool_29 : decode cX11_pool 29 = .ok (.i2l, 1) := by decide +kernel
theorem dX11_pool_30 : decode cX11_pool 30 = .ok (.lconst 0, 1) := by decide +kernel
theorem dX11_pool_31 : decode cX11_pool 31 = .ok (.ldc2_w 82, 3) := by decide +kernel
theorem dX11_pool_34 : decode cX11_pool 34 = .ok (.invokestatic 68, 3) := by decide +kernel
theorem dX11_pool_37 : decode cX11_pool 37 = .ok (.ifCond .eq 13, 3) := by decide +kernel
theorem dX11_pool_40 : decode cX11_pool 40 = .ok (.aload_n 0, 1) := by decide +kernel
theorem dX11_pool_41 : decode cX11_pool 41 = .ok (.iload_n 1, 1) := by decide +kernel
theorem dX11_pool_42 : decode cX11_pool 42 = .ok (.iload_n 2, 1) := by decide +kernel
theorem dX11_pool_43 : decode cX11_pool 43 = .ok (.iload_n 3, 1) := by decide +kernel
theorem dX11_pool_44 : decode cX11_pool 44 = .ok (.invokevirtual 279, 3) := by decide +kernel
theorem dX11_pool_47 : decode cX11_pool 47 = .ok (.goto 5, 3) := by decide +kernel
theorem dX11_pool_50 : decode cX11_pool 50 = .ok (.bipush (-2), 2) := by decide +kernel
theorem dX11_pool_52 : decode cX11_pool 52 = .ok (.ireturn, 1) := by decide +kernel
theorem dX11_shortestOf_0 : decode cX11_shortestOf 0 = .ok (.aload_n 0, 1) := by decide +kernel
theorem dX11_shortestOf_1 : decode cX11_shortestOf 1 = .ok (.invokevirtual 176, 3) := by decide +kernel
theorem dX11_shortestOf_4 : decode cX11_shortestOf 4 = .ok (.istore_n 2, 1) := by decide +kernel
theorem dX11_shortestOf_5 : decode cX11_shortestOf 5 = .ok (.iconst (-1), 1) := by decide +kernel
theorem dX11_shortestOf_6 : decode cX11_shortestOf 6 = .ok (.istore_n 3, 1) := by decide +kernel
theorem dX11_shortestOf_7 : decode cX11_shortestOf 7 = .ok (.iconst 0, 1) := by decide +kernel
theorem dX11_shortestOf_8 : decode cX11_shortestOf 8 = .ok (.istore 4, 2) := by decide +kernel
theorem dX11_shortestOf_10 : decode cX11_shortestOf 10 = .ok (.iload 4, 2) := by decide +kernel
theorem dX11_shortestOf_12 : decode cX11_shortestOf 12 = .ok (.iconst 1, 1) := by decide +kernel
theorem dX11_shortestOf_13 : decode cX11_shortestOf 13 = .ok (.aload_n 0, 1) := by decide +kernel
theorem dX11_shortestOf_14 : decode cX11_shortestOf 14 = .ok (.getfield 125, 3) := by decide +kernel
theorem dX11_shortestOf_17 : decode cX11_shortestOf 17 = .ok (.ishl, 1) := by decide +kernel
theorem dX11_shortestOf_18 : decode cX11_shortestOf 18 = .ok (.if_icmp .ge 55, 3) := by decide +kernel
theorem dX11_shortestOf_21 : decode cX11_shortestOf 21 = .ok (.iload_n 3, 1) := by decide +kernel
theorem dX11_shortestOf_22 : decode cX11_shortestOf 22 = .ok (.iconst (-1), 1) := by decide +kernel
theorem dX11_shortestOf_23 : decode cX11_shortestOf 23 = .ok (.if_icmp .eq 15, 3) := by decide +kernel
theorem dX11_shortestOf_26 : decode cX11_shortestOf 26 = .ok (.iload 4, 2) := by decide +kernel
theorem dX11_shortestOf_28 : decode cX11_shortestOf 28 = .ok (.invokestatic 254, 3) := by decide +kernel
theorem dX11_shortestOf_31 : decode cX11_shortestOf 31 = .ok (.iload_n 3, 1) := by decide +kernel
theorem dX11_shortestOf_32 : decode cX11_shortestOf 32 = .ok (.invokestatic 254, 3) := by decide +kernel
theorem dX11_shortestOf_35 : decode cX11_shortestOf 35 = .ok (.if_icmp .ge 7, 3) := by decide +kernel
theorem dX11_shortestOf_38 : decode cX11_shortestOf 38 = .ok (.iconst 1, 1) := by decide +kernel
theorem dX11_shortestOf_39 : decode cX11_shortestOf 39 = .ok (.goto 4, 3) := by decide +kernel
theorem dX11_shortestOf_42 : decode cX11_shortestOf 42 = .ok (.iconst 0, 1) := by decide +kernel
theorem dX11_shortestOf_43 : decode cX11_shortestOf 43 = .ok (.istore 5, 2) := by decide +kernel
theorem dX11_shortestOf_45 : decode cX11_shortestOf 45 = .ok (.iload 5, 2) := by decide +kernel
theorem dX11_shortestOf_47 : decode cX11_shortestOf 47 = .ok (.ifCond .eq 18, 3) := by decide +kernel
theorem dX11_shortestOf_50 : decode cX11_shortestOf 50 = .ok (.aload_n 0, 1) := by decide +kernel
theorem dX11_shortestOf_51 : decode cX11_shortestOf 51 = .ok (.iload 4, 2) := by decide +kernel
theorem dX11_shortestOf_53 : decode cX11_shortestOf 53 = .ok (.invokevirtual 173, 3) := by decide +kernel
theorem dX11_shortestOf_56 : decode cX11_shortestOf 56 = .ok (.iload_n 2, 1) := by decide +kernel
theorem dX11_shortestOf_57 : decode cX11_shortestOf 57 = .ok (.if_icmp .ne 8, 3) := by decide +kernel
theorem dX11_shortestOf_60 : decode cX11_shortestOf 60 = .ok (.iload 4, 2) := by decide +kernel
theorem dX11_shortestOf_62 : decode cX11_shortestOf 62 = .ok (.goto 4, 3) := by decide +kernel
theorem dX11_shortestOf_65 : decode cX11_shortestOf 65 = .ok (.iload_n 3, 1) := by decide +kernel
theorem dX11_shortestOf_66 : decode cX11_shortestOf 66 = .ok (.istore_n 3, 1) := by decide +kernel
theorem dX11_shortestOf_67 : decode cX11_shortestOf 67 = .ok (.iinc 4 1, 3) := by decide +kernel
theorem dX11_shortestOf_70 : decode cX11_shortestOf 70 = .ok (.goto (-60), 3) := by decide +kernel
theorem dX11_shortestOf_73 : decode cX11_shortestOf 73 = .ok (.iload_n 1, 1) := by decide +kernel
theorem dX11_shortestOf_74 : decode cX11_shortestOf 74 = .ok (.ifCond .ne 10, 3) := by decide +kernel
theorem dX11_shortestOf_77 : decode cX11_shortestOf 77 = .ok (.iload_n 3, 1) := by decide +kernel
theorem dX11_shortestOf_78 : decode cX11_shortestOf 78 = .ok (.invokestatic 254, 3) := by decide +kernel
theorem dX11_shortestOf_81 : decode cX11_shortestOf 81 = .ok (.goto 4, 3) := by decide +kernel
theorem dX11_shortestOf_84 : decode cX11_shortestOf 84 = .ok (.iload_n 3, 1) := by decide +kernel
theorem dX11_shortestOf_85 : decode cX11_shortestOf 85 = .ok (.ireturn, 1) := by decide +kernel
theorem dX11_shortest_0 : decode cX11_shortest 0 = .ok (.aload_n 0, 1) := by decide +kernel
theorem dX11_shortest_1 : decode cX11_shortest 1 = .ok (.invokevirtual 144, 3) := by decide +kernel
theorem dX11_shortest_4 : decode cX11_shortest 4 = .ok (.iload_n 1, 1) := by decide +kernel
theorem dX11_shortest_5 : decode cX11_shortest 5 = .ok (.invokestatic 190, 3) := by decide +kernel
theorem dX11_shortest_8 : decode cX11_shortest 8 = .ok (.ifCond .eq 11, 3) := by decide +kernel
theorem dX11_shortest_11 : decode cX11_shortest 11 = .ok (.aload_n 0, 1) := by decide +kernel
theorem dX11_shortest_12 : decode cX11_shortest 12 = .ok (.iload_n 1, 1) := by decide +kernel
