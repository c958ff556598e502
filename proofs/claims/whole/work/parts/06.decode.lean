theorem dX10_digest_83 : decode cX10_digest 83 = .ok (.iinc 3 1, 3) := by decide +kernel
theorem dX10_digest_86 : decode cX10_digest 86 = .ok (.goto (-21), 3) := by decide +kernel
theorem dX10_digest_89 : decode cX10_digest 89 = .ok (.iconst 0, 1) := by decide +kernel
theorem dX10_digest_90 : decode cX10_digest 90 = .ok (.istore_n 3, 1) := by decide +kernel
theorem dX10_digest_91 : decode cX10_digest 91 = .ok (.iload_n 3, 1) := by decide +kernel
theorem dX10_digest_92 : decode cX10_digest 92 = .ok (.aload_n 0, 1) := by decide +kernel
theorem dX10_digest_93 : decode cX10_digest 93 = .ok (.getfield 28, 3) := by decide +kernel
theorem dX10_digest_96 : decode cX10_digest 96 = .ok (.invokevirtual 289, 3) := by decide +kernel
theorem dX10_digest_99 : decode cX10_digest 99 = .ok (.if_icmp .ge 20, 3) := by decide +kernel
theorem dX10_digest_102 : decode cX10_digest 102 = .ok (.lload_n 1, 1) := by decide +kernel
theorem dX10_digest_103 : decode cX10_digest 103 = .ok (.aload_n 0, 1) := by decide +kernel
theorem dX10_digest_104 : decode cX10_digest 104 = .ok (.iload_n 3, 1) := by decide +kernel
theorem dX10_digest_105 : decode cX10_digest 105 = .ok (.invokevirtual 314, 3) := by decide +kernel
theorem dX10_digest_108 : decode cX10_digest 108 = .ok (.i2l, 1) := by decide +kernel
theorem dX10_digest_109 : decode cX10_digest 109 = .ok (.invokestatic 300, 3) := by decide +kernel
theorem dX10_digest_112 : decode cX10_digest 112 = .ok (.lstore_n 1, 1) := by decide +kernel
theorem dX10_digest_113 : decode cX10_digest 113 = .ok (.iinc 3 1, 3) := by decide +kernel
theorem dX10_digest_116 : decode cX10_digest 116 = .ok (.goto (-25), 3) := by decide +kernel
theorem dX10_digest_119 : decode cX10_digest 119 = .ok (.aload_n 0, 1) := by decide +kernel
theorem dX10_digest_120 : decode cX10_digest 120 = .ok (.aload_n 0, 1) := by decide +kernel
theorem dX10_digest_121 : decode cX10_digest 121 = .ok (.lload_n 1, 1) := by decide +kernel
theorem dX10_digest_122 : decode cX10_digest 122 = .ok (.invokevirtual 317, 3) := by decide +kernel
theorem dX10_digest_125 : decode cX10_digest 125 = .ok (.invokevirtual 321, 3) := by decide +kernel
theorem dX10_digest_128 : decode cX10_digest 128 = .ok (.lreturn, 1) := by decide +kernel
theorem dX10_mixName_0 : decode cX10_mixName 0 = .ok (.lload_n 1, 1) := by decide +kernel
theorem dX10_mixName_1 : decode cX10_mixName 1 = .ok (.aload_n 0, 1) := by decide +kernel
theorem dX10_mixName_2 : decode cX10_mixName 2 = .ok (.iload_n 3, 1) := by decide +kernel
theorem dX10_mixName_3 : decode cX10_mixName 3 = .ok (.bipush (-2), 2) := by decide +kernel
theorem dX10_mixName_5 : decode cX10_mixName 5 = .ok (.invokevirtual 324, 3) := by decide +kernel
theorem dX10_mixName_8 : decode cX10_mixName 8 = .ok (.i2l, 1) := by decide +kernel
theorem dX10_mixName_9 : decode cX10_mixName 9 = .ok (.invokestatic 300, 3) := by decide +kernel
theorem dX10_mixName_12 : decode cX10_mixName 12 = .ok (.lstore 4, 2) := by decide +kernel
theorem dX10_mixName_14 : decode cX10_mixName 14 = .ok (.lload 4, 2) := by decide +kernel
theorem dX10_mixName_16 : decode cX10_mixName 16 = .ok (.aload_n 0, 1) := by decide +kernel
theorem dX10_mixName_17 : decode cX10_mixName 17 = .ok (.iload_n 3, 1) := by decide +kernel
theorem dX10_mixName_18 : decode cX10_mixName 18 = .ok (.iconst (-1), 1) := by decide +kernel
theorem dX10_mixName_19 : decode cX10_mixName 19 = .ok (.invokevirtual 324, 3) := by decide +kernel
theorem dX10_mixName_22 : decode cX10_mixName 22 = .ok (.i2l, 1) := by decide +kernel
theorem dX10_mixName_23 : decode cX10_mixName 23 = .ok (.invokestatic 300, 3) := by decide +kernel
theorem dX10_mixName_26 : decode cX10_mixName 26 = .ok (.lstore 4, 2) := by decide +kernel
theorem dX10_mixName_28 : decode cX10_mixName 28 = .ok (.lload 4, 2) := by decide +kernel
theorem dX10_mixName_30 : decode cX10_mixName 30 = .ok (.aload_n 0, 1) := by decide +kernel
theorem dX10_mixName_31 : decode cX10_mixName 31 = .ok (.iload_n 3, 1) := by decide +kernel
theorem dX10_mixName_32 : decode cX10_mixName 32 = .ok (.iconst 0, 1) := by decide +kernel
theorem dX10_mixName_33 : decode cX10_mixName 33 = .ok (.invokevirtual 324, 3) := by decide +kernel
theorem dX10_mixName_36 : decode cX10_mixName 36 = .ok (.i2l, 1) := by decide +kernel
theorem dX10_mixName_37 : decode cX10_mixName 37 = .ok (.invokestatic 300, 3) := by decide +kernel
theorem dX10_mixName_40 : decode cX10_mixName 40 = .ok (.lstore 4, 2) := by decide +kernel
theorem dX10_mixName_42 : decode cX10_mixName 42 = .ok (.lload 4, 2) := by decide +kernel
theorem dX10_mixName_44 : decode cX10_mixName 44 = .ok (.aload_n 0, 1) := by decide +kernel
theorem dX10_mixName_45 : decode cX10_mixName 45 = .ok (.iload_n 3, 1) := by decide +kernel
theorem dX10_mixName_46 : decode cX10_mixName 46 = .ok (.iconst 0, 1) := by decide +kernel
theorem dX10_mixName_47 : decode cX10_mixName 47 = .ok (.invokevirtual 327, 3) := by decide +kernel
theorem dX10_mixName_50 : decode cX10_mixName 50 = .ok (.invokestatic 300, 3) := by decide +kernel
theorem dX10_mixName_53 : decode cX10_mixName 53 = .ok (.lstore 4, 2) := by decide +kernel
theorem dX10_mixName_55 : decode cX10_mixName 55 = .ok (.lload 4, 2) := by decide +kernel
theorem dX10_mixName_57 : decode cX10_mixName 57 = .ok (.aload_n 0, 1) := by decide +kernel
theorem dX10_mixName_58 : decode cX10_mixName 58 = .ok (.iload_n 3, 1) := by decide +kernel
theorem dX10_mixName_59 : decode cX10_mixName 59 = .ok (.iconst 1, 1) := by decide +kernel
theorem dX10_mixName_60 : decode cX10_mixName 60 = .ok (.invokevirtual 327, 3) := by decide +kernel
theorem dX10_mixName_63 : decode cX10_mixName 63 = .ok (.invokestatic 300, 3) := by decide +kernel
theorem dX10_mixName_66 : decode cX10_mixName 66 = .ok (.lstore 4, 2) := by decide +kernel
theorem dX10_mixName_68 : decode cX10_mixName 68 = .ok (.lload 4, 2) := by decide +kernel
theorem dX10_mixName_70 : decode cX10_mixName 70 = .ok (.aload_n 0, 1) := by decide +kernel
theorem dX10_mixName_71 : decode cX10_mixName 71 = .ok (.iload_n 3, 1) := by decide +kernel
theorem dX10_mixName_72 : decode cX10_mixName 72 = .ok (.invokevirtual 331, 3) := by decide +kernel
theorem dX10_mixName_75 : decode cX10_mixName 75 = .ok (.i2l, 1) := by decide +kernel
theorem dX10_mixName_76 : decode cX10_mixName 76 = .ok (.invokestatic 300, 3) := by decide +kernel
theorem dX10_mixName_79 : decode cX10_mixName 79 = .ok (.lstore 4, 2) := by decide +kernel
theorem dX10_mixName_81 : decode cX10_mixName 81 = .ok (.lload 4, 2) := by decide +kernel
theorem dX10_mixName_83 : decode cX10_mixName 83 = .ok (.aload_n 0, 1) := by decide +kernel
theorem dX10_mixName_84 : decode cX10_mixName 84 = .ok (.iload_n 3, 1) := by decide +kernel
theorem dX10_mixName_85 : decode cX10_mixName 85 = .ok (.iconst 0, 1) := by decide +kernel
theorem dX10_mixName_86 : decode cX10_mixName 86 = .ok (.invokevirtual 334, 3) := by decide +kernel
theorem dX10_mixName_89 : decode cX10_mixName 89 = .ok (.i2l, 1) := by decide +kernel
theorem dX10_mixName_90 : decode cX10_mixName 90 = .ok (.invokestatic 300, 3) := by decide +kernel
theorem dX10_mixName_93 : decode cX10_mixName 93 = .ok (.lstore 4, 2) := by decide +kernel
theorem dX10_mixName_95 : decode cX10_mixName 95 = .ok (.lload 4, 2) := by decide +kernel
theorem dX10_mixName_97 : decode cX10_mixName 97 = .ok (.aload_n 0, 1) := by decide +kernel
theorem dX10_mixName_98 : decode cX10_mixName 98 = .ok (.iload_n 3, 1) := by decide +kernel
theorem dX10_mixName_99 : decode cX10_mixName 99 = .ok (.iconst 1, 1) := by decide +kernel
theorem dX10_mixName_100 : decode cX10_mixName 100 = .ok (.invokevirtual 334, 3) := by decide +kernel
theorem dX10_mixName_103 : decode cX10_mixName 103 = .ok (.i2l, 1) := by decide +kernel
theorem dX10_mixName_104 : decode cX10_mixName 104 = .ok (.invokestatic 300, 3) := by decide +kernel
theorem dX10_mixName_107 : decode cX10_mixName 107 = .ok (.lstore 4, 2) := by decide +kernel
theorem dX10_mixName_109 : decode cX10_mixName 109 = .ok (.lload 4, 2) := by decide +kernel
theorem dX10_mixName_111 : decode cX10_mixName 111 = .ok (.aload_n 0, 1) := by decide +kernel
theorem dX10_mixName_112 : decode cX10_mixName 112 = .ok (.iconst 0, 1) := by decide +kernel
theorem dX10_mixName_113 : decode cX10_mixName 113 = .ok (.iload_n 3, 1) := by decide +kernel
theorem dX10_mixName_114 : decode cX10_mixName 114 = .ok (.invokevirtual 337, 3) := by decide +kernel
theorem dX10_mixName_117 : decode cX10_mixName 117 = .ok (.i2l, 1) := by decide +kernel
theorem dX10_mixName_118 : decode cX10_mixName 118 = .ok (.invokestatic 300, 3) := by decide +kernel
theorem dX10_mixName_121 : decode cX10_mixName 121 = .ok (.lreturn, 1) := by decide +kernel
theorem dX10_mixRow_0 : decode cX10_mixRow 0 = .ok (.lload_n 1, 1) := by decide +kernel
theorem dX10_mixRow_1 : decode cX10_mixRow 1 = .ok (.lstore_n 3, 1) := by decide +kernel
theorem dX10_mixRow_2 : decode cX10_mixRow 2 = .ok (.iconst 0, 1) := by decide +kernel
theorem dX10_mixRow_3 : decode cX10_mixRow 3 = .ok (.istore 5, 2) := by decide +kernel
theorem dX10_mixRow_5 : decode cX10_mixRow 5 = .ok (.iload 5, 2) := by decide +kernel
theorem dX10_mixRow_7 : decode cX10_mixRow 7 = .ok (.bipush 10, 2) := by decide +kernel
theorem dX10_mixRow_9 : decode cX10_mixRow 9 = .ok (.if_icmp .ge 21, 3) := by decide +kernel
theorem dX10_mixRow_12 : decode cX10_mixRow 12 = .ok (.lload_n 3, 1) := by decide +kernel
theorem dX10_mixRow_13 : decode cX10_mixRow 13 = .ok (.aload_n 0, 1) := by decide +kernel
theorem dX10_mixRow_14 : decode cX10_mixRow 14 = .ok (.iload 5, 2) := by decide +kernel
theorem dX10_mixRow_16 : decode cX10_mixRow 16 = .ok (.invokevirtual 340, 3) := by decide +kernel
theorem dX10_mixRow_19 : decode cX10_mixRow 19 = .ok (.i2l, 1) := by decide +kernel
theorem dX10_mixRow_20 : decode cX10_mixRow 20 = .ok (.invokestatic 300, 3) := by decide +kernel
theorem dX10_mixRow_23 : decode cX10_mixRow 23 = .ok (.lstore_n 3, 1) := by decide +kernel
theorem dX10_mixRow_24 : decode cX10_mixRow 24 = .ok (.iinc 5 1, 3) := by decide +kernel
theorem dX10_mixRow_27 : decode cX10_mixRow 27 = .ok (.goto (-22), 3) := by decide +kernel
theorem dX10_mixRow_30 : decode cX10_mixRow 30 = .ok (.lload_n 3, 1) := by decide +kernel
theorem dX10_mixRow_31 : decode cX10_mixRow 31 = .ok (.aload_n 0, 1) := by decide +kernel
theorem dX10_mixRow_32 : decode cX10_mixRow 32 = .ok (.iconst 0, 1) := by decide +kernel
theorem dX10_mixRow_33 : decode cX10_mixRow 33 = .ok (.invokevirtual 343, 3) := by decide +kernel
theorem dX10_mixRow_36 : decode cX10_mixRow 36 = .ok (.invokestatic 300, 3) := by decide +kernel
theorem dX10_mixRow_39 : decode cX10_mixRow 39 = .ok (.lstore_n 3, 1) := by decide +kernel
theorem dX10_mixRow_40 : decode cX10_mixRow 40 = .ok (.lload_n 3, 1) := by decide +kernel
theorem dX10_mixRow_41 : decode cX10_mixRow 41 = .ok (.aload_n 0, 1) := by decide +kernel
theorem dX10_mixRow_42 : decode cX10_mixRow 42 = .ok (.iconst 1, 1) := by decide +kernel
theorem dX10_mixRow_43 : decode cX10_mixRow 43 = .ok (.invokevirtual 343, 3) := by decide +kernel
theorem dX10_mixRow_46 : decode cX10_mixRow 46 = .ok (.invokestatic 300, 3) := by decide +kernel
theorem dX10_mixRow_49 : decode cX10_mixRow 49 = .ok (.lstore_n 3, 1) := by decide +kernel
theorem dX10_mixRow_50 : decode cX10_mixRow 50 = .ok (.iconst 0, 1) := by decide +kernel
theorem dX10_mixRow_51 : decode cX10_mixRow 51 = .ok (.istore 5, 2) := by decide +kernel
theorem dX10_mixRow_53 : decode cX10_mixRow 53 = .ok (.iload 5, 2) := by decide +kernel
theorem dX10_mixRow_55 : decode cX10_mixRow 55 = .ok (.iconst 2, 1) := by decide +kernel
theorem dX10_mixRow_56 : decode cX10_mixRow 56 = .ok (.if_icmp .gt 28, 3) := by decide +kernel
theorem dX10_mixRow_59 : decode cX10_mixRow 59 = .ok (.lload_n 3, 1) := by decide +kernel
theorem dX10_mixRow_60 : decode cX10_mixRow 60 = .ok (.aload_n 0, 1) := by decide +kernel
theorem dX10_mixRow_61 : decode cX10_mixRow 61 = .ok (.iconst 0, 1) := by decide +kernel
theorem dX10_mixRow_62 : decode cX10_mixRow 62 = .ok (.aload_n 0, 1) := by decide +kernel
theorem dX10_mixRow_63 : decode cX10_mixRow 63 = .ok (.getfield 42, 3) := by decide +kernel
theorem dX10_mixRow_66 : decode cX10_mixRow 66 = .ok (.invokevirtual 166, 3) := by decide +kernel
theorem dX10_mixRow_69 : decode cX10_mixRow 69 = .ok (.iload 5, 2) := by decide +kernel
theorem dX10_mixRow_71 : decode cX10_mixRow 71 = .ok (.invokevirtual 346, 3) := by decide +kernel
theorem dX10_mixRow_74 : decode cX10_mixRow 74 = .ok (.invokestatic 300, 3) := by decide +kernel
theorem dX10_mixRow_77 : decode cX10_mixRow 77 = .ok (.lstore_n 3, 1) := by decide +kernel
theorem dX10_mixRow_78 : decode cX10_mixRow 78 = .ok (.iinc 5 1, 3) := by decide +kernel
theorem dX10_mixRow_81 : decode cX10_mixRow 81 = .ok (.goto (-28), 3) := by decide +kernel
theorem dX10_mixRow_84 : decode cX10_mixRow 84 = .ok (.lload_n 3, 1) := by decide +kernel
theorem dX10_mixRow_85 : decode cX10_mixRow 85 = .ok (.aload_n 0, 1) := by decide +kernel
theorem dX10_mixRow_86 : decode cX10_mixRow 86 = .ok (.iconst 2, 1) := by decide +kernel
theorem dX10_mixRow_87 : decode cX10_mixRow 87 = .ok (.bipush 7, 2) := by decide +kernel
theorem dX10_mixRow_89 : decode cX10_mixRow 89 = .ok (.iconst 0, 1) := by decide +kernel
theorem dX10_mixRow_90 : decode cX10_mixRow 90 = .ok (.invokevirtual 346, 3) := by decide +kernel
theorem dX10_mixRow_93 : decode cX10_mixRow 93 = .ok (.invokestatic 300, 3) := by decide +kernel
theorem dX10_mixRow_96 : decode cX10_mixRow 96 = .ok (.lstore_n 3, 1) := by decide +kernel
theorem dX10_mixRow_97 : decode cX10_mixRow 97 = .ok (.lload_n 3, 1) := by decide +kernel
theorem dX10_mixRow_98 : decode cX10_mixRow 98 = .ok (.aload_n 0, 1) := by decide +kernel
theorem dX10_mixRow_99 : decode cX10_mixRow 99 = .ok (.iconst 0, 1) := by decide +kernel
theorem dX10_mixRow_100 : decode cX10_mixRow 100 = .ok (.invokevirtual 350, 3) := by decide +kernel
theorem dX10_mixRow_103 : decode cX10_mixRow 103 = .ok (.i2l, 1) := by decide +kernel
theorem dX10_mixRow_104 : decode cX10_mixRow 104 = .ok (.invokestatic 300, 3) := by decide +kernel
theorem dX10_mixRow_107 : decode cX10_mixRow 107 = .ok (.lstore_n 3, 1) := by decide +kernel
theorem dX10_mixRow_108 : decode cX10_mixRow 108 = .ok (.lload_n 3, 1) := by decide +kernel
theorem dX10_mixRow_109 : decode cX10_mixRow 109 = .ok (.aload_n 0, 1) := by decide +kernel
theorem dX10_mixRow_110 : decode cX10_mixRow 110 = .ok (.iconst 1, 1) := by decide +kernel
theorem dX10_mixRow_111 : decode cX10_mixRow 111 = .ok (.invokevirtual 350, 3) := by decide +kernel
theorem dX10_mixRow_114 : decode cX10_mixRow 114 = .ok (.i2l, 1) := by decide +kernel
theorem dX10_mixRow_115 : decode cX10_mixRow 115 = .ok (.invokestatic 300, 3) := by decide +kernel
theorem dX10_mixRow_118 : decode cX10_mixRow 118 = .ok (.lstore_n 3, 1) := by decide +kernel
theorem dX10_mixRow_119 : decode cX10_mixRow 119 = .ok (.lload_n 3, 1) := by decide +kernel
theorem dX10_mixRow_120 : decode cX10_mixRow 120 = .ok (.aload_n 0, 1) := by decide +kernel
theorem dX10_mixRow_121 : decode cX10_mixRow 121 = .ok (.invokevirtual 353, 3) := by decide +kernel
theorem dX10_mixRow_124 : decode cX10_mixRow 124 = .ok (.i2l, 1) := by decide +kernel
theorem dX10_mixRow_125 : decode cX10_mixRow 125 = .ok (.invokestatic 300, 3) := by decide +kernel
theorem dX10_mixRow_128 : decode cX10_mixRow 128 = .ok (.lreturn, 1) := by decide +kernel
theorem dX10_mixWorth_0 : decode cX10_mixWorth 0 = .ok (.lload_n 1, 1) := by decide +kernel
theorem dX10_mixWorth_1 : decode cX10_mixWorth 1 = .ok (.aload_n 0, 1) := by decide +kernel
theorem dX10_mixWorth_2 : decode cX10_mixWorth 2 = .ok (.bipush 99, 2) := by decide +kernel
theorem dX10_mixWorth_4 : decode cX10_mixWorth 4 = .ok (.invokevirtual 356, 3) := by decide +kernel
theorem dX10_mixWorth_7 : decode cX10_mixWorth 7 = .ok (.i2l, 1) := by decide +kernel
theorem dX10_mixWorth_8 : decode cX10_mixWorth 8 = .ok (.invokestatic 300, 3) := by decide +kernel
theorem dX10_mixWorth_11 : decode cX10_mixWorth 11 = .ok (.lstore_n 3, 1) := by decide +kernel
theorem dX10_mixWorth_12 : decode cX10_mixWorth 12 = .ok (.iconst 0, 1) := by decide +kernel
theorem dX10_mixWorth_13 : decode cX10_mixWorth 13 = .ok (.istore 5, 2) := by decide +kernel
theorem dX10_mixWorth_15 : decode cX10_mixWorth 15 = .ok (.iload 5, 2) := by decide +kernel
theorem dX10_mixWorth_17 : decode cX10_mixWorth 17 = .ok (.iconst 2, 1) := by decide +kernel
theorem dX10_mixWorth_18 : decode cX10_mixWorth 18 = .ok (.if_icmp .gt 23, 3) := by decide +kernel
theorem dX10_mixWorth_21 : decode cX10_mixWorth 21 = .ok (.lload_n 3, 1) := by decide +kernel
theorem dX10_mixWorth_22 : decode cX10_mixWorth 22 = .ok (.aload_n 0, 1) := by decide +kernel
theorem dX10_mixWorth_23 : decode cX10_mixWorth 23 = .ok (.iconst 1, 1) := by decide +kernel
theorem dX10_mixWorth_24 : decode cX10_mixWorth 24 = .ok (.iconst 2, 1) := by decide +kernel
theorem dX10_mixWorth_25 : decode cX10_mixWorth 25 = .ok (.iload 5, 2) := by decide +kernel
theorem dX10_mixWorth_27 : decode cX10_mixWorth 27 = .ok (.invokevirtual 359, 3) := by decide +kernel
theorem dX10_mixWorth_30 : decode cX10_mixWorth 30 = .ok (.i2l, 1) := by decide +kernel
theorem dX10_mixWorth_31 : decode cX10_mixWorth 31 = .ok (.invokestatic 300, 3) := by decide +kernel
theorem dX10_mixWorth_34 : decode cX10_mixWorth 34 = .ok (.lstore_n 3, 1) := by decide +kernel
theorem dX10_mixWorth_35 : decode cX10_mixWorth 35 = .ok (.iinc 5 1, 3) := by decide +kernel
theorem dX10_mixWorth_38 : decode cX10_mixWorth 38 = .ok (.goto (-23), 3) := by decide +kernel
theorem dX10_mixWorth_41 : decode cX10_mixWorth 41 = .ok (.lload_n 3, 1) := by decide +kernel
theorem dX10_mixWorth_42 : decode cX10_mixWorth 42 = .ok (.aload_n 0, 1) := by decide +kernel
theorem dX10_mixWorth_43 : decode cX10_mixWorth 43 = .ok (.iconst 0, 1) := by decide +kernel
theorem dX10_mixWorth_44 : decode cX10_mixWorth 44 = .ok (.invokevirtual 362, 3) := by decide +kernel
theorem dX10_mixWorth_47 : decode cX10_mixWorth 47 = .ok (.i2l, 1) := by decide +kernel
theorem dX10_mixWorth_48 : decode cX10_mixWorth 48 = .ok (.invokestatic 300, 3) := by decide +kernel
theorem dX10_mixWorth_51 : decode cX10_mixWorth 51 = .ok (.lstore_n 3, 1) := by decide +kernel
theorem dX10_mixWorth_52 : decode cX10_mixWorth 52 = .ok (.lload_n 3, 1) := by decide +kernel
theorem dX10_mixWorth_53 : decode cX10_mixWorth 53 = .ok (.aload_n 0, 1) := by decide +kernel
theorem dX10_mixWorth_54 : decode cX10_mixWorth 54 = .ok (.iconst 1, 1) := by decide +kernel
theorem dX10_mixWorth_55 : decode cX10_mixWorth 55 = .ok (.invokevirtual 362, 3) := by decide +kernel
theorem dX10_mixWorth_58 : decode cX10_mixWorth 58 = .ok (.i2l, 1) := by decide +kernel
theorem dX10_mixWorth_59 : decode cX10_mixWorth 59 = .ok (.invokestatic 300, 3) := by decide +kernel
theorem dX10_mixWorth_62 : decode cX10_mixWorth 62 = .ok (.lstore_n 3, 1) := by decide +kernel
theorem dX10_mixWorth_63 : decode cX10_mixWorth 63 = .ok (.lload_n 3, 1) := by decide +kernel
theorem dX10_mixWorth_64 : decode cX10_mixWorth 64 = .ok (.aload_n 0, 1) := by decide +kernel
theorem dX10_mixWorth_65 : decode cX10_mixWorth 65 = .ok (.iconst 3, 1) := by decide +kernel
theorem dX10_mixWorth_66 : decode cX10_mixWorth 66 = .ok (.iconst 0, 1) := by decide +kernel
theorem dX10_mixWorth_67 : decode cX10_mixWorth 67 = .ok (.invokevirtual 365, 3) := by decide +kernel
theorem dX10_mixWorth_70 : decode cX10_mixWorth 70 = .ok (.i2l, 1) := by decide +kernel
theorem dX10_mixWorth_71 : decode cX10_mixWorth 71 = .ok (.invokestatic 300, 3) := by decide +kernel
theorem dX10_mixWorth_74 : decode cX10_mixWorth 74 = .ok (.lreturn, 1) := by decide +kernel
theorem dX10_mix_0 : decode cX10_mix 0 = .ok (.ldc2_w 368, 3) := by decide +kernel
theorem dX10_mix_3 : decode cX10_mix 3 = .ok (.lload_n 0, 1) := by decide +kernel
theorem dX10_mix_4 : decode cX10_mix 4 = .ok (.lmul, 1) := by decide +kernel
theorem dX10_mix_5 : decode cX10_mix 5 = .ok (.lload_n 2, 1) := by decide +kernel
theorem dX10_mix_6 : decode cX10_mix 6 = .ok (.ladd, 1) := by decide +kernel
theorem dX10_mix_7 : decode cX10_mix 7 = .ok (.lreturn, 1) := by decide +kernel
theorem dX10_forget_0 : decode cX10_forget 0 = .ok (.aload_n 0, 1) := by decide +kernel
theorem dX10_forget_1 : decode cX10_forget 1 = .ok (.iconst 1, 1) := by decide +kernel
theorem dX10_forget_2 : decode cX10_forget 2 = .ok (.putfield 85, 3) := by decide +kernel
theorem dX10_forget_5 : decode cX10_forget 5 = .ok (.iload_n 1, 1) := by decide +kernel
theorem dX10_forget_6 : decode cX10_forget 6 = .ok (.ifCond .ne 17, 3) := by decide +kernel
theorem dX10_forget_9 : decode cX10_forget 9 = .ok (.aload_n 0, 1) := by decide +kernel
theorem dX10_forget_10 : decode cX10_forget 10 = .ok (.getfield 65, 3) := by decide +kernel
theorem dX10_forget_13 : decode cX10_forget 13 = .ok (.invokevirtual 139, 3) := by decide +kernel
theorem dX10_forget_16 : decode cX10_forget 16 = .ok (.aload_n 0, 1) := by decide +kernel
theorem dX10_forget_17 : decode cX10_forget 17 = .ok (.getfield 74, 3) := by decide +kernel
theorem dX10_forget_20 : decode cX10_forget 20 = .ok (.invokevirtual 370, 3) := by decide +kernel
theorem dX10_forget_23 : decode cX10_forget 23 = .ok (.return_, 1) := by decide +kernel
theorem dX10_refresh_0 : decode cX10_refresh 0 = .ok (.aload_n 0, 1) := by decide +kernel
theorem dX10_refresh_1 : decode cX10_refresh 1 = .ok (.getfield 85, 3) := by decide +kernel
theorem dX10_refresh_4 : decode cX10_refresh 4 = .ok (.ifCond .eq 66, 3) := by decide +kernel
theorem dX10_refresh_7 : decode cX10_refresh 7 = .ok (.aload_n 0, 1) := by decide +kernel
theorem dX10_refresh_8 : decode cX10_refresh 8 = .ok (.iconst 0, 1) := by decide +kernel
theorem dX10_refresh_9 : decode cX10_refresh 9 = .ok (.putfield 85, 3) := by decide +kernel
theorem dX10_refresh_12 : decode cX10_refresh 12 = .ok (.aload_n 0, 1) := by decide +kernel
theorem dX10_refresh_13 : decode cX10_refresh 13 = .ok (.getfield 21, 3) := by decide +kernel
theorem dX10_refresh_16 : decode cX10_refresh 16 = .ok (.aload_n 0, 1) := by decide +kernel
theorem dX10_refresh_17 : decode cX10_refresh 17 = .ok (.getfield 14, 3) := by decide +kernel
theorem dX10_refresh_20 : decode cX10_refresh 20 = .ok (.iconst 0, 1) := by decide +kernel
theorem dX10_refresh_21 : decode cX10_refresh 21 = .ok (.aaload, 1) := by decide +kernel
theorem dX10_refresh_22 : decode cX10_refresh 22 = .ok (.invokevirtual 371, 3) := by decide +kernel
theorem dX10_refresh_25 : decode cX10_refresh 25 = .ok (.aload_n 0, 1) := by decide +kernel
theorem dX10_refresh_26 : decode cX10_refresh 26 = .ok (.getfield 28, 3) := by decide +kernel
theorem dX10_refresh_29 : decode cX10_refresh 29 = .ok (.aload_n 0, 1) := by decide +kernel
theorem dX10_refresh_30 : decode cX10_refresh 30 = .ok (.getfield 14, 3) := by decide +kernel
theorem dX10_refresh_33 : decode cX10_refresh 33 = .ok (.iconst 1, 1) := by decide +kernel
theorem dX10_refresh_34 : decode cX10_refresh 34 = .ok (.aaload, 1) := by decide +kernel
theorem dX10_refresh_35 : decode cX10_refresh 35 = .ok (.invokevirtual 375, 3) := by decide +kernel
theorem dX10_refresh_38 : decode cX10_refresh 38 = .ok (.aload_n 0, 1) := by decide +kernel
theorem dX10_refresh_39 : decode cX10_refresh 39 = .ok (.getfield 35, 3) := by decide +kernel
theorem dX10_refresh_42 : decode cX10_refresh 42 = .ok (.aload_n 0, 1) := by decide +kernel
theorem dX10_refresh_43 : decode cX10_refresh 43 = .ok (.getfield 14, 3) := by decide +kernel
theorem dX10_refresh_46 : decode cX10_refresh 46 = .ok (.iconst 2, 1) := by decide +kernel
theorem dX10_refresh_47 : decode cX10_refresh 47 = .ok (.aaload, 1) := by decide +kernel
theorem dX10_refresh_48 : decode cX10_refresh 48 = .ok (.invokevirtual 376, 3) := by decide +kernel
theorem dX10_refresh_51 : decode cX10_refresh 51 = .ok (.aload_n 0, 1) := by decide +kernel
theorem dX10_refresh_52 : decode cX10_refresh 52 = .ok (.getfield 42, 3) := by decide +kernel
theorem dX10_refresh_55 : decode cX10_refresh 55 = .ok (.aload_n 0, 1) := by decide +kernel
theorem dX10_refresh_56 : decode cX10_refresh 56 = .ok (.getfield 21, 3) := by decide +kernel
theorem dX10_refresh_59 : decode cX10_refresh 59 = .ok (.aload_n 0, 1) := by decide +kernel
theorem dX10_refresh_60 : decode cX10_refresh 60 = .ok (.getfield 28, 3) := by decide +kernel
theorem dX10_refresh_63 : decode cX10_refresh 63 = .ok (.aload_n 0, 1) := by decide +kernel
theorem dX10_refresh_64 : decode cX10_refresh 64 = .ok (.getfield 35, 3) := by decide +kernel
theorem dX10_refresh_67 : decode cX10_refresh 67 = .ok (.invokevirtual 377, 3) := by decide +kernel
theorem dX10_refresh_70 : decode cX10_refresh 70 = .ok (.return_, 1) := by decide +kernel
theorem dX10_found_0 : decode cX10_found 0 = .ok (.aload_n 0, 1) := by decide +kernel
theorem dX10_found_1 : decode cX10_found 1 = .ok (.iload_n 1, 1) := by decide +kernel
theorem dX10_found_2 : decode cX10_found 2 = .ok (.putfield 291, 3) := by decide +kernel
theorem dX10_found_5 : decode cX10_found 5 = .ok (.bipush (-10), 2) := by decide +kernel
theorem dX10_found_7 : decode cX10_found 7 = .ok (.iload_n 1, 1) := by decide +kernel
theorem dX10_found_8 : decode cX10_found 8 = .ok (.isub, 1) := by decide +kernel
theorem dX10_found_9 : decode cX10_found 9 = .ok (.ireturn, 1) := by decide +kernel
theorem dX10_lookFor_0 : decode cX10_lookFor 0 = .ok (.iload_n 1, 1) := by decide +kernel
theorem dX10_lookFor_1 : decode cX10_lookFor 1 = .ok (.invokestatic 152, 3) := by decide +kernel
theorem dX10_lookFor_4 : decode cX10_lookFor 4 = .ok (.ifCond .eq 10, 3) := by decide +kernel
theorem dX10_lookFor_7 : decode cX10_lookFor 7 = .ok (.iload_n 2, 1) := by decide +kernel
theorem dX10_lookFor_8 : decode cX10_lookFor 8 = .ok (.invokestatic 256, 3) := by decide +kernel
theorem dX10_lookFor_11 : decode cX10_lookFor 11 = .ok (.ifCond .ne 6, 3) := by decide +kernel
theorem dX10_lookFor_14 : decode cX10_lookFor 14 = .ok (.bipush (-2), 2) := by decide +kernel
theorem dX10_lookFor_16 : decode cX10_lookFor 16 = .ok (.ireturn, 1) := by decide +kernel
theorem dX10_lookFor_17 : decode cX10_lookFor 17 = .ok (.aload_n 0, 1) := by decide +kernel
theorem dX10_lookFor_18 : decode cX10_lookFor 18 = .ok (.getfield 81, 3) := by decide +kernel
theorem dX10_lookFor_21 : decode cX10_lookFor 21 = .ok (.iload_n 1, 1) := by decide +kernel
theorem dX10_lookFor_22 : decode cX10_lookFor 22 = .ok (.aaload, 1) := by decide +kernel
theorem dX10_lookFor_23 : decode cX10_lookFor 23 = .ok (.invokevirtual 155, 3) := by decide +kernel
theorem dX10_lookFor_26 : decode cX10_lookFor 26 = .ok (.ifCond .eq 9, 3) := by decide +kernel
theorem dX10_lookFor_29 : decode cX10_lookFor 29 = .ok (.aload_n 0, 1) := by decide +kernel
theorem dX10_lookFor_30 : decode cX10_lookFor 30 = .ok (.iconst 1, 1) := by decide +kernel
theorem dX10_lookFor_31 : decode cX10_lookFor 31 = .ok (.invokevirtual 158, 3) := by decide +kernel
theorem dX10_lookFor_34 : decode cX10_lookFor 34 = .ok (.ireturn, 1) := by decide +kernel
theorem dX10_lookFor_35 : decode cX10_lookFor 35 = .ok (.aload_n 0, 1) := by decide +kernel
theorem dX10_lookFor_36 : decode cX10_lookFor 36 = .ok (.getfield 81, 3) := by decide +kernel
theorem dX10_lookFor_39 : decode cX10_lookFor 39 = .ok (.iload_n 1, 1) := by decide +kernel
theorem dX10_lookFor_40 : decode cX10_lookFor 40 = .ok (.aaload, 1) := by decide +kernel
theorem dX10_lookFor_41 : decode cX10_lookFor 41 = .ok (.invokevirtual 273, 3) := by decide +kernel
theorem dX10_lookFor_44 : decode cX10_lookFor 44 = .ok (.iload_n 2, 1) := by decide +kernel
theorem dX10_lookFor_45 : decode cX10_lookFor 45 = .ok (.if_icmp .eq 9, 3) := by decide +kernel
theorem dX10_lookFor_48 : decode cX10_lookFor 48 = .ok (.aload_n 0, 1) := by decide +kernel
theorem dX10_lookFor_49 : decode cX10_lookFor 49 = .ok (.iconst 3, 1) := by decide +kernel
theorem dX10_lookFor_50 : decode cX10_lookFor 50 = .ok (.invokevirtual 158, 3) := by decide +kernel
theorem dX10_lookFor_53 : decode cX10_lookFor 53 = .ok (.ireturn, 1) := by decide +kernel
theorem dX10_lookFor_54 : decode cX10_lookFor 54 = .ok (.aload_n 0, 1) := by decide +kernel
theorem dX10_lookFor_55 : decode cX10_lookFor 55 = .ok (.getfield 81, 3) := by decide +kernel
theorem dX10_lookFor_58 : decode cX10_lookFor 58 = .ok (.iload_n 1, 1) := by decide +kernel
theorem dX10_lookFor_59 : decode cX10_lookFor 59 = .ok (.aaload, 1) := by decide +kernel
theorem dX10_lookFor_60 : decode cX10_lookFor 60 = .ok (.iload_n 3, 1) := by decide +kernel
theorem dX10_lookFor_61 : decode cX10_lookFor 61 = .ok (.iconst 1, 1) := by decide +kernel
theorem dX10_lookFor_62 : decode cX10_lookFor 62 = .ok (.invokevirtual 276, 3) := by decide +kernel
theorem dX10_lookFor_65 : decode cX10_lookFor 65 = .ok (.ifCond .eq 7, 3) := by decide +kernel
theorem dX10_lookFor_68 : decode cX10_lookFor 68 = .ok (.iconst 1, 1) := by decide +kernel
theorem dX10_lookFor_69 : decode cX10_lookFor 69 = .ok (.goto 8, 3) := by decide +kernel
theorem dX10_lookFor_72 : decode cX10_lookFor 72 = .ok (.aload_n 0, 1) := by decide +kernel
theorem dX10_lookFor_73 : decode cX10_lookFor 73 = .ok (.iconst 2, 1) := by decide +kernel
theorem dX10_lookFor_74 : decode cX10_lookFor 74 = .ok (.invokevirtual 158, 3) := by decide +kernel
theorem dX10_lookFor_77 : decode cX10_lookFor 77 = .ok (.ireturn, 1) := by decide +kernel
theorem dX10_isText_0 : decode cX10_isText 0 = .ok (.iload_n 0, 1) := by decide +kernel
theorem dX10_isText_1 : decode cX10_isText 1 = .ok (.ifCond .lt 12, 3) := by decide +kernel
theorem dX10_isText_4 : decode cX10_isText 4 = .ok (.iload_n 0, 1) := by decide +kernel
theorem dX10_isText_5 : decode cX10_isText 5 = .ok (.iconst 3, 1) := by decide +kernel
theorem dX10_isText_6 : decode cX10_isText 6 = .ok (.if_icmp .ge 7, 3) := by decide +kernel
theorem dX10_isText_9 : decode cX10_isText 9 = .ok (.iconst 1, 1) := by decide +kernel
theorem dX10_isText_10 : decode cX10_isText 10 = .ok (.goto 4, 3) := by decide +kernel
theorem dX10_isText_13 : decode cX10_isText 13 = .ok (.iconst 0, 1) := by decide +kernel
theorem dX10_isText_14 : decode cX10_isText 14 = .ok (.ireturn, 1) := by decide +kernel
theorem dX10_isSheet_0 : decode cX10_isSheet 0 = .ok (.iload_n 0, 1) := by decide +kernel
theorem dX10_isSheet_1 : decode cX10_isSheet 1 = .ok (.ifCond .lt 12, 3) := by decide +kernel
theorem dX10_isSheet_4 : decode cX10_isSheet 4 = .ok (.iload_n 0, 1) := by decide +kernel
theorem dX10_isSheet_5 : decode cX10_isSheet 5 = .ok (.iconst 4, 1) := by decide +kernel
theorem dX10_isSheet_6 : decode cX10_isSheet 6 = .ok (.if_icmp .ge 7, 3) := by decide +kernel
theorem dX10_isSheet_9 : decode cX10_isSheet 9 = .ok (.iconst 1, 1) := by decide +kernel
theorem dX10_isSheet_10 : decode cX10_isSheet 10 = .ok (.goto 4, 3) := by decide +kernel
theorem dX10_isSheet_13 : decode cX10_isSheet 13 = .ok (.iconst 0, 1) := by decide +kernel
theorem dX10_isSheet_14 : decode cX10_isSheet 14 = .ok (.ireturn, 1) := by decide +kernel
theorem dX10_isForm_0 : decode cX10_isForm 0 = .ok (.iload_n 0, 1) := by decide +kernel
theorem dX10_isForm_1 : decode cX10_isForm 1 = .ok (.ifCond .lt 12, 3) := by decide +kernel
theorem dX10_isForm_4 : decode cX10_isForm 4 = .ok (.iload_n 0, 1) := by decide +kernel
theorem dX10_isForm_5 : decode cX10_isForm 5 = .ok (.iconst 3, 1) := by decide +kernel
theorem dX10_isForm_6 : decode cX10_isForm 6 = .ok (.if_icmp .ge 7, 3) := by decide +kernel
theorem dX10_isForm_9 : decode cX10_isForm 9 = .ok (.iconst 1, 1) := by decide +kernel
theorem dX10_isForm_10 : decode cX10_isForm 10 = .ok (.goto 4, 3) := by decide +kernel
theorem dX10_isForm_13 : decode cX10_isForm 13 = .ok (.iconst 0, 1) := by decide +kernel
theorem dX10_isForm_14 : decode cX10_isForm 14 = .ok (.ireturn, 1) := by decide +kernel
theorem dX10_isNameBits_0 : decode cX10_isNameBits 0 = .ok (.iload_n 0, 1) := by decide +kernel
theorem dX10_isNameBits_1 : decode cX10_isNameBits 1 = .ok (.ifCond .lt 14, 3) := by decide +kernel
theorem dX10_isNameBits_4 : decode cX10_isNameBits 4 = .ok (.iload_n 0, 1) := by decide +kernel
theorem dX10_isNameBits_5 : decode cX10_isNameBits 5 = .ok (.sipush 1023, 3) := by decide +kernel
theorem dX10_isNameBits_8 : decode cX10_isNameBits 8 = .ok (.if_icmp .gt 7, 3) := by decide +kernel
theorem dX10_isNameBits_11 : decode cX10_isNameBits 11 = .ok (.iconst 1, 1) := by decide +kernel
theorem dX10_isNameBits_12 : decode cX10_isNameBits 12 = .ok (.goto 4, 3) := by decide +kernel
theorem dX10_isNameBits_15 : decode cX10_isNameBits 15 = .ok (.iconst 0, 1) := by decide +kernel
theorem dX10_isNameBits_16 : decode cX10_isNameBits 16 = .ok (.ireturn, 1) := by decide +kernel
theorem dX10_isPieceBits_0 : decode cX10_isPieceBits 0 = .ok (.iload_n 0, 1) := by decide +kernel
theorem dX10_isPieceBits_1 : decode cX10_isPieceBits 1 = .ok (.ifCond .lt 13, 3) := by decide +kernel
theorem dX10_isPieceBits_4 : decode cX10_isPieceBits 4 = .ok (.iload_n 0, 1) := by decide +kernel
theorem dX10_isPieceBits_5 : decode cX10_isPieceBits 5 = .ok (.bipush 63, 2) := by decide +kernel
theorem dX10_isPieceBits_7 : decode cX10_isPieceBits 7 = .ok (.if_icmp .gt 7, 3) := by decide +kernel
theorem dX10_isPieceBits_10 : decode cX10_isPieceBits 10 = .ok (.iconst 1, 1) := by decide +kernel
theorem dX10_isPieceBits_11 : decode cX10_isPieceBits 11 = .ok (.goto 4, 3) := by decide +kernel
theorem dX10_isPieceBits_14 : decode cX10_isPieceBits 14 = .ok (.iconst 0, 1) := by decide +kernel
theorem dX10_isPieceBits_15 : decode cX10_isPieceBits 15 = .ok (.ireturn, 1) := by decide +kernel
theorem dX10_isZeroOrOne_0 : decode cX10_isZeroOrOne 0 = .ok (.iload_n 0, 1) := by decide +kernel
theorem dX10_isZeroOrOne_1 : decode cX10_isZeroOrOne 1 = .ok (.ifCond .eq 8, 3) := by decide +kernel
theorem dX10_isZeroOrOne_4 : decode cX10_isZeroOrOne 4 = .ok (.iload_n 0, 1) := by decide +kernel
theorem dX10_isZeroOrOne_5 : decode cX10_isZeroOrOne 5 = .ok (.iconst 1, 1) := by decide +kernel
theorem dX10_isZeroOrOne_6 : decode cX10_isZeroOrOne 6 = .ok (.if_icmp .ne 7, 3) := by decide +kernel
theorem dX10_isZeroOrOne_9 : decode cX10_isZeroOrOne 9 = .ok (.iconst 1, 1) := by decide +kernel
theorem dX10_isZeroOrOne_10 : decode cX10_isZeroOrOne 10 = .ok (.goto 4, 3) := by decide +kernel
theorem dX10_isZeroOrOne_13 : decode cX10_isZeroOrOne 13 = .ok (.iconst 0, 1) := by decide +kernel
theorem dX10_isZeroOrOne_14 : decode cX10_isZeroOrOne 14 = .ok (.ireturn, 1) := by decide +kernel
theorem dX10_mayBeGuessed_0 : decode cX10_mayBeGuessed 0 = .ok (.iload_n 0, 1) := by decide +kernel
theorem dX10_mayBeGuessed_1 : decode cX10_mayBeGuessed 1 = .ok (.ifCond .lt 13, 3) := by decide +kernel
theorem dX10_mayBeGuessed_4 : decode cX10_mayBeGuessed 4 = .ok (.iload_n 0, 1) := by decide +kernel
theorem dX10_mayBeGuessed_5 : decode cX10_mayBeGuessed 5 = .ok (.bipush 10, 2) := by decide +kernel
theorem dX10_mayBeGuessed_7 : decode cX10_mayBeGuessed 7 = .ok (.if_icmp .ge 7, 3) := by decide +kernel
theorem dX10_mayBeGuessed_10 : decode cX10_mayBeGuessed 10 = .ok (.iconst 1, 1) := by decide +kernel
theorem dX10_mayBeGuessed_11 : decode cX10_mayBeGuessed 11 = .ok (.goto 4, 3) := by decide +kernel
theorem dX10_mayBeGuessed_14 : decode cX10_mayBeGuessed 14 = .ok (.iconst 0, 1) := by decide +kernel
theorem dX10_mayBeGuessed_15 : decode cX10_mayBeGuessed 15 = .ok (.ireturn, 1) := by decide +kernel
theorem dX10_asLong_0 : decode cX10_asLong 0 = .ok (.ldc2_w 381, 3) := by decide +kernel
theorem dX10_asLong_3 : decode cX10_asLong 3 = .ok (.iload_n 0, 1) := by decide +kernel
theorem dX10_asLong_4 : decode cX10_asLong 4 = .ok (.i2l, 1) := by decide +kernel
theorem dX10_asLong_5 : decode cX10_asLong 5 = .ok (.lsub, 1) := by decide +kernel
theorem dX10_asLong_6 : decode cX10_asLong 6 = .ok (.lreturn, 1) := by decide +kernel
theorem dX10_letterOf_0 : decode cX10_letterOf 0 = .ok (.iload_n 0, 1) := by decide +kernel
theorem dX10_letterOf_1 : decode cX10_letterOf 1 = .ok (.bipush 97, 2) := by decide +kernel
theorem dX10_letterOf_3 : decode cX10_letterOf 3 = .ok (.if_icmp .lt 16, 3) := by decide +kernel
theorem dX10_letterOf_6 : decode cX10_letterOf 6 = .ok (.iload_n 0, 1) := by decide +kernel
theorem dX10_letterOf_7 : decode cX10_letterOf 7 = .ok (.bipush 102, 2) := by decide +kernel
theorem dX10_letterOf_9 : decode cX10_letterOf 9 = .ok (.if_icmp .gt 10, 3) := by decide +kernel
theorem dX10_letterOf_12 : decode cX10_letterOf 12 = .ok (.iload_n 0, 1) := by decide +kernel
theorem dX10_letterOf_13 : decode cX10_letterOf 13 = .ok (.bipush 97, 2) := by decide +kernel
theorem dX10_letterOf_15 : decode cX10_letterOf 15 = .ok (.isub, 1) := by decide +kernel
theorem dX10_letterOf_16 : decode cX10_letterOf 16 = .ok (.goto 4, 3) := by decide +kernel
theorem dX10_letterOf_19 : decode cX10_letterOf 19 = .ok (.iconst (-1), 1) := by decide +kernel
theorem dX10_letterOf_20 : decode cX10_letterOf 20 = .ok (.ireturn, 1) := by decide +kernel
theorem dX10_lowestTerm_0 : decode cX10_lowestTerm 0 = .ok (.iload_n 0, 1) := by decide +kernel
theorem dX10_lowestTerm_1 : decode cX10_lowestTerm 1 = .ok (.iload_n 1, 1) := by decide +kernel
theorem dX10_lowestTerm_2 : decode cX10_lowestTerm 2 = .ok (.invokestatic 383, 3) := by decide +kernel
theorem dX10_lowestTerm_5 : decode cX10_lowestTerm 5 = .ok (.istore_n 3, 1) := by decide +kernel
theorem dX10_lowestTerm_6 : decode cX10_lowestTerm 6 = .ok (.iload_n 3, 1) := by decide +kernel
theorem dX10_lowestTerm_7 : decode cX10_lowestTerm 7 = .ok (.ifCond .ne 5, 3) := by decide +kernel
theorem dX10_lowestTerm_10 : decode cX10_lowestTerm 10 = .ok (.iload_n 2, 1) := by decide +kernel
theorem dX10_lowestTerm_11 : decode cX10_lowestTerm 11 = .ok (.ireturn, 1) := by decide +kernel
theorem dX10_lowestTerm_12 : decode cX10_lowestTerm 12 = .ok (.iload_n 2, 1) := by decide +kernel
theorem dX10_lowestTerm_13 : decode cX10_lowestTerm 13 = .ok (.ifCond .ne 7, 3) := by decide +kernel
theorem dX10_lowestTerm_16 : decode cX10_lowestTerm 16 = .ok (.iload_n 0, 1) := by decide +kernel
theorem dX10_lowestTerm_17 : decode cX10_lowestTerm 17 = .ok (.goto 4, 3) := by decide +kernel
theorem dX10_lowestTerm_20 : decode cX10_lowestTerm 20 = .ok (.iload_n 1, 1) := by decide +kernel
theorem dX10_lowestTerm_21 : decode cX10_lowestTerm 21 = .ok (.iload_n 3, 1) := by decide +kernel
theorem dX10_lowestTerm_22 : decode cX10_lowestTerm 22 = .ok (.idiv, 1) := by decide +kernel
theorem dX10_lowestTerm_23 : decode cX10_lowestTerm 23 = .ok (.ireturn, 1) := by decide +kernel
theorem dX10_greatestDivisor_0 : decode cX10_greatestDivisor 0 = .ok (.iload_n 0, 1) := by decide +kernel
theorem dX10_greatestDivisor_1 : decode cX10_greatestDivisor 1 = .ok (.istore_n 2, 1) := by decide +kernel
theorem dX10_greatestDivisor_2 : decode cX10_greatestDivisor 2 = .ok (.iload_n 1, 1) := by decide +kernel
theorem dX10_greatestDivisor_3 : decode cX10_greatestDivisor 3 = .ok (.istore_n 3, 1) := by decide +kernel
theorem dX10_greatestDivisor_4 : decode cX10_greatestDivisor 4 = .ok (.iconst 0, 1) := by decide +kernel
theorem dX10_greatestDivisor_5 : decode cX10_greatestDivisor 5 = .ok (.istore 4, 2) := by decide +kernel
theorem dX10_greatestDivisor_7 : decode cX10_greatestDivisor 7 = .ok (.iload 4, 2) := by decide +kernel
theorem dX10_greatestDivisor_9 : decode cX10_greatestDivisor 9 = .ok (.bipush 100, 2) := by decide +kernel
theorem dX10_greatestDivisor_11 : decode cX10_greatestDivisor 11 = .ok (.if_icmp .ge 23, 3) := by decide +kernel
theorem dX10_greatestDivisor_14 : decode cX10_greatestDivisor 14 = .ok (.iload_n 3, 1) := by decide +kernel
theorem dX10_greatestDivisor_15 : decode cX10_greatestDivisor 15 = .ok (.ifCond .eq 19, 3) := by decide +kernel
theorem dX10_greatestDivisor_18 : decode cX10_greatestDivisor 18 = .ok (.iload_n 2, 1) := by decide +kernel
theorem dX10_greatestDivisor_19 : decode cX10_greatestDivisor 19 = .ok (.iload_n 3, 1) := by decide +kernel
theorem dX10_greatestDivisor_20 : decode cX10_greatestDivisor 20 = .ok (.irem, 1) := by decide +kernel
theorem dX10_greatestDivisor_21 : decode cX10_greatestDivisor 21 = .ok (.istore 5, 2) := by decide +kernel
theorem dX10_greatestDivisor_23 : decode cX10_greatestDivisor 23 = .ok (.iload_n 3, 1) := by decide +kernel
theorem dX10_greatestDivisor_24 : decode cX10_greatestDivisor 24 = .ok (.istore_n 2, 1) := by decide +kernel
theorem dX10_greatestDivisor_25 : decode cX10_greatestDivisor 25 = .ok (.iload 5, 2) := by decide +kernel
theorem dX10_greatestDivisor_27 : decode cX10_greatestDivisor 27 = .ok (.istore_n 3, 1) := by decide +kernel
theorem dX10_greatestDivisor_28 : decode cX10_greatestDivisor 28 = .ok (.iinc 4 1, 3) := by decide +kernel
theorem dX10_greatestDivisor_31 : decode cX10_greatestDivisor 31 = .ok (.goto (-24), 3) := by decide +kernel
theorem dX10_greatestDivisor_34 : decode cX10_greatestDivisor 34 = .ok (.iload_n 2, 1) := by decide +kernel
theorem dX10_greatestDivisor_35 : decode cX10_greatestDivisor 35 = .ok (.ireturn, 1) := by decide +kernel
theorem dX11_init_0 : decode cX11_init 0 = .ok (.aload_n 0, 1) := by decide +kernel
theorem dX11_init_1 : decode cX11_init 1 = .ok (.invokespecial 1, 3) := by decide +kernel
theorem dX11_init_4 : decode cX11_init 4 = .ok (.aload_n 0, 1) := by decide +kernel
theorem dX11_init_5 : decode cX11_init 5 = .ok (.iconst 4, 1) := by decide +kernel
theorem dX11_init_6 : decode cX11_init 6 = .ok (.newarray .int, 2) := by decide +kernel
theorem dX11_init_8 : decode cX11_init 8 = .ok (.putfield 7, 3) := by decide +kernel
theorem dX11_init_11 : decode cX11_init 11 = .ok (.aload_n 0, 1) := by decide +kernel
theorem dX11_init_12 : decode cX11_init 12 = .ok (.iconst 4, 1) := by decide +kernel
theorem dX11_init_13 : decode cX11_init 13 = .ok (.newarray .int, 2) := by decide +kernel
theorem dX11_init_15 : decode cX11_init 15 = .ok (.putfield 13, 3) := by decide +kernel
theorem dX11_init_18 : decode cX11_init 18 = .ok (.aload_n 0, 1) := by decide +kernel
theorem dX11_init_19 : decode cX11_init 19 = .ok (.sipush 240, 3) := by decide +kernel
theorem dX11_init_22 : decode cX11_init 22 = .ok (.newarray .int, 2) := by decide +kernel
theorem dX11_init_24 : decode cX11_init 24 = .ok (.putfield 16, 3) := by decide +kernel
theorem dX11_init_27 : decode cX11_init 27 = .ok (.aload_n 0, 1) := by decide +kernel
theorem dX11_init_28 : decode cX11_init 28 = .ok (.bipush 60, 2) := by decide +kernel
theorem dX11_init_30 : decode cX11_init 30 = .ok (.newarray .int, 2) := by decide +kernel
theorem dX11_init_32 : decode cX11_init 32 = .ok (.putfield 19, 3) := by decide +kernel
theorem dX11_init_35 : decode cX11_init 35 = .ok (.aload_n 0, 1) := by decide +kernel
theorem dX11_init_36 : decode cX11_init 36 = .ok (.sipush 240, 3) := by decide +kernel
theorem dX11_init_39 : decode cX11_init 39 = .ok (.newarray .int, 2) := by decide +kernel
theorem dX11_init_41 : decode cX11_init 41 = .ok (.putfield 22, 3) := by decide +kernel
theorem dX11_init_44 : decode cX11_init 44 = .ok (.aload_n 0, 1) := by decide +kernel
theorem dX11_init_45 : decode cX11_init 45 = .ok (.iconst 3, 1) := by decide +kernel
theorem dX11_init_46 : decode cX11_init 46 = .ok (.newarray .int, 2) := by decide +kernel
theorem dX11_init_48 : decode cX11_init 48 = .ok (.putfield 25, 3) := by decide +kernel
theorem dX11_init_51 : decode cX11_init 51 = .ok (.aload_n 0, 1) := by decide +kernel
theorem dX11_init_52 : decode cX11_init 52 = .ok (.bipush 10, 2) := by decide +kernel
theorem dX11_init_54 : decode cX11_init 54 = .ok (.newarray .int, 2) := by decide +kernel
theorem dX11_init_56 : decode cX11_init 56 = .ok (.putfield 28, 3) := by decide +kernel
theorem dX11_init_59 : decode cX11_init 59 = .ok (.aload_n 0, 1) := by decide +kernel
theorem dX11_init_60 : decode cX11_init 60 = .ok (.bipush 10, 2) := by decide +kernel
theorem dX11_init_62 : decode cX11_init 62 = .ok (.newarray .int, 2) := by decide +kernel
theorem dX11_init_64 : decode cX11_init 64 = .ok (.putfield 31, 3) := by decide +kernel
theorem dX11_init_67 : decode cX11_init 67 = .ok (.aload_n 0, 1) := by decide +kernel
theorem dX11_init_68 : decode cX11_init 68 = .ok (.bipush 60, 2) := by decide +kernel
theorem dX11_init_70 : decode cX11_init 70 = .ok (.newarray .int, 2) := by decide +kernel
theorem dX11_init_72 : decode cX11_init 72 = .ok (.putfield 34, 3) := by decide +kernel
theorem dX11_init_75 : decode cX11_init 75 = .ok (.aload_n 0, 1) := by decide +kernel
theorem dX11_init_76 : decode cX11_init 76 = .ok (.bipush 6, 2) := by decide +kernel
theorem dX11_init_78 : decode cX11_init 78 = .ok (.newarray .boolean, 2) := by decide +kernel
theorem dX11_init_80 : decode cX11_init 80 = .ok (.putfield 37, 3) := by decide +kernel
theorem dX11_init_83 : decode cX11_init 83 = .ok (.aload_n 0, 1) := by decide +kernel
theorem dX11_init_84 : decode cX11_init 84 = .ok (.bipush 6, 2) := by decide +kernel
theorem dX11_init_86 : decode cX11_init 86 = .ok (.newarray .int, 2) := by decide +kernel
theorem dX11_init_88 : decode cX11_init 88 = .ok (.putfield 41, 3) := by decide +kernel
theorem dX11_init_91 : decode cX11_init 91 = .ok (.aload_n 0, 1) := by decide +kernel
theorem dX11_init_92 : decode cX11_init 92 = .ok (.bipush 18, 2) := by decide +kernel
theorem dX11_init_94 : decode cX11_init 94 = .ok (.newarray .int, 2) := by decide +kernel
theorem dX11_init_96 : decode cX11_init 96 = .ok (.putfield 44, 3) := by decide +kernel
theorem dX11_init_99 : decode cX11_init 99 = .ok (.aload_n 0, 1) := by decide +kernel
theorem dX11_init_100 : decode cX11_init 100 = .ok (.bipush 6, 2) := by decide +kernel
theorem dX11_init_102 : decode cX11_init 102 = .ok (.newarray .int, 2) := by decide +kernel
theorem dX11_init_104 : decode cX11_init 104 = .ok (.putfield 47, 3) := by decide +kernel
theorem dX11_init_107 : decode cX11_init 107 = .ok (.aload_n 0, 1) := by decide +kernel
theorem dX11_init_108 : decode cX11_init 108 = .ok (.iconst 5, 1) := by decide +kernel
theorem dX11_init_109 : decode cX11_init 109 = .ok (.newarray .int, 2) := by decide +kernel
theorem dX11_init_111 : decode cX11_init 111 = .ok (.putfield 50, 3) := by decide +kernel
theorem dX11_init_114 : decode cX11_init 114 = .ok (.aload_n 0, 1) := by decide +kernel
theorem dX11_init_115 : decode cX11_init 115 = .ok (.bipush 12, 2) := by decide +kernel
theorem dX11_init_117 : decode cX11_init 117 = .ok (.newarray .int, 2) := by decide +kernel
theorem dX11_init_119 : decode cX11_init 119 = .ok (.putfield 53, 3) := by decide +kernel
theorem dX11_init_122 : decode cX11_init 122 = .ok (.aload_n 0, 1) := by decide +kernel
theorem dX11_init_123 : decode cX11_init 123 = .ok (.bipush 10, 2) := by decide +kernel
theorem dX11_init_125 : decode cX11_init 125 = .ok (.newarray .int, 2) := by decide +kernel
theorem dX11_init_127 : decode cX11_init 127 = .ok (.putfield 56, 3) := by decide +kernel
theorem dX11_init_130 : decode cX11_init 130 = .ok (.aload_n 0, 1) := by decide +kernel
theorem dX11_init_131 : decode cX11_init 131 = .ok (.sipush 13312, 3) := by decide +kernel
theorem dX11_init_134 : decode cX11_init 134 = .ok (.newarray .long, 2) := by decide +kernel
theorem dX11_init_136 : decode cX11_init 136 = .ok (.putfield 59, 3) := by decide +kernel
theorem dX11_init_139 : decode cX11_init 139 = .ok (.aload_n 0, 1) := by decide +kernel
theorem dX11_init_140 : decode cX11_init 140 = .ok (.sipush 1024, 3) := by decide +kernel
theorem dX11_init_143 : decode cX11_init 143 = .ok (.newarray .int, 2) := by decide +kernel
theorem dX11_init_145 : decode cX11_init 145 = .ok (.putfield 63, 3) := by decide +kernel
theorem dX11_init_148 : decode cX11_init 148 = .ok (.iconst 0, 1) := by decide +kernel
theorem dX11_init_149 : decode cX11_init 149 = .ok (.istore_n 1, 1) := by decide +kernel
theorem dX11_init_150 : decode cX11_init 150 = .ok (.iload_n 1, 1) := by decide +kernel
theorem dX11_init_151 : decode cX11_init 151 = .ok (.iconst 4, 1) := by decide +kernel
theorem dX11_init_152 : decode cX11_init 152 = .ok (.if_icmp .ge 16, 3) := by decide +kernel
theorem dX11_init_155 : decode cX11_init 155 = .ok (.aload_n 0, 1) := by decide +kernel
theorem dX11_init_156 : decode cX11_init 156 = .ok (.getfield 7, 3) := by decide +kernel
theorem dX11_init_159 : decode cX11_init 159 = .ok (.iload_n 1, 1) := by decide +kernel
theorem dX11_init_160 : decode cX11_init 160 = .ok (.iconst (-1), 1) := by decide +kernel
theorem dX11_init_161 : decode cX11_init 161 = .ok (.iastore, 1) := by decide +kernel
theorem dX11_init_162 : decode cX11_init 162 = .ok (.iinc 1 1, 3) := by decide +kernel
theorem dX11_init_165 : decode cX11_init 165 = .ok (.goto (-15), 3) := by decide +kernel
theorem dX11_init_168 : decode cX11_init 168 = .ok (.aload_n 0, 1) := by decide +kernel
theorem dX11_init_169 : decode cX11_init 169 = .ok (.getfield 50, 3) := by decide +kernel
theorem dX11_init_172 : decode cX11_init 172 = .ok (.iconst 0, 1) := by decide +kernel
theorem dX11_init_173 : decode cX11_init 173 = .ok (.iconst 1, 1) := by decide +kernel
theorem dX11_init_174 : decode cX11_init 174 = .ok (.iastore, 1) := by decide +kernel
theorem dX11_init_175 : decode cX11_init 175 = .ok (.aload_n 0, 1) := by decide +kernel
theorem dX11_init_176 : decode cX11_init 176 = .ok (.getfield 50, 3) := by decide +kernel
theorem dX11_init_179 : decode cX11_init 179 = .ok (.iconst 1, 1) := by decide +kernel
theorem dX11_init_180 : decode cX11_init 180 = .ok (.iconst 5, 1) := by decide +kernel
theorem dX11_init_181 : decode cX11_init 181 = .ok (.iastore, 1) := by decide +kernel
theorem dX11_init_182 : decode cX11_init 182 = .ok (.aload_n 0, 1) := by decide +kernel
theorem dX11_init_183 : decode cX11_init 183 = .ok (.getfield 50, 3) := by decide +kernel
theorem dX11_init_186 : decode cX11_init 186 = .ok (.iconst 2, 1) := by decide +kernel
theorem dX11_init_187 : decode cX11_init 187 = .ok (.bipush 10, 2) := by decide +kernel
theorem dX11_init_189 : decode cX11_init 189 = .ok (.iastore, 1) := by decide +kernel
theorem dX11_init_190 : decode cX11_init 190 = .ok (.aload_n 0, 1) := by decide +kernel
theorem dX11_init_191 : decode cX11_init 191 = .ok (.getfield 50, 3) := by decide +kernel
theorem dX11_init_194 : decode cX11_init 194 = .ok (.iconst 3, 1) := by decide +kernel
theorem dX11_init_195 : decode cX11_init 195 = .ok (.bipush 100, 2) := by decide +kernel
theorem dX11_init_197 : decode cX11_init 197 = .ok (.iastore, 1) := by decide +kernel
theorem dX11_init_198 : decode cX11_init 198 = .ok (.aload_n 0, 1) := by decide +kernel
theorem dX11_init_199 : decode cX11_init 199 = .ok (.getfield 50, 3) := by decide +kernel
theorem dX11_init_202 : decode cX11_init 202 = .ok (.iconst 4, 1) := by decide +kernel
theorem dX11_init_203 : decode cX11_init 203 = .ok (.iconst 1, 1) := by decide +kernel
theorem dX11_init_204 : decode cX11_init 204 = .ok (.iastore, 1) := by decide +kernel
theorem dX11_init_205 : decode cX11_init 205 = .ok (.return_, 1) := by decide +kernel
theorem dX11_in_0 : decode cX11_in 0 = .ok (.lload_n 0, 1) := by decide +kernel
theorem dX11_in_1 : decode cX11_in 1 = .ok (.lload_n 2, 1) := by decide +kernel
theorem dX11_in_2 : decode cX11_in 2 = .ok (.lcmp, 1) := by decide +kernel
theorem dX11_in_3 : decode cX11_in 3 = .ok (.ifCond .lt 14, 3) := by decide +kernel
theorem dX11_in_6 : decode cX11_in 6 = .ok (.lload_n 0, 1) := by decide +kernel
theorem dX11_in_7 : decode cX11_in 7 = .ok (.lload 4, 2) := by decide +kernel
theorem dX11_in_9 : decode cX11_in 9 = .ok (.lcmp, 1) := by decide +kernel
theorem dX11_in_10 : decode cX11_in 10 = .ok (.ifCond .gt 7, 3) := by decide +kernel
theorem dX11_in_13 : decode cX11_in 13 = .ok (.iconst 1, 1) := by decide +kernel
theorem dX11_in_14 : decode cX11_in 14 = .ok (.goto 4, 3) := by decide +kernel
theorem dX11_in_17 : decode cX11_in 17 = .ok (.iconst 0, 1) := by decide +kernel
theorem dX11_in_18 : decode cX11_in 18 = .ok (.ireturn, 1) := by decide +kernel
theorem dX11_no_0 : decode cX11_no 0 = .ok (.ldc2_w 66, 3) := by decide +kernel
theorem dX11_no_3 : decode cX11_no 3 = .ok (.iload_n 0, 1) := by decide +kernel
theorem dX11_no_4 : decode cX11_no 4 = .ok (.i2l, 1) := by decide +kernel
theorem dX11_no_5 : decode cX11_no 5 = .ok (.lsub, 1) := by decide +kernel
theorem dX11_no_6 : decode cX11_no 6 = .ok (.lreturn, 1) := by decide +kernel
theorem dX11_isTwo_0 : decode cX11_isTwo 0 = .ok (.iload_n 0, 1) := by decide +kernel
theorem dX11_isTwo_1 : decode cX11_isTwo 1 = .ok (.i2l, 1) := by decide +kernel
theorem dX11_isTwo_2 : decode cX11_isTwo 2 = .ok (.lconst 0, 1) := by decide +kernel
theorem dX11_isTwo_3 : decode cX11_isTwo 3 = .ok (.lconst 1, 1) := by decide +kernel
theorem dX11_isTwo_4 : decode cX11_isTwo 4 = .ok (.invokestatic 68, 3) := by decide +kernel
theorem dX11_isTwo_7 : decode cX11_isTwo 7 = .ok (.ireturn, 1) := by decide +kernel
theorem dX11_isIn_0 : decode cX11_isIn 0 = .ok (.iload_n 0, 1) := by decide +kernel
theorem dX11_isIn_1 : decode cX11_isIn 1 = .ok (.iload_n 1, 1) := by decide +kernel
theorem dX11_isIn_2 : decode cX11_isIn 2 = .ok (.ishr, 1) := by decide +kernel
theorem dX11_isIn_3 : decode cX11_isIn 3 = .ok (.iconst 1, 1) := by decide +kernel
theorem dX11_isIn_4 : decode cX11_isIn 4 = .ok (.iand, 1) := by decide +kernel
theorem dX11_isIn_5 : decode cX11_isIn 5 = .ok (.iconst 1, 1) := by decide +kernel
theorem dX11_isIn_6 : decode cX11_isIn 6 = .ok (.if_icmp .ne 7, 3) := by decide +kernel
theorem dX11_isIn_9 : decode cX11_isIn 9 = .ok (.iconst 1, 1) := by decide +kernel
theorem dX11_isIn_10 : decode cX11_isIn 10 = .ok (.goto 4, 3) := by decide +kernel
theorem dX11_isIn_13 : decode cX11_isIn 13 = .ok (.iconst 0, 1) := by decide +kernel
theorem dX11_isIn_14 : decode cX11_isIn 14 = .ok (.ireturn, 1) := by decide +kernel
theorem dX11_ones_0 : decode cX11_ones 0 = .ok (.iconst 0, 1) := by decide +kernel
theorem dX11_ones_1 : decode cX11_ones 1 = .ok (.istore_n 1, 1) := by decide +kernel
theorem dX11_ones_2 : decode cX11_ones 2 = .ok (.iload_n 0, 1) := by decide +kernel
theorem dX11_ones_3 : decode cX11_ones 3 = .ok (.istore_n 2, 1) := by decide +kernel
theorem dX11_ones_4 : decode cX11_ones 4 = .ok (.iload_n 2, 1) := by decide +kernel
theorem dX11_ones_5 : decode cX11_ones 5 = .ok (.ifCond .eq 15, 3) := by decide +kernel
theorem dX11_ones_8 : decode cX11_ones 8 = .ok (.iinc 1 1, 3) := by decide +kernel
theorem dX11_ones_11 : decode cX11_ones 11 = .ok (.iload_n 2, 1) := by decide +kernel
theorem dX11_ones_12 : decode cX11_ones 12 = .ok (.iload_n 2, 1) := by decide +kernel
theorem dX11_ones_13 : decode cX11_ones 13 = .ok (.iconst 1, 1) := by decide +kernel
theorem dX11_ones_14 : decode cX11_ones 14 = .ok (.isub, 1) := by decide +kernel
theorem dX11_ones_15 : decode cX11_ones 15 = .ok (.iand, 1) := by decide +kernel
theorem dX11_ones_16 : decode cX11_ones 16 = .ok (.istore_n 2, 1) := by decide +kernel
theorem dX11_ones_17 : decode cX11_ones 17 = .ok (.goto (-13), 3) := by decide +kernel
theorem dX11_ones_20 : decode cX11_ones 20 = .ok (.iload_n 1, 1) := by decide +kernel
theorem dX11_ones_21 : decode cX11_ones 21 = .ok (.ireturn, 1) := by decide +kernel
theorem dX11_met_0 : decode cX11_met 0 = .ok (.aload_n 0, 1) := by decide +kernel
theorem dX11_met_1 : decode cX11_met 1 = .ok (.iload_n 1, 1) := by decide +kernel
theorem dX11_met_2 : decode cX11_met 2 = .ok (.putfield 72, 3) := by decide +kernel
theorem dX11_met_5 : decode cX11_met 5 = .ok (.bipush (-10), 2) := by decide +kernel
theorem dX11_met_7 : decode cX11_met 7 = .ok (.iload_n 1, 1) := by decide +kernel
theorem dX11_met_8 : decode cX11_met 8 = .ok (.isub, 1) := by decide +kernel
theorem dX11_met_9 : decode cX11_met 9 = .ok (.ireturn, 1) := by decide +kernel
theorem dX11_isSheet_0 : decode cX11_isSheet 0 = .ok (.iload_n 0, 1) := by decide +kernel
theorem dX11_isSheet_1 : decode cX11_isSheet 1 = .ok (.i2l, 1) := by decide +kernel
theorem dX11_isSheet_2 : decode cX11_isSheet 2 = .ok (.lconst 0, 1) := by decide +kernel
theorem dX11_isSheet_3 : decode cX11_isSheet 3 = .ok (.ldc2_w 76, 3) := by decide +kernel
theorem dX11_isSheet_6 : decode cX11_isSheet 6 = .ok (.invokestatic 68, 3) := by decide +kernel
theorem dX11_isSheet_9 : decode cX11_isSheet 9 = .ok (.ireturn, 1) := by decide +kernel
theorem dX11_sheet_0 : decode cX11_sheet 0 = .ok (.iload_n 1, 1) := by decide +kernel
theorem dX11_sheet_1 : decode cX11_sheet 1 = .ok (.invokestatic 78, 3) := by decide +kernel
theorem dX11_sheet_4 : decode cX11_sheet 4 = .ok (.ifCond .eq 21, 3) := by decide +kernel
theorem dX11_sheet_7 : decode cX11_sheet 7 = .ok (.iload_n 2, 1) := by decide +kernel
theorem dX11_sheet_8 : decode cX11_sheet 8 = .ok (.i2l, 1) := by decide +kernel
theorem dX11_sheet_9 : decode cX11_sheet 9 = .ok (.lconst 0, 1) := by decide +kernel
theorem dX11_sheet_10 : decode cX11_sheet 10 = .ok (.ldc2_w 82, 3) := by decide +kernel
theorem dX11_sheet_13 : decode cX11_sheet 13 = .ok (.invokestatic 68, 3) := by decide +kernel
theorem dX11_sheet_16 : decode cX11_sheet 16 = .ok (.ifCond .eq 9, 3) := by decide +kernel
theorem dX11_sheet_19 : decode cX11_sheet 19 = .ok (.iload_n 3, 1) := by decide +kernel
theorem dX11_sheet_20 : decode cX11_sheet 20 = .ok (.bipush 60, 2) := by decide +kernel
theorem dX11_sheet_22 : decode cX11_sheet 22 = .ok (.if_icmp .le 6, 3) := by decide +kernel
theorem dX11_sheet_25 : decode cX11_sheet 25 = .ok (.bipush (-2), 2) := by decide +kernel
theorem dX11_sheet_27 : decode cX11_sheet 27 = .ok (.ireturn, 1) := by decide +kernel
theorem dX11_sheet_28 : decode cX11_sheet 28 = .ok (.iload_n 3, 1) := by decide +kernel
theorem dX11_sheet_29 : decode cX11_sheet 29 = .ok (.ifCond .ge 9, 3) := by decide +kernel
theorem dX11_sheet_32 : decode cX11_sheet 32 = .ok (.aload_n 0, 1) := by decide +kernel
theorem dX11_sheet_33 : decode cX11_sheet 33 = .ok (.iconst 5, 1) := by decide +kernel
theorem dX11_sheet_34 : decode cX11_sheet 34 = .ok (.invokevirtual 84, 3) := by decide +kernel
theorem dX11_sheet_37 : decode cX11_sheet 37 = .ok (.ireturn, 1) := by decide +kernel
theorem dX11_sheet_38 : decode cX11_sheet 38 = .ok (.aload_n 0, 1) := by decide +kernel
theorem dX11_sheet_39 : decode cX11_sheet 39 = .ok (.getfield 7, 3) := by decide +kernel
theorem dX11_sheet_42 : decode cX11_sheet 42 = .ok (.iload_n 1, 1) := by decide +kernel
theorem dX11_sheet_43 : decode cX11_sheet 43 = .ok (.iload_n 2, 1) := by decide +kernel
theorem dX11_sheet_44 : decode cX11_sheet 44 = .ok (.iastore, 1) := by decide +kernel
theorem dX11_sheet_45 : decode cX11_sheet 45 = .ok (.aload_n 0, 1) := by decide +kernel
theorem dX11_sheet_46 : decode cX11_sheet 46 = .ok (.getfield 13, 3) := by decide +kernel
theorem dX11_sheet_49 : decode cX11_sheet 49 = .ok (.iload_n 1, 1) := by decide +kernel
theorem dX11_sheet_50 : decode cX11_sheet 50 = .ok (.iload_n 3, 1) := by decide +kernel
theorem dX11_sheet_51 : decode cX11_sheet 51 = .ok (.iastore, 1) := by decide +kernel
theorem dX11_sheet_52 : decode cX11_sheet 52 = .ok (.iconst 0, 1) := by decide +kernel
theorem dX11_sheet_53 : decode cX11_sheet 53 = .ok (.istore 4, 2) := by decide +kernel
theorem dX11_sheet_55 : decode cX11_sheet 55 = .ok (.iload 4, 2) := by decide +kernel
theorem dX11_sheet_57 : decode cX11_sheet 57 = .ok (.iload_n 3, 1) := by decide +kernel
theorem dX11_sheet_58 : decode cX11_sheet 58 = .ok (.if_icmp .ge 22, 3) := by decide +kernel
theorem dX11_sheet_61 : decode cX11_sheet 61 = .ok (.aload_n 0, 1) := by decide +kernel
theorem dX11_sheet_62 : decode cX11_sheet 62 = .ok (.getfield 16, 3) := by decide +kernel
theorem dX11_sheet_65 : decode cX11_sheet 65 = .ok (.bipush 60, 2) := by decide +kernel
theorem dX11_sheet_67 : decode cX11_sheet 67 = .ok (.iload_n 1, 1) := by decide +kernel
theorem dX11_sheet_68 : decode cX11_sheet 68 = .ok (.imul, 1) := by decide +kernel
theorem dX11_sheet_69 : decode cX11_sheet 69 = .ok (.iload 4, 2) := by decide +kernel
theorem dX11_sheet_71 : decode cX11_sheet 71 = .ok (.iadd, 1) := by decide +kernel
theorem dX11_sheet_72 : decode cX11_sheet 72 = .ok (.iconst 0, 1) := by decide +kernel
theorem dX11_sheet_73 : decode cX11_sheet 73 = .ok (.iastore, 1) := by decide +kernel
theorem dX11_sheet_74 : decode cX11_sheet 74 = .ok (.iinc 4 1, 3) := by decide +kernel
theorem dX11_sheet_77 : decode cX11_sheet 77 = .ok (.goto (-22), 3) := by decide +kernel
theorem dX11_sheet_80 : decode cX11_sheet 80 = .ok (.iload_n 3, 1) := by decide +kernel
theorem dX11_sheet_81 : decode cX11_sheet 81 = .ok (.ireturn, 1) := by decide +kernel
theorem dX11_lose_0 : decode cX11_lose 0 = .ok (.iload_n 1, 1) := by decide +kernel
theorem dX11_lose_1 : decode cX11_lose 1 = .ok (.invokestatic 78, 3) := by decide +kernel
theorem dX11_lose_4 : decode cX11_lose 4 = .ok (.ifCond .ne 6, 3) := by decide +kernel
theorem dX11_lose_7 : decode cX11_lose 7 = .ok (.bipush (-2), 2) := by decide +kernel
theorem dX11_lose_9 : decode cX11_lose 9 = .ok (.ireturn, 1) := by decide +kernel
theorem dX11_lose_10 : decode cX11_lose 10 = .ok (.aload_n 0, 1) := by decide +kernel
theorem dX11_lose_11 : decode cX11_lose 11 = .ok (.getfield 7, 3) := by decide +kernel
theorem dX11_lose_14 : decode cX11_lose 14 = .ok (.iload_n 1, 1) := by decide +kernel
theorem dX11_lose_15 : decode cX11_lose 15 = .ok (.iaload, 1) := by decide +kernel
theorem dX11_lose_16 : decode cX11_lose 16 = .ok (.ifCond .ge 9, 3) := by decide +kernel
theorem dX11_lose_19 : decode cX11_lose 19 = .ok (.aload_n 0, 1) := by decide +kernel
theorem dX11_lose_20 : decode cX11_lose 20 = .ok (.iconst 1, 1) := by decide +kernel
theorem dX11_lose_21 : decode cX11_lose 21 = .ok (.invokevirtual 84, 3) := by decide +kernel
theorem dX11_lose_24 : decode cX11_lose 24 = .ok (.ireturn, 1) := by decide +kernel
theorem dX11_lose_25 : decode cX11_lose 25 = .ok (.aload_n 0, 1) := by decide +kernel
theorem dX11_lose_26 : decode cX11_lose 26 = .ok (.getfield 7, 3) := by decide +kernel
theorem dX11_lose_29 : decode cX11_lose 29 = .ok (.iload_n 1, 1) := by decide +kernel
theorem dX11_lose_30 : decode cX11_lose 30 = .ok (.iconst (-1), 1) := by decide +kernel
theorem dX11_lose_31 : decode cX11_lose 31 = .ok (.iastore, 1) := by decide +kernel
theorem dX11_lose_32 : decode cX11_lose 32 = .ok (.aload_n 0, 1) := by decide +kernel
theorem dX11_lose_33 : decode cX11_lose 33 = .ok (.getfield 13, 3) := by decide +kernel
theorem dX11_lose_36 : decode cX11_lose 36 = .ok (.iload_n 1, 1) := by decide +kernel
theorem dX11_lose_37 : decode cX11_lose 37 = .ok (.iaload, 1) := by decide +kernel
theorem dX11_lose_38 : decode cX11_lose 38 = .ok (.ireturn, 1) := by decide +kernel
theorem dX11_lacks_0 : decode cX11_lacks 0 = .ok (.aload_n 0, 1) := by decide +kernel
theorem dX11_lacks_1 : decode cX11_lacks 1 = .ok (.getfield 7, 3) := by decide +kernel
theorem dX11_lacks_4 : decode cX11_lacks 4 = .ok (.iload_n 1, 1) := by decide +kernel
theorem dX11_lacks_5 : decode cX11_lacks 5 = .ok (.iaload, 1) := by decide +kernel
theorem dX11_lacks_6 : decode cX11_lacks 6 = .ok (.ifCond .ge 9, 3) := by decide +kernel
theorem dX11_lacks_9 : decode cX11_lacks 9 = .ok (.aload_n 0, 1) := by decide +kernel
theorem dX11_lacks_10 : decode cX11_lacks 10 = .ok (.iconst 1, 1) := by decide +kernel
theorem dX11_lacks_11 : decode cX11_lacks 11 = .ok (.invokevirtual 84, 3) := by decide +kernel
theorem dX11_lacks_14 : decode cX11_lacks 14 = .ok (.ireturn, 1) := by decide +kernel
theorem dX11_lacks_15 : decode cX11_lacks 15 = .ok (.aload_n 0, 1) := by decide +kernel
theorem dX11_lacks_16 : decode cX11_lacks 16 = .ok (.getfield 7, 3) := by decide +kernel
theorem dX11_lacks_19 : decode cX11_lacks 19 = .ok (.iload_n 1, 1) := by decide +kernel
theorem dX11_lacks_20 : decode cX11_lacks 20 = .ok (.iaload, 1) := by decide +kernel
theorem dX11_lacks_21 : decode cX11_lacks 21 = .ok (.iload_n 2, 1) := by decide +kernel
theorem dX11_lacks_22 : decode cX11_lacks 22 = .ok (.if_icmp .eq 9, 3) := by decide +kernel
theorem dX11_lacks_25 : decode cX11_lacks 25 = .ok (.aload_n 0, 1) := by decide +kernel
theorem dX11_lacks_26 : decode cX11_lacks 26 = .ok (.iconst 3, 1) := by decide +kernel
theorem dX11_lacks_27 : decode cX11_lacks 27 = .ok (.invokevirtual 84, 3) := by decide +kernel
theorem dX11_lacks_30 : decode cX11_lacks 30 = .ok (.ireturn, 1) := by decide +kernel
theorem dX11_lacks_31 : decode cX11_lacks 31 = .ok (.iload_n 3, 1) := by decide +kernel
theorem dX11_lacks_32 : decode cX11_lacks 32 = .ok (.i2l, 1) := by decide +kernel
theorem dX11_lacks_33 : decode cX11_lacks 33 = .ok (.lconst 0, 1) := by decide +kernel
theorem dX11_lacks_34 : decode cX11_lacks 34 = .ok (.aload_n 0, 1) := by decide +kernel
theorem dX11_lacks_35 : decode cX11_lacks 35 = .ok (.getfield 13, 3) := by decide +kernel
theorem dX11_lacks_38 : decode cX11_lacks 38 = .ok (.iload_n 1, 1) := by decide +kernel
theorem dX11_lacks_39 : decode cX11_lacks 39 = .ok (.iaload, 1) := by decide +kernel
theorem dX11_lacks_40 : decode cX11_lacks 40 = .ok (.iconst 1, 1) := by decide +kernel
theorem dX11_lacks_41 : decode cX11_lacks 41 = .ok (.isub, 1) := by decide +kernel
theorem dX11_lacks_42 : decode cX11_lacks 42 = .ok (.i2l, 1) := by decide +kernel
theorem dX11_lacks_43 : decode cX11_lacks 43 = .ok (.invokestatic 68, 3) := by decide +kernel
theorem dX11_lacks_46 : decode cX11_lacks 46 = .ok (.ifCond .eq 7, 3) := by decide +kernel
theorem dX11_lacks_49 : decode cX11_lacks 49 = .ok (.iconst 0, 1) := by decide +kernel
theorem dX11_lacks_50 : decode cX11_lacks 50 = .ok (.goto 8, 3) := by decide +kernel
theorem dX11_lacks_53 : decode cX11_lacks 53 = .ok (.aload_n 0, 1) := by decide +kernel
theorem dX11_lacks_54 : decode cX11_lacks 54 = .ok (.iconst 2, 1) := by decide +kernel
theorem dX11_lacks_55 : decode cX11_lacks 55 = .ok (.invokevirtual 84, 3) := by decide +kernel
theorem dX11_lacks_58 : decode cX11_lacks 58 = .ok (.ireturn, 1) := by decide +kernel
theorem dX11_cut_0 : decode cX11_cut 0 = .ok (.iload_n 0, 1) := by decide +kernel
theorem dX11_cut_1 : decode cX11_cut 1 = .ok (.ifCond .ne 8, 3) := by decide +kernel
theorem dX11_cut_4 : decode cX11_cut 4 = .ok (.iload_n 1, 1) := by decide +kernel
theorem dX11_cut_5 : decode cX11_cut 5 = .ok (.i2b, 1) := by decide +kernel
theorem dX11_cut_6 : decode cX11_cut 6 = .ok (.goto 14, 3) := by decide +kernel
theorem dX11_cut_9 : decode cX11_cut 9 = .ok (.iload_n 0, 1) := by decide +kernel
theorem dX11_cut_10 : decode cX11_cut 10 = .ok (.iconst 1, 1) := by decide +kernel
theorem dX11_cut_11 : decode cX11_cut 11 = .ok (.if_icmp .ne 8, 3) := by decide +kernel
theorem dX11_cut_14 : decode cX11_cut 14 = .ok (.iload_n 1, 1) := by decide +kernel
theorem dX11_cut_15 : decode cX11_cut 15 = .ok (.i2s, 1) := by decide +kernel
theorem dX11_cut_16 : decode cX11_cut 16 = .ok (.goto 4, 3) := by decide +kernel
theorem dX11_cut_19 : decode cX11_cut 19 = .ok (.iload_n 1, 1) := by decide +kernel
theorem dX11_cut_20 : decode cX11_cut 20 = .ok (.ireturn, 1) := by decide +kernel
theorem dX11_lay_0 : decode cX11_lay 0 = .ok (.iload_n 1, 1) := by decide +kernel
theorem dX11_lay_1 : decode cX11_lay 1 = .ok (.invokestatic 78, 3) := by decide +kernel
theorem dX11_lay_4 : decode cX11_lay 4 = .ok (.ifCond .eq 15, 3) := by decide +kernel
theorem dX11_lay_7 : decode cX11_lay 7 = .ok (.iload_n 2, 1) := by decide +kernel
theorem dX11_lay_8 : decode cX11_lay 8 = .ok (.i2l, 1) := by decide +kernel
theorem dX11_lay_9 : decode cX11_lay 9 = .ok (.lconst 0, 1) := by decide +kernel
theorem dX11_lay_10 : decode cX11_lay 10 = .ok (.ldc2_w 82, 3) := by decide +kernel
theorem dX11_lay_13 : decode cX11_lay 13 = .ok (.invokestatic 68, 3) := by decide +kernel
theorem dX11_lay_16 : decode cX11_lay 16 = .ok (.ifCond .ne 6, 3) := by decide +kernel
theorem dX11_lay_19 : decode cX11_lay 19 = .ok (.bipush (-2), 2) := by decide +kernel
theorem dX11_lay_21 : decode cX11_lay 21 = .ok (.ireturn, 1) := by decide +kernel
theorem dX11_lay_22 : decode cX11_lay 22 = .ok (.aload_n 0, 1) := by decide +kernel
theorem dX11_lay_23 : decode cX11_lay 23 = .ok (.iload_n 1, 1) := by decide +kernel
theorem dX11_lay_24 : decode cX11_lay 24 = .ok (.iload_n 2, 1) := by decide +kernel
theorem dX11_lay_25 : decode cX11_lay 25 = .ok (.iload_n 3, 1) := by decide +kernel
theorem dX11_lay_26 : decode cX11_lay 26 = .ok (.invokevirtual 88, 3) := by decide +kernel
theorem dX11_lay_29 : decode cX11_lay 29 = .ok (.istore 5, 2) := by decide +kernel
theorem dX11_lay_31 : decode cX11_lay 31 = .ok (.iload 5, 2) := by decide +kernel
theorem dX11_lay_33 : decode cX11_lay 33 = .ok (.ifCond .eq 6, 3) := by decide +kernel
theorem dX11_lay_36 : decode cX11_lay 36 = .ok (.iload 5, 2) := by decide +kernel
theorem dX11_lay_38 : decode cX11_lay 38 = .ok (.ireturn, 1) := by decide +kernel
theorem dX11_lay_39 : decode cX11_lay 39 = .ok (.aload_n 0, 1) := by decide +kernel
theorem dX11_lay_40 : decode cX11_lay 40 = .ok (.getfield 16, 3) := by decide +kernel
theorem dX11_lay_43 : decode cX11_lay 43 = .ok (.bipush 60, 2) := by decide +kernel
theorem dX11_lay_45 : decode cX11_lay 45 = .ok (.iload_n 1, 1) := by decide +kernel
theorem dX11_lay_46 : decode cX11_lay 46 = .ok (.imul, 1) := by decide +kernel
theorem dX11_lay_47 : decode cX11_lay 47 = .ok (.iload_n 3, 1) := by decide +kernel
theorem dX11_lay_48 : decode cX11_lay 48 = .ok (.iadd, 1) := by decide +kernel
theorem dX11_lay_49 : decode cX11_lay 49 = .ok (.iload_n 2, 1) := by decide +kernel
theorem dX11_lay_50 : decode cX11_lay 50 = .ok (.iload 4, 2) := by decide +kernel
theorem dX11_lay_52 : decode cX11_lay 52 = .ok (.invokestatic 92, 3) := by decide +kernel
theorem dX11_lay_55 : decode cX11_lay 55 = .ok (.iastore, 1) := by decide +kernel
theorem dX11_lay_56 : decode cX11_lay 56 = .ok (.iconst 1, 1) := by decide +kernel
theorem dX11_lay_57 : decode cX11_lay 57 = .ok (.ireturn, 1) := by decide +kernel
theorem dX11_get_0 : decode cX11_get 0 = .ok (.iload_n 1, 1) := by decide +kernel
theorem dX11_get_1 : decode cX11_get 1 = .ok (.invokestatic 78, 3) := by decide +kernel
theorem dX11_get_4 : decode cX11_get 4 = .ok (.ifCond .eq 25, 3) := by decide +kernel
theorem dX11_get_7 : decode cX11_get 7 = .ok (.iload_n 2, 1) := by decide +kernel
theorem dX11_get_8 : decode cX11_get 8 = .ok (.i2l, 1) := by decide +kernel
theorem dX11_get_9 : decode cX11_get 9 = .ok (.lconst 0, 1) := by decide +kernel
theorem dX11_get_10 : decode cX11_get 10 = .ok (.ldc2_w 82, 3) := by decide +kernel
theorem dX11_get_13 : decode cX11_get 13 = .ok (.invokestatic 68, 3) := by decide +kernel
theorem dX11_get_16 : decode cX11_get 16 = .ok (.ifCond .eq 13, 3) := by decide +kernel
theorem dX11_get_19 : decode cX11_get 19 = .ok (.aload_n 0, 1) := by decide +kernel
theorem dX11_get_20 : decode cX11_get 20 = .ok (.iload_n 1, 1) := by decide +kernel
theorem dX11_get_21 : decode cX11_get 21 = .ok (.iload_n 2, 1) := by decide +kernel
theorem dX11_get_22 : decode cX11_get 22 = .ok (.iload_n 3, 1) := by decide +kernel
theorem dX11_get_23 : decode cX11_get 23 = .ok (.invokevirtual 88, 3) := by decide +kernel
theorem dX11_get_26 : decode cX11_get 26 = .ok (.ifCond .eq 6, 3) := by decide +kernel
theorem dX11_get_29 : decode cX11_get 29 = .ok (.ldc 96, 2) := by decide +kernel
theorem dX11_get_31 : decode cX11_get 31 = .ok (.ireturn, 1) := by decide +kernel
theorem dX11_get_32 : decode cX11_get 32 = .ok (.aload_n 0, 1) := by decide +kernel
theorem dX11_get_33 : decode cX11_get 33 = .ok (.getfield 16, 3) := by decide +kernel
theorem dX11_get_36 : decode cX11_get 36 = .ok (.bipush 60, 2) := by decide +kernel
theorem dX11_get_38 : decode cX11_get 38 = .ok (.iload_n 1, 1) := by decide +kernel
theorem dX11_get_39 : decode cX11_get 39 = .ok (.imul, 1) := by decide +kernel
theorem dX11_get_40 : decode cX11_get 40 = .ok (.iload_n 3, 1) := by decide +kernel
theorem dX11_get_41 : decode cX11_get 41 = .ok (.iadd, 1) := by decide +kernel
theorem dX11_get_42 : decode cX11_get 42 = .ok (.iaload, 1) := by decide +kernel
theorem dX11_get_43 : decode cX11_get 43 = .ok (.ireturn, 1) := by decide +kernel
theorem dX11_copy_0 : decode cX11_copy 0 = .ok (.iload_n 1, 1) := by decide +kernel
theorem dX11_copy_1 : decode cX11_copy 1 = .ok (.invokestatic 78, 3) := by decide +kernel
theorem dX11_copy_4 : decode cX11_copy 4 = .ok (.ifCond .eq 10, 3) := by decide +kernel
theorem dX11_copy_7 : decode cX11_copy 7 = .ok (.iload_n 3, 1) := by decide +kernel
theorem dX11_copy_8 : decode cX11_copy 8 = .ok (.invokestatic 78, 3) := by decide +kernel
theorem dX11_copy_11 : decode cX11_copy 11 = .ok (.ifCond .ne 6, 3) := by decide +kernel
theorem dX11_copy_14 : decode cX11_copy 14 = .ok (.bipush (-2), 2) := by decide +kernel
theorem dX11_copy_16 : decode cX11_copy 16 = .ok (.ireturn, 1) := by decide +kernel
theorem dX11_copy_17 : decode cX11_copy 17 = .ok (.aload_n 0, 1) := by decide +kernel
theorem dX11_copy_18 : decode cX11_copy 18 = .ok (.getfield 7, 3) := by decide +kernel
theorem dX11_copy_21 : decode cX11_copy 21 = .ok (.iload_n 1, 1) := by decide +kernel
theorem dX11_copy_22 : decode cX11_copy 22 = .ok (.iaload, 1) := by decide +kernel
theorem dX11_copy_23 : decode cX11_copy 23 = .ok (.ifCond .lt 12, 3) := by decide +kernel
theorem dX11_copy_26 : decode cX11_copy 26 = .ok (.aload_n 0, 1) := by decide +kernel
theorem dX11_copy_27 : decode cX11_copy 27 = .ok (.getfield 7, 3) := by decide +kernel
theorem dX11_copy_30 : decode cX11_copy 30 = .ok (.iload_n 3, 1) := by decide +kernel
theorem dX11_copy_31 : decode cX11_copy 31 = .ok (.iaload, 1) := by decide +kernel
theorem dX11_copy_32 : decode cX11_copy 32 = .ok (.ifCond .ge 9, 3) := by decide +kernel
theorem dX11_copy_35 : decode cX11_copy 35 = .ok (.aload_n 0, 1) := by decide +kernel
theorem dX11_copy_36 : decode cX11_copy 36 = .ok (.iconst 1, 1) := by decide +kernel
theorem dX11_copy_37 : decode cX11_copy 37 = .ok (.invokevirtual 84, 3) := by decide +kernel
theorem dX11_copy_40 : decode cX11_copy 40 = .ok (.ireturn, 1) := by decide +kernel
theorem dX11_copy_41 : decode cX11_copy 41 = .ok (.aload_n 0, 1) := by decide +kernel
theorem dX11_copy_42 : decode cX11_copy 42 = .ok (.getfield 7, 3) := by decide +kernel
theorem dX11_copy_45 : decode cX11_copy 45 = .ok (.iload_n 1, 1) := by decide +kernel
theorem dX11_copy_46 : decode cX11_copy 46 = .ok (.iaload, 1) := by decide +kernel
theorem dX11_copy_47 : decode cX11_copy 47 = .ok (.aload_n 0, 1) := by decide +kernel
theorem dX11_copy_48 : decode cX11_copy 48 = .ok (.getfield 7, 3) := by decide +kernel
theorem dX11_copy_51 : decode cX11_copy 51 = .ok (.iload_n 3, 1) := by decide +kernel
theorem dX11_copy_52 : decode cX11_copy 52 = .ok (.iaload, 1) := by decide +kernel
theorem dX11_copy_53 : decode cX11_copy 53 = .ok (.if_icmp .eq 9, 3) := by decide +kernel
theorem dX11_copy_56 : decode cX11_copy 56 = .ok (.aload_n 0, 1) := by decide +kernel
theorem dX11_copy_57 : decode cX11_copy 57 = .ok (.iconst 4, 1) := by decide +kernel
theorem dX11_copy_58 : decode cX11_copy 58 = .ok (.invokevirtual 84, 3) := by decide +kernel
theorem dX11_copy_61 : decode cX11_copy 61 = .ok (.ireturn, 1) := by decide +kernel
theorem dX11_copy_62 : decode cX11_copy 62 = .ok (.iload_n 2, 1) := by decide +kernel
theorem dX11_copy_63 : decode cX11_copy 63 = .ok (.ifCond .lt 48, 3) := by decide +kernel
theorem dX11_copy_66 : decode cX11_copy 66 = .ok (.iload 4, 2) := by decide +kernel
theorem dX11_copy_68 : decode cX11_copy 68 = .ok (.ifCond .lt 43, 3) := by decide +kernel
theorem dX11_copy_71 : decode cX11_copy 71 = .ok (.iload 5, 2) := by decide +kernel
theorem dX11_copy_73 : decode cX11_copy 73 = .ok (.ifCond .lt 38, 3) := by decide +kernel
theorem dX11_copy_76 : decode cX11_copy 76 = .ok (.iload_n 2, 1) := by decide +kernel
theorem dX11_copy_77 : decode cX11_copy 77 = .ok (.i2l, 1) := by decide +kernel
theorem dX11_copy_78 : decode cX11_copy 78 = .ok (.iload 5, 2) := by decide +kernel
theorem dX11_copy_80 : decode cX11_copy 80 = .ok (.i2l, 1) := by decide +kernel
theorem dX11_copy_81 : decode cX11_copy 81 = .ok (.ladd, 1) := by decide +kernel
theorem dX11_copy_82 : decode cX11_copy 82 = .ok (.aload_n 0, 1) := by decide +kernel
theorem dX11_copy_83 : decode cX11_copy 83 = .ok (.getfield 13, 3) := by decide +kernel
theorem dX11_copy_86 : decode cX11_copy 86 = .ok (.iload_n 1, 1) := by decide +kernel
theorem dX11_copy_87 : decode cX11_copy 87 = .ok (.iaload, 1) := by decide +kernel
theorem dX11_copy_88 : decode cX11_copy 88 = .ok (.i2l, 1) := by decide +kernel
theorem dX11_copy_89 : decode cX11_copy 89 = .ok (.lcmp, 1) := by decide +kernel
theorem dX11_copy_90 : decode cX11_copy 90 = .ok (.ifCond .gt 21, 3) := by decide +kernel
theorem dX11_copy_93 : decode cX11_copy 93 = .ok (.iload 4, 2) := by decide +kernel
theorem dX11_copy_95 : decode cX11_copy 95 = .ok (.i2l, 1) := by decide +kernel
theorem dX11_copy_96 : decode cX11_copy 96 = .ok (.iload 5, 2) := by decide +kernel
theorem dX11_copy_98 : decode cX11_copy 98 = .ok (.i2l, 1) := by decide +kernel
theorem dX11_copy_99 : decode cX11_copy 99 = .ok (.ladd, 1) := by decide +kernel
theorem dX11_copy_100 : decode cX11_copy 100 = .ok (.aload_n 0, 1) := by decide +kernel
theorem dX11_copy_101 : decode cX11_copy 101 = .ok (.getfield 13, 3) := by decide +kernel
theorem dX11_copy_104 : decode cX11_copy 104 = .ok (.iload_n 3, 1) := by decide +kernel
theorem dX11_copy_105 : decode cX11_copy 105 = .ok (.iaload, 1) := by decide +kernel
theorem dX11_copy_106 : decode cX11_copy 106 = .ok (.i2l, 1) := by decide +kernel
theorem dX11_copy_107 : decode cX11_copy 107 = .ok (.lcmp, 1) := by decide +kernel
theorem dX11_copy_108 : decode cX11_copy 108 = .ok (.ifCond .le 9, 3) := by decide +kernel
theorem dX11_copy_111 : decode cX11_copy 111 = .ok (.aload_n 0, 1) := by decide +kernel
theorem dX11_copy_112 : decode cX11_copy 112 = .ok (.iconst 2, 1) := by decide +kernel
theorem dX11_copy_113 : decode cX11_copy 113 = .ok (.invokevirtual 84, 3) := by decide +kernel
theorem dX11_copy_116 : decode cX11_copy 116 = .ok (.ireturn, 1) := by decide +kernel
theorem dX11_copy_117 : decode cX11_copy 117 = .ok (.iconst 0, 1) := by decide +kernel
theorem dX11_copy_118 : decode cX11_copy 118 = .ok (.istore 6, 2) := by decide +kernel
theorem dX11_copy_120 : decode cX11_copy 120 = .ok (.iload 6, 2) := by decide +kernel
theorem dX11_copy_122 : decode cX11_copy 122 = .ok (.iload 5, 2) := by decide +kernel
theorem dX11_copy_124 : decode cX11_copy 124 = .ok (.if_icmp .ge 30, 3) := by decide +kernel
theorem dX11_copy_127 : decode cX11_copy 127 = .ok (.aload_n 0, 1) := by decide +kernel
theorem dX11_copy_128 : decode cX11_copy 128 = .ok (.getfield 19, 3) := by decide +kernel
theorem dX11_copy_131 : decode cX11_copy 131 = .ok (.iload 6, 2) := by decide +kernel
theorem dX11_copy_133 : decode cX11_copy 133 = .ok (.aload_n 0, 1) := by decide +kernel
theorem dX11_copy_134 : decode cX11_copy 134 = .ok (.getfield 16, 3) := by decide +kernel
theorem dX11_copy_137 : decode cX11_copy 137 = .ok (.bipush 60, 2) := by decide +kernel
theorem dX11_copy_139 : decode cX11_copy 139 = .ok (.iload_n 1, 1) := by decide +kernel
theorem dX11_copy_140 : decode cX11_copy 140 = .ok (.imul, 1) := by decide +kernel
theorem dX11_copy_141 : decode cX11_copy 141 = .ok (.iload_n 2, 1) := by decide +kernel
theorem dX11_copy_142 : decode cX11_copy 142 = .ok (.iadd, 1) := by decide +kernel
theorem dX11_copy_143 : decode cX11_copy 143 = .ok (.iload 6, 2) := by decide +kernel
theorem dX11_copy_145 : decode cX11_copy 145 = .ok (.iadd, 1) := by decide +kernel
theorem dX11_copy_146 : decode cX11_copy 146 = .ok (.iaload, 1) := by decide +kernel
theorem dX11_copy_147 : decode cX11_copy 147 = .ok (.iastore, 1) := by decide +kernel
theorem dX11_copy_148 : decode cX11_copy 148 = .ok (.iinc 6 1, 3) := by decide +kernel
theorem dX11_copy_151 : decode cX11_copy 151 = .ok (.goto (-31), 3) := by decide +kernel
theorem dX11_copy_154 : decode cX11_copy 154 = .ok (.iconst 0, 1) := by decide +kernel
theorem dX11_copy_155 : decode cX11_copy 155 = .ok (.istore 6, 2) := by decide +kernel
theorem dX11_copy_157 : decode cX11_copy 157 = .ok (.iload 6, 2) := by decide +kernel
theorem dX11_copy_159 : decode cX11_copy 159 = .ok (.iload 5, 2) := by decide +kernel
theorem dX11_copy_161 : decode cX11_copy 161 = .ok (.if_icmp .ge 31, 3) := by decide +kernel
theorem dX11_copy_164 : decode cX11_copy 164 = .ok (.aload_n 0, 1) := by decide +kernel
theorem dX11_copy_165 : decode cX11_copy 165 = .ok (.getfield 16, 3) := by decide +kernel
theorem dX11_copy_168 : decode cX11_copy 168 = .ok (.bipush 60, 2) := by decide +kernel
theorem dX11_copy_170 : decode cX11_copy 170 = .ok (.iload_n 3, 1) := by decide +kernel
theorem dX11_copy_171 : decode cX11_copy 171 = .ok (.imul, 1) := by decide +kernel
theorem dX11_copy_172 : decode cX11_copy 172 = .ok (.iload 4, 2) := by decide +kernel
theorem dX11_copy_174 : decode cX11_copy 174 = .ok (.iadd, 1) := by decide +kernel
theorem dX11_copy_175 : decode cX11_copy 175 = .ok (.iload 6, 2) := by decide +kernel
theorem dX11_copy_177 : decode cX11_copy 177 = .ok (.iadd, 1) := by decide +kernel
theorem dX11_copy_178 : decode cX11_copy 178 = .ok (.aload_n 0, 1) := by decide +kernel
theorem dX11_copy_179 : decode cX11_copy 179 = .ok (.getfield 19, 3) := by decide +kernel
theorem dX11_copy_182 : decode cX11_copy 182 = .ok (.iload 6, 2) := by decide +kernel
theorem dX11_copy_184 : decode cX11_copy 184 = .ok (.iaload, 1) := by decide +kernel
theorem dX11_copy_185 : decode cX11_copy 185 = .ok (.iastore, 1) := by decide +kernel
theorem dX11_copy_186 : decode cX11_copy 186 = .ok (.iinc 6 1, 3) := by decide +kernel
theorem dX11_copy_189 : decode cX11_copy 189 = .ok (.goto (-32), 3) := by decide +kernel
theorem dX11_copy_192 : decode cX11_copy 192 = .ok (.iconst 1, 1) := by decide +kernel
theorem dX11_copy_193 : decode cX11_copy 193 = .ok (.ireturn, 1) := by decide +kernel
theorem dX11_isText_0 : decode cX11_isText 0 = .ok (.iload_n 0, 1) := by decide +kernel
theorem dX11_isText_1 : decode cX11_isText 1 = .ok (.i2l, 1) := by decide +kernel
theorem dX11_isText_2 : decode cX11_isText 2 = .ok (.lconst 0, 1) := by decide +kernel
theorem dX11_isText_3 : decode cX11_isText 3 = .ok (.ldc2_w 82, 3) := by decide +kernel
theorem dX11_isText_6 : decode cX11_isText 6 = .ok (.invokestatic 68, 3) := by decide +kernel
theorem dX11_isText_9 : decode cX11_isText 9 = .ok (.ireturn, 1) := by decide +kernel
theorem dX11_room_0 : decode cX11_room 0 = .ok (.iload_n 0, 1) := by decide +kernel
theorem dX11_room_1 : decode cX11_room 1 = .ok (.ifCond .ne 8, 3) := by decide +kernel
theorem dX11_room_4 : decode cX11_room 4 = .ok (.bipush 80, 2) := by decide +kernel
theorem dX11_room_6 : decode cX11_room 6 = .ok (.goto 15, 3) := by decide +kernel
theorem dX11_room_9 : decode cX11_room 9 = .ok (.iload_n 0, 1) := by decide +kernel
theorem dX11_room_10 : decode cX11_room 10 = .ok (.iconst 1, 1) := by decide +kernel
theorem dX11_room_11 : decode cX11_room 11 = .ok (.if_icmp .ne 8, 3) := by decide +kernel
theorem dX11_room_14 : decode cX11_room 14 = .ok (.bipush 40, 2) := by decide +kernel
theorem dX11_room_16 : decode cX11_room 16 = .ok (.goto 5, 3) := by decide +kernel
theorem dX11_room_19 : decode cX11_room 19 = .ok (.bipush 6, 2) := by decide +kernel
theorem dX11_room_21 : decode cX11_room 21 = .ok (.ireturn, 1) := by decide +kernel
theorem dX11_type_0 : decode cX11_type 0 = .ok (.iload_n 1, 1) := by decide +kernel
theorem dX11_type_1 : decode cX11_type 1 = .ok (.invokestatic 97, 3) := by decide +kernel
theorem dX11_type_4 : decode cX11_type 4 = .ok (.ifCond .eq 15, 3) := by decide +kernel
theorem dX11_type_7 : decode cX11_type 7 = .ok (.iload_n 2, 1) := by decide +kernel
theorem dX11_type_8 : decode cX11_type 8 = .ok (.i2l, 1) := by decide +kernel
theorem dX11_type_9 : decode cX11_type 9 = .ok (.lconst 0, 1) := by decide +kernel
theorem dX11_type_10 : decode cX11_type 10 = .ok (.ldc2_w 100, 3) := by decide +kernel
theorem dX11_type_13 : decode cX11_type 13 = .ok (.invokestatic 68, 3) := by decide +kernel
theorem dX11_type_16 : decode cX11_type 16 = .ok (.ifCond .ne 6, 3) := by decide +kernel
theorem dX11_type_19 : decode cX11_type 19 = .ok (.bipush (-2), 2) := by decide +kernel
theorem dX11_type_21 : decode cX11_type 21 = .ok (.ireturn, 1) := by decide +kernel
theorem dX11_type_22 : decode cX11_type 22 = .ok (.aload_n 0, 1) := by decide +kernel
theorem dX11_type_23 : decode cX11_type 23 = .ok (.getfield 25, 3) := by decide +kernel
theorem dX11_type_26 : decode cX11_type 26 = .ok (.iload_n 1, 1) := by decide +kernel
theorem dX11_type_27 : decode cX11_type 27 = .ok (.iaload, 1) := by decide +kernel
theorem dX11_type_28 : decode cX11_type 28 = .ok (.iload_n 1, 1) := by decide +kernel
theorem dX11_type_29 : decode cX11_type 29 = .ok (.invokestatic 102, 3) := by decide +kernel
theorem dX11_type_32 : decode cX11_type 32 = .ok (.if_icmp .ne 6, 3) := by decide +kernel
theorem dX11_type_35 : decode cX11_type 35 = .ok (.bipush (-4), 2) := by decide +kernel
theorem dX11_type_37 : decode cX11_type 37 = .ok (.ireturn, 1) := by decide +kernel
theorem dX11_type_38 : decode cX11_type 38 = .ok (.aload_n 0, 1) := by decide +kernel
theorem dX11_type_39 : decode cX11_type 39 = .ok (.getfield 22, 3) := by decide +kernel
theorem dX11_type_42 : decode cX11_type 42 = .ok (.bipush 80, 2) := by decide +kernel
theorem dX11_type_44 : decode cX11_type 44 = .ok (.iload_n 1, 1) := by decide +kernel
theorem dX11_type_45 : decode cX11_type 45 = .ok (.imul, 1) := by decide +kernel
theorem dX11_type_46 : decode cX11_type 46 = .ok (.aload_n 0, 1) := by decide +kernel
theorem dX11_type_47 : decode cX11_type 47 = .ok (.getfield 25, 3) := by decide +kernel
theorem dX11_type_50 : decode cX11_type 50 = .ok (.iload_n 1, 1) := by decide +kernel
theorem dX11_type_51 : decode cX11_type 51 = .ok (.iaload, 1) := by decide +kernel
theorem dX11_type_52 : decode cX11_type 52 = .ok (.iadd, 1) := by decide +kernel
theorem dX11_type_53 : decode cX11_type 53 = .ok (.iload_n 2, 1) := by decide +kernel
theorem dX11_type_54 : decode cX11_type 54 = .ok (.iastore, 1) := by decide +kernel
theorem dX11_type_55 : decode cX11_type 55 = .ok (.aload_n 0, 1) := by decide +kernel
theorem dX11_type_56 : decode cX11_type 56 = .ok (.getfield 25, 3) := by decide +kernel
theorem dX11_type_59 : decode cX11_type 59 = .ok (.iload_n 1, 1) := by decide +kernel
theorem dX11_type_60 : decode cX11_type 60 = .ok (.dup2, 1) := by decide +kernel
theorem dX11_type_61 : decode cX11_type 61 = .ok (.iaload, 1) := by decide +kernel
theorem dX11_type_62 : decode cX11_type 62 = .ok (.iconst 1, 1) := by decide +kernel
theorem dX11_type_63 : decode cX11_type 63 = .ok (.iadd, 1) := by decide +kernel
theorem dX11_type_64 : decode cX11_type 64 = .ok (.iastore, 1) := by decide +kernel
theorem dX11_type_65 : decode cX11_type 65 = .ok (.aload_n 0, 1) := by decide +kernel
theorem dX11_type_66 : decode cX11_type 66 = .ok (.getfield 25, 3) := by decide +kernel
theorem dX11_type_69 : decode cX11_type 69 = .ok (.iload_n 1, 1) := by decide +kernel
theorem dX11_type_70 : decode cX11_type 70 = .ok (.iaload, 1) := by decide +kernel
theorem dX11_type_71 : decode cX11_type 71 = .ok (.ireturn, 1) := by decide +kernel
theorem dX11_wipe_0 : decode cX11_wipe 0 = .ok (.iload_n 1, 1) := by decide +kernel
theorem dX11_wipe_1 : decode cX11_wipe 1 = .ok (.invokestatic 97, 3) := by decide +kernel
theorem dX11_wipe_4 : decode cX11_wipe 4 = .ok (.ifCond .ne 6, 3) := by decide +kernel
theorem dX11_wipe_7 : decode cX11_wipe 7 = .ok (.bipush (-2), 2) := by decide +kernel
theorem dX11_wipe_9 : decode cX11_wipe 9 = .ok (.ireturn, 1) := by decide +kernel
theorem dX11_wipe_10 : decode cX11_wipe 10 = .ok (.aload_n 0, 1) := by decide +kernel
theorem dX11_wipe_11 : decode cX11_wipe 11 = .ok (.getfield 25, 3) := by decide +kernel
theorem dX11_wipe_14 : decode cX11_wipe 14 = .ok (.iload_n 1, 1) := by decide +kernel
theorem dX11_wipe_15 : decode cX11_wipe 15 = .ok (.iaload, 1) := by decide +kernel
theorem dX11_wipe_16 : decode cX11_wipe 16 = .ok (.istore_n 2, 1) := by decide +kernel
theorem dX11_wipe_17 : decode cX11_wipe 17 = .ok (.aload_n 0, 1) := by decide +kernel
theorem dX11_wipe_18 : decode cX11_wipe 18 = .ok (.getfield 25, 3) := by decide +kernel
theorem dX11_wipe_21 : decode cX11_wipe 21 = .ok (.iload_n 1, 1) := by decide +kernel
theorem dX11_wipe_22 : decode cX11_wipe 22 = .ok (.iconst 0, 1) := by decide +kernel
theorem dX11_wipe_23 : decode cX11_wipe 23 = .ok (.iastore, 1) := by decide +kernel
theorem dX11_wipe_24 : decode cX11_wipe 24 = .ok (.iload_n 2, 1) := by decide +kernel
theorem dX11_wipe_25 : decode cX11_wipe 25 = .ok (.ireturn, 1) := by decide +kernel
theorem dX11_undo_0 : decode cX11_undo 0 = .ok (.iload_n 1, 1) := by decide +kernel
theorem dX11_undo_1 : decode cX11_undo 1 = .ok (.invokestatic 97, 3) := by decide +kernel
theorem dX11_undo_4 : decode cX11_undo 4 = .ok (.ifCond .ne 6, 3) := by decide +kernel
theorem dX11_undo_7 : decode cX11_undo 7 = .ok (.bipush (-2), 2) := by decide +kernel
theorem dX11_undo_9 : decode cX11_undo 9 = .ok (.ireturn, 1) := by decide +kernel
theorem dX11_undo_10 : decode cX11_undo 10 = .ok (.aload_n 0, 1) := by decide +kernel
theorem dX11_undo_11 : decode cX11_undo 11 = .ok (.getfield 25, 3) := by decide +kernel
theorem dX11_undo_14 : decode cX11_undo 14 = .ok (.iload_n 1, 1) := by decide +kernel
theorem dX11_undo_15 : decode cX11_undo 15 = .ok (.iaload, 1) := by decide +kernel
theorem dX11_undo_16 : decode cX11_undo 16 = .ok (.ifCond .ne 6, 3) := by decide +kernel
theorem dX11_undo_19 : decode cX11_undo 19 = .ok (.bipush (-3), 2) := by decide +kernel
theorem dX11_undo_21 : decode cX11_undo 21 = .ok (.ireturn, 1) := by decide +kernel
theorem dX11_undo_22 : decode cX11_undo 22 = .ok (.aload_n 0, 1) := by decide +kernel
theorem dX11_undo_23 : decode cX11_undo 23 = .ok (.getfield 25, 3) := by decide +kernel
theorem dX11_undo_26 : decode cX11_undo 26 = .ok (.iload_n 1, 1) := by decide +kernel
theorem dX11_undo_27 : decode cX11_undo 27 = .ok (.dup2, 1) := by decide +kernel
theorem dX11_undo_28 : decode cX11_undo 28 = .ok (.iaload, 1) := by decide +kernel
theorem dX11_undo_29 : decode cX11_undo 29 = .ok (.iconst 1, 1) := by decide +kernel
theorem dX11_undo_30 : decode cX11_undo 30 = .ok (.isub, 1) := by decide +kernel
theorem dX11_undo_31 : decode cX11_undo 31 = .ok (.iastore, 1) := by decide +kernel
theorem dX11_undo_32 : decode cX11_undo 32 = .ok (.aload_n 0, 1) := by decide +kernel
theorem dX11_undo_33 : decode cX11_undo 33 = .ok (.getfield 25, 3) := by decide +kernel
theorem dX11_undo_36 : decode cX11_undo 36 = .ok (.iload_n 1, 1) := by decide +kernel
theorem dX11_undo_37 : decode cX11_undo 37 = .ok (.iaload, 1) := by decide +kernel
theorem dX11_undo_38 : decode cX11_undo 38 = .ok (.ireturn, 1) := by decide +kernel
theorem dX11_here_0 : decode cX11_here 0 = .ok (.aload_n 0, 1) := by decide +kernel
theorem dX11_here_1 : decode cX11_here 1 = .ok (.getfield 105, 3) := by decide +kernel
theorem dX11_here_4 : decode cX11_here 4 = .ok (.aload_n 0, 1) := by decide +kernel
theorem dX11_here_5 : decode cX11_here 5 = .ok (.getfield 25, 3) := by decide +kernel
theorem dX11_here_8 : decode cX11_here 8 = .ok (.iload_n 1, 1) := by decide +kernel
theorem dX11_here_9 : decode cX11_here 9 = .ok (.iaload, 1) := by decide +kernel
theorem dX11_here_10 : decode cX11_here 10 = .ok (.if_icmp .ge 20, 3) := by decide +kernel
theorem dX11_here_13 : decode cX11_here 13 = .ok (.aload_n 0, 1) := by decide +kernel
theorem dX11_here_14 : decode cX11_here 14 = .ok (.getfield 22, 3) := by decide +kernel
theorem dX11_here_17 : decode cX11_here 17 = .ok (.bipush 80, 2) := by decide +kernel
theorem dX11_here_19 : decode cX11_here 19 = .ok (.iload_n 1, 1) := by decide +kernel
theorem dX11_here_20 : decode cX11_here 20 = .ok (.imul, 1) := by decide +kernel
theorem dX11_here_21 : decode cX11_here 21 = .ok (.aload_n 0, 1) := by decide +kernel
theorem dX11_here_22 : decode cX11_here 22 = .ok (.getfield 105, 3) := by decide +kernel
theorem dX11_here_25 : decode cX11_here 25 = .ok (.iadd, 1) := by decide +kernel
theorem dX11_here_26 : decode cX11_here 26 = .ok (.iaload, 1) := by decide +kernel
theorem dX11_here_27 : decode cX11_here 27 = .ok (.goto 4, 3) := by decide +kernel
theorem dX11_here_30 : decode cX11_here 30 = .ok (.iconst (-1), 1) := by decide +kernel
theorem dX11_here_31 : decode cX11_here 31 = .ok (.ireturn, 1) := by decide +kernel
theorem dX11_letter_0 : decode cX11_letter 0 = .ok (.aload_n 0, 1) := by decide +kernel
theorem dX11_letter_1 : decode cX11_letter 1 = .ok (.iload_n 1, 1) := by decide +kernel
theorem dX11_letter_2 : decode cX11_letter 2 = .ok (.invokevirtual 108, 3) := by decide +kernel
theorem dX11_letter_5 : decode cX11_letter 5 = .ok (.bipush 97, 2) := by decide +kernel
theorem dX11_letter_7 : decode cX11_letter 7 = .ok (.isub, 1) := by decide +kernel
theorem dX11_letter_8 : decode cX11_letter 8 = .ok (.istore_n 2, 1) := by decide +kernel
theorem dX11_letter_9 : decode cX11_letter 9 = .ok (.iload_n 2, 1) := by decide +kernel
theorem dX11_letter_10 : decode cX11_letter 10 = .ok (.i2l, 1) := by decide +kernel
theorem dX11_letter_11 : decode cX11_letter 11 = .ok (.lconst 0, 1) := by decide +kernel
theorem dX11_letter_12 : decode cX11_letter 12 = .ok (.ldc2_w 111, 3) := by decide +kernel
theorem dX11_letter_15 : decode cX11_letter 15 = .ok (.invokestatic 68, 3) := by decide +kernel
theorem dX11_letter_18 : decode cX11_letter 18 = .ok (.ifCond .eq 7, 3) := by decide +kernel
theorem dX11_letter_21 : decode cX11_letter 21 = .ok (.iload_n 2, 1) := by decide +kernel
theorem dX11_letter_22 : decode cX11_letter 22 = .ok (.goto 4, 3) := by decide +kernel
theorem dX11_letter_25 : decode cX11_letter 25 = .ok (.iconst (-1), 1) := by decide +kernel
theorem dX11_letter_26 : decode cX11_letter 26 = .ok (.ireturn, 1) := by decide +kernel
theorem dX11_readsName_0 : decode cX11_readsName 0 = .ok (.aload_n 0, 1) := by decide +kernel
theorem dX11_readsName_1 : decode cX11_readsName 1 = .ok (.iconst 0, 1) := by decide +kernel
theorem dX11_readsName_2 : decode cX11_readsName 2 = .ok (.invokevirtual 108, 3) := by decide +kernel
theorem dX11_readsName_5 : decode cX11_readsName 5 = .ok (.bipush 48, 2) := by decide +kernel
theorem dX11_readsName_7 : decode cX11_readsName 7 = .ok (.isub, 1) := by decide +kernel
theorem dX11_readsName_8 : decode cX11_readsName 8 = .ok (.istore_n 1, 1) := by decide +kernel
theorem dX11_readsName_9 : decode cX11_readsName 9 = .ok (.aload_n 0, 1) := by decide +kernel
theorem dX11_readsName_10 : decode cX11_readsName 10 = .ok (.getfield 113, 3) := by decide +kernel
theorem dX11_readsName_13 : decode cX11_readsName 13 = .ok (.bipush 10, 2) := by decide +kernel
theorem dX11_readsName_15 : decode cX11_readsName 15 = .ok (.if_icmp .eq 15, 3) := by decide +kernel
theorem dX11_readsName_18 : decode cX11_readsName 18 = .ok (.iload_n 1, 1) := by decide +kernel
theorem dX11_readsName_19 : decode cX11_readsName 19 = .ok (.i2l, 1) := by decide +kernel
theorem dX11_readsName_20 : decode cX11_readsName 20 = .ok (.lconst 1, 1) := by decide +kernel
theorem dX11_readsName_21 : decode cX11_readsName 21 = .ok (.ldc2_w 116, 3) := by decide +kernel
theorem dX11_readsName_24 : decode cX11_readsName 24 = .ok (.invokestatic 68, 3) := by decide +kernel
theorem dX11_readsName_27 : decode cX11_readsName 27 = .ok (.ifCond .ne 5, 3) := by decide +kernel
theorem dX11_readsName_30 : decode cX11_readsName 30 = .ok (.iconst 0, 1) := by decide +kernel
theorem dX11_readsName_31 : decode cX11_readsName 31 = .ok (.ireturn, 1) := by decide +kernel
theorem dX11_readsName_32 : decode cX11_readsName 32 = .ok (.aload_n 0, 1) := by decide +kernel
theorem dX11_readsName_33 : decode cX11_readsName 33 = .ok (.dup, 1) := by decide +kernel
theorem dX11_readsName_34 : decode cX11_readsName 34 = .ok (.getfield 105, 3) := by decide +kernel
theorem dX11_readsName_37 : decode cX11_readsName 37 = .ok (.iconst 1, 1) := by decide +kernel
theorem dX11_readsName_38 : decode cX11_readsName 38 = .ok (.iadd, 1) := by decide +kernel
theorem dX11_readsName_39 : decode cX11_readsName 39 = .ok (.putfield 105, 3) := by decide +kernel
theorem dX11_readsName_42 : decode cX11_readsName 42 = .ok (.iconst 0, 1) := by decide +kernel
theorem dX11_readsName_43 : decode cX11_readsName 43 = .ok (.istore_n 2, 1) := by decide +kernel
theorem dX11_readsName_44 : decode cX11_readsName 44 = .ok (.aload_n 0, 1) := by decide +kernel
theorem dX11_readsName_45 : decode cX11_readsName 45 = .ok (.iconst 0, 1) := by decide +kernel
theorem dX11_readsName_46 : decode cX11_readsName 46 = .ok (.invokevirtual 118, 3) := by decide +kernel
theorem dX11_readsName_49 : decode cX11_readsName 49 = .ok (.iconst (-1), 1) := by decide +kernel
theorem dX11_readsName_50 : decode cX11_readsName 50 = .ok (.if_icmp .eq 44, 3) := by decide +kernel
theorem dX11_readsName_53 : decode cX11_readsName 53 = .ok (.iload_n 2, 1) := by decide +kernel
theorem dX11_readsName_54 : decode cX11_readsName 54 = .ok (.bipush 6, 2) := by decide +kernel
theorem dX11_readsName_56 : decode cX11_readsName 56 = .ok (.if_icmp .ge 38, 3) := by decide +kernel
theorem dX11_readsName_59 : decode cX11_readsName 59 = .ok (.aload_n 0, 1) := by decide +kernel
theorem dX11_readsName_60 : decode cX11_readsName 60 = .ok (.getfield 34, 3) := by decide +kernel
theorem dX11_readsName_63 : decode cX11_readsName 63 = .ok (.bipush 6, 2) := by decide +kernel
theorem dX11_readsName_65 : decode cX11_readsName 65 = .ok (.aload_n 0, 1) := by decide +kernel
theorem dX11_readsName_66 : decode cX11_readsName 66 = .ok (.getfield 113, 3) := by decide +kernel
theorem dX11_readsName_69 : decode cX11_readsName 69 = .ok (.imul, 1) := by decide +kernel
theorem dX11_readsName_70 : decode cX11_readsName 70 = .ok (.iload_n 2, 1) := by decide +kernel
theorem dX11_readsName_71 : decode cX11_readsName 71 = .ok (.iadd, 1) := by decide +kernel
theorem dX11_readsName_72 : decode cX11_readsName 72 = .ok (.aload_n 0, 1) := by decide +kernel
theorem dX11_readsName_73 : decode cX11_readsName 73 = .ok (.iconst 0, 1) := by decide +kernel
theorem dX11_readsName_74 : decode cX11_readsName 74 = .ok (.invokevirtual 118, 3) := by decide +kernel
theorem dX11_readsName_77 : decode cX11_readsName 77 = .ok (.iastore, 1) := by decide +kernel
theorem dX11_readsName_78 : decode cX11_readsName 78 = .ok (.iinc 2 1, 3) := by decide +kernel
theorem dX11_readsName_81 : decode cX11_readsName 81 = .ok (.aload_n 0, 1) := by decide +kernel
theorem dX11_readsName_82 : decode cX11_readsName 82 = .ok (.dup, 1) := by decide +kernel
theorem dX11_readsName_83 : decode cX11_readsName 83 = .ok (.getfield 105, 3) := by decide +kernel
theorem dX11_readsName_86 : decode cX11_readsName 86 = .ok (.iconst 1, 1) := by decide +kernel
theorem dX11_readsName_87 : decode cX11_readsName 87 = .ok (.iadd, 1) := by decide +kernel
theorem dX11_readsName_88 : decode cX11_readsName 88 = .ok (.putfield 105, 3) := by decide +kernel
theorem dX11_readsName_91 : decode cX11_readsName 91 = .ok (.goto (-47), 3) := by decide +kernel
theorem dX11_readsName_94 : decode cX11_readsName 94 = .ok (.iload_n 2, 1) := by decide +kernel
theorem dX11_readsName_95 : decode cX11_readsName 95 = .ok (.ifCond .ne 5, 3) := by decide +kernel
theorem dX11_readsName_98 : decode cX11_readsName 98 = .ok (.iconst 0, 1) := by decide +kernel
theorem dX11_readsName_99 : decode cX11_readsName 99 = .ok (.ireturn, 1) := by decide +kernel
theorem dX11_readsName_100 : decode cX11_readsName 100 = .ok (.aload_n 0, 1) := by decide +kernel
theorem dX11_readsName_101 : decode cX11_readsName 101 = .ok (.getfield 28, 3) := by decide +kernel
theorem dX11_readsName_104 : decode cX11_readsName 104 = .ok (.aload_n 0, 1) := by decide +kernel
theorem dX11_readsName_105 : decode cX11_readsName 105 = .ok (.getfield 113, 3) := by decide +kernel
theorem dX11_readsName_108 : decode cX11_readsName 108 = .ok (.iload_n 1, 1) := by decide +kernel
theorem dX11_readsName_109 : decode cX11_readsName 109 = .ok (.iastore, 1) := by decide +kernel
theorem dX11_readsName_110 : decode cX11_readsName 110 = .ok (.aload_n 0, 1) := by decide +kernel
theorem dX11_readsName_111 : decode cX11_readsName 111 = .ok (.getfield 31, 3) := by decide +kernel
theorem dX11_readsName_114 : decode cX11_readsName 114 = .ok (.aload_n 0, 1) := by decide +kernel
theorem dX11_readsName_115 : decode cX11_readsName 115 = .ok (.getfield 113, 3) := by decide +kernel
theorem dX11_readsName_118 : decode cX11_readsName 118 = .ok (.iload_n 2, 1) := by decide +kernel
theorem dX11_readsName_119 : decode cX11_readsName 119 = .ok (.iastore, 1) := by decide +kernel
theorem dX11_readsName_120 : decode cX11_readsName 120 = .ok (.aload_n 0, 1) := by decide +kernel
theorem dX11_readsName_121 : decode cX11_readsName 121 = .ok (.dup, 1) := by decide +kernel
theorem dX11_readsName_122 : decode cX11_readsName 122 = .ok (.getfield 113, 3) := by decide +kernel
theorem dX11_readsName_125 : decode cX11_readsName 125 = .ok (.iconst 1, 1) := by decide +kernel
theorem dX11_readsName_126 : decode cX11_readsName 126 = .ok (.iadd, 1) := by decide +kernel
theorem dX11_readsName_127 : decode cX11_readsName 127 = .ok (.putfield 113, 3) := by decide +kernel
theorem dX11_readsName_130 : decode cX11_readsName 130 = .ok (.iconst 1, 1) := by decide +kernel
theorem dX11_readsName_131 : decode cX11_readsName 131 = .ok (.ireturn, 1) := by decide +kernel
theorem dX11_readsNames_0 : decode cX11_readsNames 0 = .ok (.aload_n 0, 1) := by decide +kernel
theorem dX11_readsNames_1 : decode cX11_readsNames 1 = .ok (.iconst 0, 1) := by decide +kernel
theorem dX11_readsNames_2 : decode cX11_readsNames 2 = .ok (.putfield 105, 3) := by decide +kernel
theorem dX11_readsNames_5 : decode cX11_readsNames 5 = .ok (.aload_n 0, 1) := by decide +kernel
theorem dX11_readsNames_6 : decode cX11_readsNames 6 = .ok (.iconst 0, 1) := by decide +kernel
theorem dX11_readsNames_7 : decode cX11_readsNames 7 = .ok (.putfield 113, 3) := by decide +kernel
theorem dX11_readsNames_10 : decode cX11_readsNames 10 = .ok (.aload_n 0, 1) := by decide +kernel
theorem dX11_readsNames_11 : decode cX11_readsNames 11 = .ok (.getfield 25, 3) := by decide +kernel
theorem dX11_readsNames_14 : decode cX11_readsNames 14 = .ok (.iconst 0, 1) := by decide +kernel
theorem dX11_readsNames_15 : decode cX11_readsNames 15 = .ok (.iaload, 1) := by decide +kernel
theorem dX11_readsNames_16 : decode cX11_readsNames 16 = .ok (.ifCond .le 7, 3) := by decide +kernel
theorem dX11_readsNames_19 : decode cX11_readsNames 19 = .ok (.iconst 1, 1) := by decide +kernel
theorem dX11_readsNames_20 : decode cX11_readsNames 20 = .ok (.goto 4, 3) := by decide +kernel
theorem dX11_readsNames_23 : decode cX11_readsNames 23 = .ok (.iconst 0, 1) := by decide +kernel
theorem dX11_readsNames_24 : decode cX11_readsNames 24 = .ok (.istore_n 1, 1) := by decide +kernel
theorem dX11_readsNames_25 : decode cX11_readsNames 25 = .ok (.iload_n 1, 1) := by decide +kernel
theorem dX11_readsNames_26 : decode cX11_readsNames 26 = .ok (.ifCond .eq 80, 3) := by decide +kernel
theorem dX11_readsNames_29 : decode cX11_readsNames 29 = .ok (.aload_n 0, 1) := by decide +kernel
theorem dX11_readsNames_30 : decode cX11_readsNames 30 = .ok (.invokevirtual 121, 3) := by decide +kernel
theorem dX11_readsNames_33 : decode cX11_readsNames 33 = .ok (.istore_n 2, 1) := by decide +kernel
theorem dX11_readsNames_34 : decode cX11_readsNames 34 = .ok (.iload_n 2, 1) := by decide +kernel
theorem dX11_readsNames_35 : decode cX11_readsNames 35 = .ok (.ifCond .eq 20, 3) := by decide +kernel
theorem dX11_readsNames_38 : decode cX11_readsNames 38 = .ok (.aload_n 0, 1) := by decide +kernel
theorem dX11_readsNames_39 : decode cX11_readsNames 39 = .ok (.getfield 105, 3) := by decide +kernel
theorem dX11_readsNames_42 : decode cX11_readsNames 42 = .ok (.aload_n 0, 1) := by decide +kernel
theorem dX11_readsNames_43 : decode cX11_readsNames 43 = .ok (.getfield 25, 3) := by decide +kernel
theorem dX11_readsNames_46 : decode cX11_readsNames 46 = .ok (.iconst 0, 1) := by decide +kernel
theorem dX11_readsNames_47 : decode cX11_readsNames 47 = .ok (.iaload, 1) := by decide +kernel
theorem dX11_readsNames_48 : decode cX11_readsNames 48 = .ok (.if_icmp .ge 7, 3) := by decide +kernel
theorem dX11_readsNames_51 : decode cX11_readsNames 51 = .ok (.iconst 1, 1) := by decide +kernel
theorem dX11_readsNames_52 : decode cX11_readsNames 52 = .ok (.goto 4, 3) := by decide +kernel
theorem dX11_readsNames_55 : decode cX11_readsNames 55 = .ok (.iconst 0, 1) := by decide +kernel
theorem dX11_readsNames_56 : decode cX11_readsNames 56 = .ok (.istore_n 1, 1) := by decide +kernel
theorem dX11_readsNames_57 : decode cX11_readsNames 57 = .ok (.iload_n 2, 1) := by decide +kernel
theorem dX11_readsNames_58 : decode cX11_readsNames 58 = .ok (.ifCond .eq 17, 3) := by decide +kernel
theorem dX11_readsNames_61 : decode cX11_readsNames 61 = .ok (.iload_n 1, 1) := by decide +kernel
theorem dX11_readsNames_62 : decode cX11_readsNames 62 = .ok (.ifCond .eq 23, 3) := by decide +kernel
theorem dX11_readsNames_65 : decode cX11_readsNames 65 = .ok (.aload_n 0, 1) := by decide +kernel
theorem dX11_readsNames_66 : decode cX11_readsNames 66 = .ok (.iconst 0, 1) := by decide +kernel
theorem dX11_readsNames_67 : decode cX11_readsNames 67 = .ok (.invokevirtual 108, 3) := by decide +kernel
theorem dX11_readsNames_70 : decode cX11_readsNames 70 = .ok (.bipush 59, 2) := by decide +kernel
theorem dX11_readsNames_72 : decode cX11_readsNames 72 = .ok (.if_icmp .eq 13, 3) := by decide +kernel
theorem dX11_readsNames_75 : decode cX11_readsNames 75 = .ok (.aload_n 0, 1) := by decide +kernel
theorem dX11_readsNames_76 : decode cX11_readsNames 76 = .ok (.iconst 0, 1) := by decide +kernel
theorem dX11_readsNames_77 : decode cX11_readsNames 77 = .ok (.putfield 113, 3) := by decide +kernel
theorem dX11_readsNames_80 : decode cX11_readsNames 80 = .ok (.aload_n 0, 1) := by decide +kernel
theorem dX11_readsNames_81 : decode cX11_readsNames 81 = .ok (.getfield 105, 3) := by decide +kernel
theorem dX11_readsNames_84 : decode cX11_readsNames 84 = .ok (.ireturn, 1) := by decide +kernel
theorem dX11_readsNames_85 : decode cX11_readsNames 85 = .ok (.aload_n 0, 1) := by decide +kernel
theorem dX11_readsNames_86 : decode cX11_readsNames 86 = .ok (.dup, 1) := by decide +kernel
theorem dX11_readsNames_87 : decode cX11_readsNames 87 = .ok (.getfield 105, 3) := by decide +kernel
theorem dX11_readsNames_90 : decode cX11_readsNames 90 = .ok (.iload_n 1, 1) := by decide +kernel
theorem dX11_readsNames_91 : decode cX11_readsNames 91 = .ok (.ifCond .eq 7, 3) := by decide +kernel
theorem dX11_readsNames_94 : decode cX11_readsNames 94 = .ok (.iconst 1, 1) := by decide +kernel
theorem dX11_readsNames_95 : decode cX11_readsNames 95 = .ok (.goto 4, 3) := by decide +kernel
theorem dX11_readsNames_98 : decode cX11_readsNames 98 = .ok (.iconst 0, 1) := by decide +kernel
theorem dX11_readsNames_99 : decode cX11_readsNames 99 = .ok (.iadd, 1) := by decide +kernel
theorem dX11_readsNames_100 : decode cX11_readsNames 100 = .ok (.putfield 105, 3) := by decide +kernel
theorem dX11_readsNames_103 : decode cX11_readsNames 103 = .ok (.goto (-78), 3) := by decide +kernel
theorem dX11_readsNames_106 : decode cX11_readsNames 106 = .ok (.iconst (-1), 1) := by decide +kernel
theorem dX11_readsNames_107 : decode cX11_readsNames 107 = .ok (.ireturn, 1) := by decide +kernel
theorem dX11_readsPiece_0 : decode cX11_readsPiece 0 = .ok (.aload_n 0, 1) := by decide +kernel
theorem dX11_readsPiece_1 : decode cX11_readsPiece 1 = .ok (.getfield 125, 3) := by decide +kernel
theorem dX11_readsPiece_4 : decode cX11_readsPiece 4 = .ok (.bipush 6, 2) := by decide +kernel
theorem dX11_readsPiece_6 : decode cX11_readsPiece 6 = .ok (.if_icmp .eq 23, 3) := by decide +kernel
theorem dX11_readsPiece_9 : decode cX11_readsPiece 9 = .ok (.aload_n 0, 1) := by decide +kernel
theorem dX11_readsPiece_10 : decode cX11_readsPiece 10 = .ok (.iconst 1, 1) := by decide +kernel
theorem dX11_readsPiece_11 : decode cX11_readsPiece 11 = .ok (.invokevirtual 108, 3) := by decide +kernel
theorem dX11_readsPiece_14 : decode cX11_readsPiece 14 = .ok (.bipush 43, 2) := by decide +kernel
theorem dX11_readsPiece_16 : decode cX11_readsPiece 16 = .ok (.if_icmp .eq 15, 3) := by decide +kernel
theorem dX11_readsPiece_19 : decode cX11_readsPiece 19 = .ok (.aload_n 0, 1) := by decide +kernel
theorem dX11_readsPiece_20 : decode cX11_readsPiece 20 = .ok (.iconst 1, 1) := by decide +kernel
theorem dX11_readsPiece_21 : decode cX11_readsPiece 21 = .ok (.invokevirtual 108, 3) := by decide +kernel
theorem dX11_readsPiece_24 : decode cX11_readsPiece 24 = .ok (.bipush 45, 2) := by decide +kernel
theorem dX11_readsPiece_26 : decode cX11_readsPiece 26 = .ok (.if_icmp .eq 5, 3) := by decide +kernel
theorem dX11_readsPiece_29 : decode cX11_readsPiece 29 = .ok (.iconst 0, 1) := by decide +kernel
theorem dX11_readsPiece_30 : decode cX11_readsPiece 30 = .ok (.ireturn, 1) := by decide +kernel
theorem dX11_readsPiece_31 : decode cX11_readsPiece 31 = .ok (.aload_n 0, 1) := by decide +kernel
theorem dX11_readsPiece_32 : decode cX11_readsPiece 32 = .ok (.getfield 37, 3) := by decide +kernel
theorem dX11_readsPiece_35 : decode cX11_readsPiece 35 = .ok (.aload_n 0, 1) := by decide +kernel
theorem dX11_readsPiece_36 : decode cX11_readsPiece 36 = .ok (.getfield 125, 3) := by decide +kernel
theorem dX11_readsPiece_39 : decode cX11_readsPiece 39 = .ok (.aload_n 0, 1) := by decide +kernel
theorem dX11_readsPiece_40 : decode cX11_readsPiece 40 = .ok (.iconst 1, 1) := by decide +kernel
theorem dX11_readsPiece_41 : decode cX11_readsPiece 41 = .ok (.invokevirtual 108, 3) := by decide +kernel
theorem dX11_readsPiece_44 : decode cX11_readsPiece 44 = .ok (.bipush 43, 2) := by decide +kernel
theorem dX11_readsPiece_46 : decode cX11_readsPiece 46 = .ok (.if_icmp .ne 7, 3) := by decide +kernel
theorem dX11_readsPiece_49 : decode cX11_readsPiece 49 = .ok (.iconst 1, 1) := by decide +kernel
theorem dX11_readsPiece_50 : decode cX11_readsPiece 50 = .ok (.goto 4, 3) := by decide +kernel
theorem dX11_readsPiece_53 : decode cX11_readsPiece 53 = .ok (.iconst 0, 1) := by decide +kernel
theorem dX11_readsPiece_54 : decode cX11_readsPiece 54 = .ok (.bastore, 1) := by decide +kernel
theorem dX11_readsPiece_55 : decode cX11_readsPiece 55 = .ok (.aload_n 0, 1) := by decide +kernel
theorem dX11_readsPiece_56 : decode cX11_readsPiece 56 = .ok (.dup, 1) := by decide +kernel
theorem dX11_readsPiece_57 : decode cX11_readsPiece 57 = .ok (.getfield 105, 3) := by decide +kernel
theorem dX11_readsPiece_60 : decode cX11_readsPiece 60 = .ok (.iconst 1, 1) := by decide +kernel
theorem dX11_readsPiece_61 : decode cX11_readsPiece 61 = .ok (.iadd, 1) := by decide +kernel
theorem dX11_readsPiece_62 : decode cX11_readsPiece 62 = .ok (.putfield 105, 3) := by decide +kernel
theorem dX11_readsPiece_65 : decode cX11_readsPiece 65 = .ok (.iconst 0, 1) := by decide +kernel
theorem dX11_readsPiece_66 : decode cX11_readsPiece 66 = .ok (.istore_n 1, 1) := by decide +kernel
theorem dX11_readsPiece_67 : decode cX11_readsPiece 67 = .ok (.aload_n 0, 1) := by decide +kernel
theorem dX11_readsPiece_68 : decode cX11_readsPiece 68 = .ok (.iconst 1, 1) := by decide +kernel
theorem dX11_readsPiece_69 : decode cX11_readsPiece 69 = .ok (.invokevirtual 118, 3) := by decide +kernel
theorem dX11_readsPiece_72 : decode cX11_readsPiece 72 = .ok (.iconst (-1), 1) := by decide +kernel
theorem dX11_readsPiece_73 : decode cX11_readsPiece 73 = .ok (.if_icmp .eq 42, 3) := by decide +kernel
theorem dX11_readsPiece_76 : decode cX11_readsPiece 76 = .ok (.iload_n 1, 1) := by decide +kernel
theorem dX11_readsPiece_77 : decode cX11_readsPiece 77 = .ok (.iconst 3, 1) := by decide +kernel
theorem dX11_readsPiece_78 : decode cX11_readsPiece 78 = .ok (.if_icmp .ge 37, 3) := by decide +kernel
theorem dX11_readsPiece_81 : decode cX11_readsPiece 81 = .ok (.aload_n 0, 1) := by decide +kernel
theorem dX11_readsPiece_82 : decode cX11_readsPiece 82 = .ok (.getfield 44, 3) := by decide +kernel
theorem dX11_readsPiece_85 : decode cX11_readsPiece 85 = .ok (.iconst 3, 1) := by decide +kernel
theorem dX11_readsPiece_86 : decode cX11_readsPiece 86 = .ok (.aload_n 0, 1) := by decide +kernel
theorem dX11_readsPiece_87 : decode cX11_readsPiece 87 = .ok (.getfield 125, 3) := by decide +kernel
theorem dX11_readsPiece_90 : decode cX11_readsPiece 90 = .ok (.imul, 1) := by decide +kernel
theorem dX11_readsPiece_91 : decode cX11_readsPiece 91 = .ok (.iload_n 1, 1) := by decide +kernel
theorem dX11_readsPiece_92 : decode cX11_readsPiece 92 = .ok (.iadd, 1) := by decide +kernel
theorem dX11_readsPiece_93 : decode cX11_readsPiece 93 = .ok (.aload_n 0, 1) := by decide +kernel
theorem dX11_readsPiece_94 : decode cX11_readsPiece 94 = .ok (.iconst 1, 1) := by decide +kernel
theorem dX11_readsPiece_95 : decode cX11_readsPiece 95 = .ok (.invokevirtual 118, 3) := by decide +kernel
theorem dX11_readsPiece_98 : decode cX11_readsPiece 98 = .ok (.iastore, 1) := by decide +kernel
theorem dX11_readsPiece_99 : decode cX11_readsPiece 99 = .ok (.iinc 1 1, 3) := by decide +kernel
theorem dX11_readsPiece_102 : decode cX11_readsPiece 102 = .ok (.aload_n 0, 1) := by decide +kernel
theorem dX11_readsPiece_103 : decode cX11_readsPiece 103 = .ok (.dup, 1) := by decide +kernel
theorem dX11_readsPiece_104 : decode cX11_readsPiece 104 = .ok (.getfield 105, 3) := by decide +kernel
theorem dX11_readsPiece_107 : decode cX11_readsPiece 107 = .ok (.iconst 1, 1) := by decide +kernel
theorem dX11_readsPiece_108 : decode cX11_readsPiece 108 = .ok (.iadd, 1) := by decide +kernel
theorem dX11_readsPiece_109 : decode cX11_readsPiece 109 = .ok (.putfield 105, 3) := by decide +kernel
theorem dX11_readsPiece_112 : decode cX11_readsPiece 112 = .ok (.goto (-45), 3) := by decide +kernel
theorem dX11_readsPiece_115 : decode cX11_readsPiece 115 = .ok (.iload_n 1, 1) := by decide +kernel
theorem dX11_readsPiece_116 : decode cX11_readsPiece 116 = .ok (.ifCond .ne 5, 3) := by decide +kernel
theorem dX11_readsPiece_119 : decode cX11_readsPiece 119 = .ok (.iconst 0, 1) := by decide +kernel
theorem dX11_readsPiece_120 : decode cX11_readsPiece 120 = .ok (.ireturn, 1) := by decide +kernel
theorem dX11_readsPiece_121 : decode cX11_readsPiece 121 = .ok (.aload_n 0, 1) := by decide +kernel
theorem dX11_readsPiece_122 : decode cX11_readsPiece 122 = .ok (.getfield 41, 3) := by decide +kernel
theorem dX11_readsPiece_125 : decode cX11_readsPiece 125 = .ok (.aload_n 0, 1) := by decide +kernel
theorem dX11_readsPiece_126 : decode cX11_readsPiece 126 = .ok (.getfield 125, 3) := by decide +kernel
theorem dX11_readsPiece_129 : decode cX11_readsPiece 129 = .ok (.iload_n 1, 1) := by decide +kernel
theorem dX11_readsPiece_130 : decode cX11_readsPiece 130 = .ok (.iastore, 1) := by decide +kernel
theorem dX11_readsPiece_131 : decode cX11_readsPiece 131 = .ok (.aload_n 0, 1) := by decide +kernel
theorem dX11_readsPiece_132 : decode cX11_readsPiece 132 = .ok (.dup, 1) := by decide +kernel
theorem dX11_readsPiece_133 : decode cX11_readsPiece 133 = .ok (.getfield 125, 3) := by decide +kernel
theorem dX11_readsPiece_136 : decode cX11_readsPiece 136 = .ok (.iconst 1, 1) := by decide +kernel
theorem dX11_readsPiece_137 : decode cX11_readsPiece 137 = .ok (.iadd, 1) := by decide +kernel
theorem dX11_readsPiece_138 : decode cX11_readsPiece 138 = .ok (.putfield 125, 3) := by decide +kernel
theorem dX11_readsPiece_141 : decode cX11_readsPiece 141 = .ok (.iconst 1, 1) := by decide +kernel
theorem dX11_readsPiece_142 : decode cX11_readsPiece 142 = .ok (.ireturn, 1) := by decide +kernel
theorem dX11_readsPieces_0 : decode cX11_readsPieces 0 = .ok (.aload_n 0, 1) := by decide +kernel
theorem dX11_readsPieces_1 : decode cX11_readsPieces 1 = .ok (.iconst 0, 1) := by decide +kernel
theorem dX11_readsPieces_2 : decode cX11_readsPieces 2 = .ok (.putfield 105, 3) := by decide +kernel
theorem dX11_readsPieces_5 : decode cX11_readsPieces 5 = .ok (.aload_n 0, 1) := by decide +kernel
theorem dX11_readsPieces_6 : decode cX11_readsPieces 6 = .ok (.iconst 0, 1) := by decide +kernel
theorem dX11_readsPieces_7 : decode cX11_readsPieces 7 = .ok (.putfield 125, 3) := by decide +kernel
theorem dX11_readsPieces_10 : decode cX11_readsPieces 10 = .ok (.aload_n 0, 1) := by decide +kernel
theorem dX11_readsPieces_11 : decode cX11_readsPieces 11 = .ok (.getfield 25, 3) := by decide +kernel
theorem dX11_readsPieces_14 : decode cX11_readsPieces 14 = .ok (.iconst 1, 1) := by decide +kernel
theorem dX11_readsPieces_15 : decode cX11_readsPieces 15 = .ok (.iaload, 1) := by decide +kernel
theorem dX11_readsPieces_16 : decode cX11_readsPieces 16 = .ok (.ifCond .le 7, 3) := by decide +kernel
theorem dX11_readsPieces_19 : decode cX11_readsPieces 19 = .ok (.iconst 1, 1) := by decide +kernel
theorem dX11_readsPieces_20 : decode cX11_readsPieces 20 = .ok (.goto 4, 3) := by decide +kernel
theorem dX11_readsPieces_23 : decode cX11_readsPieces 23 = .ok (.iconst 0, 1) := by decide +kernel
theorem dX11_readsPieces_24 : decode cX11_readsPieces 24 = .ok (.istore_n 1, 1) := by decide +kernel
theorem dX11_readsPieces_25 : decode cX11_readsPieces 25 = .ok (.iload_n 1, 1) := by decide +kernel
theorem dX11_readsPieces_26 : decode cX11_readsPieces 26 = .ok (.ifCond .eq 80, 3) := by decide +kernel
theorem dX11_readsPieces_29 : decode cX11_readsPieces 29 = .ok (.aload_n 0, 1) := by decide +kernel
theorem dX11_readsPieces_30 : decode cX11_readsPieces 30 = .ok (.invokevirtual 128, 3) := by decide +kernel
theorem dX11_readsPieces_33 : decode cX11_readsPieces 33 = .ok (.istore_n 2, 1) := by decide +kernel
theorem dX11_readsPieces_34 : decode cX11_readsPieces 34 = .ok (.iload_n 2, 1) := by decide +kernel
theorem dX11_readsPieces_35 : decode cX11_readsPieces 35 = .ok (.ifCond .eq 20, 3) := by decide +kernel
theorem dX11_readsPieces_38 : decode cX11_readsPieces 38 = .ok (.aload_n 0, 1) := by decide +kernel
theorem dX11_readsPieces_39 : decode cX11_readsPieces 39 = .ok (.getfield 105, 3) := by decide +kernel
theorem dX11_readsPieces_42 : decode cX11_readsPieces 42 = .ok (.aload_n 0, 1) := by decide +kernel
theorem dX11_readsPieces_43 : decode cX11_readsPieces 43 = .ok (.getfield 25, 3) := by decide +kernel
theorem dX11_readsPieces_46 : decode cX11_readsPieces 46 = .ok (.iconst 1, 1) := by decide +kernel
theorem dX11_readsPieces_47 : decode cX11_readsPieces 47 = .ok (.iaload, 1) := by decide +kernel
theorem dX11_readsPieces_48 : decode cX11_readsPieces 48 = .ok (.if_icmp .ge 7, 3) := by decide +kernel
theorem dX11_readsPieces_51 : decode cX11_readsPieces 51 = .ok (.iconst 1, 1) := by decide +kernel
theorem dX11_readsPieces_52 : decode cX11_readsPieces 52 = .ok (.goto 4, 3) := by decide +kernel
theorem dX11_readsPieces_55 : decode cX11_readsPieces 55 = .ok (.iconst 0, 1) := by decide +kernel
theorem dX11_readsPieces_56 : decode cX11_readsPieces 56 = .ok (.istore_n 1, 1) := by decide +kernel
theorem dX11_readsPieces_57 : decode cX11_readsPieces 57 = .ok (.iload_n 2, 1) := by decide +kernel
theorem dX11_readsPieces_58 : decode cX11_readsPieces 58 = .ok (.ifCond .eq 17, 3) := by decide +kernel
theorem dX11_readsPieces_61 : decode cX11_readsPieces 61 = .ok (.iload_n 1, 1) := by decide +kernel
theorem dX11_readsPieces_62 : decode cX11_readsPieces 62 = .ok (.ifCond .eq 23, 3) := by decide +kernel
theorem dX11_readsPieces_65 : decode cX11_readsPieces 65 = .ok (.aload_n 0, 1) := by decide +kernel
theorem dX11_readsPieces_66 : decode cX11_readsPieces 66 = .ok (.iconst 1, 1) := by decide +kernel
theorem dX11_readsPieces_67 : decode cX11_readsPieces 67 = .ok (.invokevirtual 108, 3) := by decide +kernel
theorem dX11_readsPieces_70 : decode cX11_readsPieces 70 = .ok (.bipush 59, 2) := by decide +kernel
theorem dX11_readsPieces_72 : decode cX11_readsPieces 72 = .ok (.if_icmp .eq 13, 3) := by decide +kernel
theorem dX11_readsPieces_75 : decode cX11_readsPieces 75 = .ok (.aload_n 0, 1) := by decide +kernel
theorem dX11_readsPieces_76 : decode cX11_readsPieces 76 = .ok (.iconst 0, 1) := by decide +kernel
theorem dX11_readsPieces_77 : decode cX11_readsPieces 77 = .ok (.putfield 125, 3) := by decide +kernel
theorem dX11_readsPieces_80 : decode cX11_readsPieces 80 = .ok (.aload_n 0, 1) := by decide +kernel
theorem dX11_readsPieces_81 : decode cX11_readsPieces 81 = .ok (.getfield 105, 3) := by decide +kernel
theorem dX11_readsPieces_84 : decode cX11_readsPieces 84 = .ok (.ireturn, 1) := by decide +kernel
theorem dX11_readsPieces_85 : decode cX11_readsPieces 85 = .ok (.aload_n 0, 1) := by decide +kernel
theorem dX11_readsPieces_86 : decode cX11_readsPieces 86 = .ok (.dup, 1) := by decide +kernel
theorem dX11_readsPieces_87 : decode cX11_readsPieces 87 = .ok (.getfield 105, 3) := by decide +kernel
theorem dX11_readsPieces_90 : decode cX11_readsPieces 90 = .ok (.iload_n 1, 1) := by decide +kernel
theorem dX11_readsPieces_91 : decode cX11_readsPieces 91 = .ok (.ifCond .eq 7, 3) := by decide +kernel
theorem dX11_readsPieces_94 : decode cX11_readsPieces 94 = .ok (.iconst 1, 1) := by decide +kernel
theorem dX11_readsPieces_95 : decode cX11_readsPieces 95 = .ok (.goto 4, 3) := by decide +kernel
theorem dX11_readsPieces_98 : decode cX11_readsPieces 98 = .ok (.iconst 0, 1) := by decide +kernel
theorem dX11_readsPieces_99 : decode cX11_readsPieces 99 = .ok (.iadd, 1) := by decide +kernel
theorem dX11_readsPieces_100 : decode cX11_readsPieces 100 = .ok (.putfield 105, 3) := by decide +kernel
theorem dX11_readsPieces_103 : decode cX11_readsPieces 103 = .ok (.goto (-78), 3) := by decide +kernel
theorem dX11_readsPieces_106 : decode cX11_readsPieces 106 = .ok (.iconst (-1), 1) := by decide +kernel
theorem dX11_readsPieces_107 : decode cX11_readsPieces 107 = .ok (.ireturn, 1) := by decide +kernel
theorem dX11_readsSong_0 : decode cX11_readsSong 0 = .ok (.aload_n 0, 1) := by decide +kernel
theorem dX11_readsSong_1 : decode cX11_readsSong 1 = .ok (.iconst 0, 1) := by decide +kernel
theorem dX11_readsSong_2 : decode cX11_readsSong 2 = .ok (.putfield 131, 3) := by decide +kernel
theorem dX11_readsSong_5 : decode cX11_readsSong 5 = .ok (.aload_n 0, 1) := by decide +kernel
theorem dX11_readsSong_6 : decode cX11_readsSong 6 = .ok (.iconst 0, 1) := by decide +kernel
theorem dX11_readsSong_7 : decode cX11_readsSong 7 = .ok (.putfield 105, 3) := by decide +kernel
theorem dX11_readsSong_10 : decode cX11_readsSong 10 = .ok (.aload_n 0, 1) := by decide +kernel
theorem dX11_readsSong_11 : decode cX11_readsSong 11 = .ok (.getfield 105, 3) := by decide +kernel
theorem dX11_readsSong_14 : decode cX11_readsSong 14 = .ok (.aload_n 0, 1) := by decide +kernel
theorem dX11_readsSong_15 : decode cX11_readsSong 15 = .ok (.getfield 25, 3) := by decide +kernel
theorem dX11_readsSong_18 : decode cX11_readsSong 18 = .ok (.iconst 2, 1) := by decide +kernel
theorem dX11_readsSong_19 : decode cX11_readsSong 19 = .ok (.iaload, 1) := by decide +kernel
theorem dX11_readsSong_20 : decode cX11_readsSong 20 = .ok (.if_icmp .ge 69, 3) := by decide +kernel
theorem dX11_readsSong_23 : decode cX11_readsSong 23 = .ok (.aload_n 0, 1) := by decide +kernel
theorem dX11_readsSong_24 : decode cX11_readsSong 24 = .ok (.iconst 2, 1) := by decide +kernel
theorem dX11_readsSong_25 : decode cX11_readsSong 25 = .ok (.invokevirtual 118, 3) := by decide +kernel
theorem dX11_readsSong_28 : decode cX11_readsSong 28 = .ok (.iconst (-1), 1) := by decide +kernel
theorem dX11_readsSong_29 : decode cX11_readsSong 29 = .ok (.if_icmp .ne 23, 3) := by decide +kernel
theorem dX11_readsSong_32 : decode cX11_readsSong 32 = .ok (.aload_n 0, 1) := by decide +kernel
theorem dX11_readsSong_33 : decode cX11_readsSong 33 = .ok (.iconst 2, 1) := by decide +kernel
theorem dX11_readsSong_34 : decode cX11_readsSong 34 = .ok (.invokevirtual 108, 3) := by decide +kernel
theorem dX11_readsSong_37 : decode cX11_readsSong 37 = .ok (.bipush 46, 2) := by decide +kernel
theorem dX11_readsSong_39 : decode cX11_readsSong 39 = .ok (.if_icmp .eq 13, 3) := by decide +kernel
theorem dX11_readsSong_42 : decode cX11_readsSong 42 = .ok (.aload_n 0, 1) := by decide +kernel
theorem dX11_readsSong_43 : decode cX11_readsSong 43 = .ok (.iconst 0, 1) := by decide +kernel
theorem dX11_readsSong_44 : decode cX11_readsSong 44 = .ok (.putfield 131, 3) := by decide +kernel
theorem dX11_readsSong_47 : decode cX11_readsSong 47 = .ok (.aload_n 0, 1) := by decide +kernel
theorem dX11_readsSong_48 : decode cX11_readsSong 48 = .ok (.getfield 105, 3) := by decide +kernel
theorem dX11_readsSong_51 : decode cX11_readsSong 51 = .ok (.ireturn, 1) := by decide +kernel
theorem dX11_readsSong_52 : decode cX11_readsSong 52 = .ok (.aload_n 0, 1) := by decide +kernel
theorem dX11_readsSong_53 : decode cX11_readsSong 53 = .ok (.getfield 47, 3) := by decide +kernel
theorem dX11_readsSong_56 : decode cX11_readsSong 56 = .ok (.aload_n 0, 1) := by decide +kernel
theorem dX11_readsSong_57 : decode cX11_readsSong 57 = .ok (.getfield 131, 3) := by decide +kernel
theorem dX11_readsSong_60 : decode cX11_readsSong 60 = .ok (.aload_n 0, 1) := by decide +kernel
theorem dX11_readsSong_61 : decode cX11_readsSong 61 = .ok (.iconst 2, 1) := by decide +kernel
theorem dX11_readsSong_62 : decode cX11_readsSong 62 = .ok (.invokevirtual 118, 3) := by decide +kernel
theorem dX11_readsSong_65 : decode cX11_readsSong 65 = .ok (.iastore, 1) := by decide +kernel
theorem dX11_readsSong_66 : decode cX11_readsSong 66 = .ok (.aload_n 0, 1) := by decide +kernel
theorem dX11_readsSong_67 : decode cX11_readsSong 67 = .ok (.dup, 1) := by decide +kernel
theorem dX11_readsSong_68 : decode cX11_readsSong 68 = .ok (.getfield 131, 3) := by decide +kernel
theorem dX11_readsSong_71 : decode cX11_readsSong 71 = .ok (.iconst 1, 1) := by decide +kernel
theorem dX11_readsSong_72 : decode cX11_readsSong 72 = .ok (.iadd, 1) := by decide +kernel
theorem dX11_readsSong_73 : decode cX11_readsSong 73 = .ok (.putfield 131, 3) := by decide +kernel
theorem dX11_readsSong_76 : decode cX11_readsSong 76 = .ok (.aload_n 0, 1) := by decide +kernel
theorem dX11_readsSong_77 : decode cX11_readsSong 77 = .ok (.dup, 1) := by decide +kernel
theorem dX11_readsSong_78 : decode cX11_readsSong 78 = .ok (.getfield 105, 3) := by decide +kernel
theorem dX11_readsSong_81 : decode cX11_readsSong 81 = .ok (.iconst 1, 1) := by decide +kernel
theorem dX11_readsSong_82 : decode cX11_readsSong 82 = .ok (.iadd, 1) := by decide +kernel
theorem dX11_readsSong_83 : decode cX11_readsSong 83 = .ok (.putfield 105, 3) := by decide +kernel
theorem dX11_readsSong_86 : decode cX11_readsSong 86 = .ok (.goto (-76), 3) := by decide +kernel
theorem dX11_readsSong_89 : decode cX11_readsSong 89 = .ok (.iconst (-1), 1) := by decide +kernel
theorem dX11_readsSong_90 : decode cX11_readsSong 90 = .ok (.ireturn, 1) := by decide +kernel
theorem dX11_reads_0 : decode cX11_reads 0 = .ok (.aload_n 0, 1) := by decide +kernel
theorem dX11_reads_1 : decode cX11_reads 1 = .ok (.invokevirtual 134, 3) := by decide +kernel
theorem dX11_reads_4 : decode cX11_reads 4 = .ok (.pop, 1) := by decide +kernel
theorem dX11_reads_5 : decode cX11_reads 5 = .ok (.aload_n 0, 1) := by decide +kernel
theorem dX11_reads_6 : decode cX11_reads 6 = .ok (.invokevirtual 138, 3) := by decide +kernel
theorem dX11_reads_9 : decode cX11_reads 9 = .ok (.pop, 1) := by decide +kernel
theorem dX11_reads_10 : decode cX11_reads 10 = .ok (.aload_n 0, 1) := by decide +kernel
theorem dX11_reads_11 : decode cX11_reads 11 = .ok (.invokevirtual 141, 3) := by decide +kernel
theorem dX11_reads_14 : decode cX11_reads 14 = .ok (.pop, 1) := by decide +kernel
theorem dX11_reads_15 : decode cX11_reads 15 = .ok (.return_, 1) := by decide +kernel
theorem dX11_fault_0 : decode cX11_fault 0 = .ok (.iload_n 1, 1) := by decide +kernel
theorem dX11_fault_1 : decode cX11_fault 1 = .ok (.invokestatic 97, 3) := by decide +kernel
theorem dX11_fault_4 : decode cX11_fault 4 = .ok (.ifCond .ne 8, 3) := by decide +kernel
theorem dX11_fault_7 : decode cX11_fault 7 = .ok (.bipush (-2), 2) := by decide +kernel
theorem dX11_fault_9 : decode cX11_fault 9 = .ok (.goto 30, 3) := by decide +kernel
theorem dX11_fault_12 : decode cX11_fault 12 = .ok (.iload_n 1, 1) := by decide +kernel
theorem dX11_fault_13 : decode cX11_fault 13 = .ok (.ifCond .ne 10, 3) := by decide +kernel
theorem dX11_fault_16 : decode cX11_fault 16 = .ok (.aload_n 0, 1) := by decide +kernel
theorem dX11_fault_17 : decode cX11_fault 17 = .ok (.invokevirtual 134, 3) := by decide +kernel
theorem dX11_fault_20 : decode cX11_fault 20 = .ok (.goto 19, 3) := by decide +kernel
theorem dX11_fault_23 : decode cX11_fault 23 = .ok (.iload_n 1, 1) := by decide +kernel
theorem dX11_fault_24 : decode cX11_fault 24 = .ok (.iconst 1, 1) := by decide +kernel
theorem dX11_fault_25 : decode cX11_fault 25 = .ok (.if_icmp .ne 10, 3) := by decide +kernel
theorem dX11_fault_28 : decode cX11_fault 28 = .ok (.aload_n 0, 1) := by decide +kernel
theorem dX11_fault_29 : decode cX11_fault 29 = .ok (.invokevirtual 138, 3) := by decide +kernel
theorem dX11_fault_32 : decode cX11_fault 32 = .ok (.goto 7, 3) := by decide +kernel
theorem dX11_fault_35 : decode cX11_fault 35 = .ok (.aload_n 0, 1) := by decide +kernel
theorem dX11_fault_36 : decode cX11_fault 36 = .ok (.invokevirtual 141, 3) := by decide +kernel
theorem dX11_fault_39 : decode cX11_fault 39 = .ok (.ireturn, 1) := by decide +kernel
theorem dX11_isName_0 : decode cX11_isName 0 = .ok (.iload_n 1, 1) := by decide +kernel
theorem dX11_isName_1 : decode cX11_isName 1 = .ok (.i2l, 1) := by decide +kernel
theorem dX11_isName_2 : decode cX11_isName 2 = .ok (.lconst 0, 1) := by decide +kernel
theorem dX11_isName_3 : decode cX11_isName 3 = .ok (.aload_n 0, 1) := by decide +kernel
theorem dX11_isName_4 : decode cX11_isName 4 = .ok (.getfield 113, 3) := by decide +kernel
theorem dX11_isName_7 : decode cX11_isName 7 = .ok (.iconst 1, 1) := by decide +kernel
theorem dX11_isName_8 : decode cX11_isName 8 = .ok (.isub, 1) := by decide +kernel
theorem dX11_isName_9 : decode cX11_isName 9 = .ok (.i2l, 1) := by decide +kernel
theorem dX11_isName_10 : decode cX11_isName 10 = .ok (.invokestatic 68, 3) := by decide +kernel
theorem dX11_isName_13 : decode cX11_isName 13 = .ok (.ireturn, 1) := by decide +kernel
theorem dX11_nameOf_0 : decode cX11_nameOf 0 = .ok (.iload_n 2, 1) := by decide +kernel
theorem dX11_nameOf_1 : decode cX11_nameOf 1 = .ok (.iconst (-1), 1) := by decide +kernel
theorem dX11_nameOf_2 : decode cX11_nameOf 2 = .ok (.if_icmp .ne 12, 3) := by decide +kernel
theorem dX11_nameOf_5 : decode cX11_nameOf 5 = .ok (.aload_n 0, 1) := by decide +kernel
theorem dX11_nameOf_6 : decode cX11_nameOf 6 = .ok (.getfield 28, 3) := by decide +kernel
theorem dX11_nameOf_9 : decode cX11_nameOf 9 = .ok (.iload_n 1, 1) := by decide +kernel
theorem dX11_nameOf_10 : decode cX11_nameOf 10 = .ok (.iaload, 1) := by decide +kernel
theorem dX11_nameOf_11 : decode cX11_nameOf 11 = .ok (.goto 43, 3) := by decide +kernel
theorem dX11_nameOf_14 : decode cX11_nameOf 14 = .ok (.iload_n 2, 1) := by decide +kernel
theorem dX11_nameOf_15 : decode cX11_nameOf 15 = .ok (.bipush (-2), 2) := by decide +kernel
theorem dX11_nameOf_17 : decode cX11_nameOf 17 = .ok (.if_icmp .ne 12, 3) := by decide +kernel
theorem dX11_nameOf_20 : decode cX11_nameOf 20 = .ok (.aload_n 0, 1) := by decide +kernel
theorem dX11_nameOf_21 : decode cX11_nameOf 21 = .ok (.getfield 31, 3) := by decide +kernel
theorem dX11_nameOf_24 : decode cX11_nameOf 24 = .ok (.iload_n 1, 1) := by decide +kernel
theorem dX11_nameOf_25 : decode cX11_nameOf 25 = .ok (.iaload, 1) := by decide +kernel
theorem dX11_nameOf_26 : decode cX11_nameOf 26 = .ok (.goto 28, 3) := by decide +kernel
theorem dX11_nameOf_29 : decode cX11_nameOf 29 = .ok (.iload_n 2, 1) := by decide +kernel
theorem dX11_nameOf_30 : decode cX11_nameOf 30 = .ok (.aload_n 0, 1) := by decide +kernel
theorem dX11_nameOf_31 : decode cX11_nameOf 31 = .ok (.getfield 31, 3) := by decide +kernel
theorem dX11_nameOf_34 : decode cX11_nameOf 34 = .ok (.iload_n 1, 1) := by decide +kernel
theorem dX11_nameOf_35 : decode cX11_nameOf 35 = .ok (.iaload, 1) := by decide +kernel
theorem dX11_nameOf_36 : decode cX11_nameOf 36 = .ok (.if_icmp .ge 17, 3) := by decide +kernel
theorem dX11_nameOf_39 : decode cX11_nameOf 39 = .ok (.aload_n 0, 1) := by decide +kernel
theorem dX11_nameOf_40 : decode cX11_nameOf 40 = .ok (.getfield 34, 3) := by decide +kernel
theorem dX11_nameOf_43 : decode cX11_nameOf 43 = .ok (.bipush 6, 2) := by decide +kernel
theorem dX11_nameOf_45 : decode cX11_nameOf 45 = .ok (.iload_n 1, 1) := by decide +kernel
theorem dX11_nameOf_46 : decode cX11_nameOf 46 = .ok (.imul, 1) := by decide +kernel
theorem dX11_nameOf_47 : decode cX11_nameOf 47 = .ok (.iload_n 2, 1) := by decide +kernel
theorem dX11_nameOf_48 : decode cX11_nameOf 48 = .ok (.iadd, 1) := by decide +kernel
theorem dX11_nameOf_49 : decode cX11_nameOf 49 = .ok (.iaload, 1) := by decide +kernel
theorem dX11_nameOf_50 : decode cX11_nameOf 50 = .ok (.goto 4, 3) := by decide +kernel
theorem dX11_nameOf_53 : decode cX11_nameOf 53 = .ok (.iconst (-1), 1) := by decide +kernel
theorem dX11_nameOf_54 : decode cX11_nameOf 54 = .ok (.ireturn, 1) := by decide +kernel
theorem dX11_name_0 : decode cX11_name 0 = .ok (.aload_n 0, 1) := by decide +kernel
theorem dX11_name_1 : decode cX11_name 1 = .ok (.invokevirtual 144, 3) := by decide +kernel
theorem dX11_name_4 : decode cX11_name 4 = .ok (.aload_n 0, 1) := by decide +kernel
theorem dX11_name_5 : decode cX11_name 5 = .ok (.iload_n 1, 1) := by decide +kernel
theorem dX11_name_6 : decode cX11_name 6 = .ok (.invokevirtual 147, 3) := by decide +kernel
theorem dX11_name_9 : decode cX11_name 9 = .ok (.ifCond .eq 26, 3) := by decide +kernel
theorem dX11_name_12 : decode cX11_name 12 = .ok (.iload_n 2, 1) := by decide +kernel
theorem dX11_name_13 : decode cX11_name 13 = .ok (.i2l, 1) := by decide +kernel
theorem dX11_name_14 : decode cX11_name 14 = .ok (.ldc2_w 150, 3) := by decide +kernel
theorem dX11_name_17 : decode cX11_name 17 = .ok (.ldc2_w 111, 3) := by decide +kernel
theorem dX11_name_20 : decode cX11_name 20 = .ok (.invokestatic 68, 3) := by decide +kernel
theorem dX11_name_23 : decode cX11_name 23 = .ok (.ifCond .eq 12, 3) := by decide +kernel
theorem dX11_name_26 : decode cX11_name 26 = .ok (.aload_n 0, 1) := by decide +kernel
theorem dX11_name_27 : decode cX11_name 27 = .ok (.iload_n 1, 1) := by decide +kernel
theorem dX11_name_28 : decode cX11_name 28 = .ok (.iload_n 2, 1) := by decide +kernel
theorem dX11_name_29 : decode cX11_name 29 = .ok (.invokevirtual 152, 3) := by decide +kernel
theorem dX11_name_32 : decode cX11_name 32 = .ok (.goto 5, 3) := by decide +kernel
theorem dX11_name_35 : decode cX11_name 35 = .ok (.bipush (-2), 2) := by decide +kernel
theorem dX11_name_37 : decode cX11_name 37 = .ok (.ireturn, 1) := by decide +kernel
theorem dX11_most_0 : decode cX11_most 0 = .ok (.iload_n 0, 1) := by decide +kernel
theorem dX11_most_1 : decode cX11_most 1 = .ok (.iconst 2, 1) := by decide +kernel
theorem dX11_most_2 : decode cX11_most 2 = .ok (.if_icmp .ge 8, 3) := by decide +kernel
theorem dX11_most_5 : decode cX11_most 5 = .ok (.bipush 99, 2) := by decide +kernel
theorem dX11_most_7 : decode cX11_most 7 = .ok (.goto 25, 3) := by decide +kernel
theorem dX11_most_10 : decode cX11_most 10 = .ok (.iload_n 0, 1) := by decide +kernel
theorem dX11_most_11 : decode cX11_most 11 = .ok (.iconst 2, 1) := by decide +kernel
theorem dX11_most_12 : decode cX11_most 12 = .ok (.if_icmp .ne 8, 3) := by decide +kernel
theorem dX11_most_15 : decode cX11_most 15 = .ok (.bipush 12, 2) := by decide +kernel
theorem dX11_most_17 : decode cX11_most 17 = .ok (.goto 15, 3) := by decide +kernel
theorem dX11_most_20 : decode cX11_most 20 = .ok (.iload_n 0, 1) := by decide +kernel
theorem dX11_most_21 : decode cX11_most 21 = .ok (.iconst 3, 1) := by decide +kernel
theorem dX11_most_22 : decode cX11_most 22 = .ok (.if_icmp .ne 9, 3) := by decide +kernel
theorem dX11_most_25 : decode cX11_most 25 = .ok (.sipush 9999, 3) := by decide +kernel
theorem dX11_most_28 : decode cX11_most 28 = .ok (.goto 4, 3) := by decide +kernel
theorem dX11_most_31 : decode cX11_most 31 = .ok (.iconst 3, 1) := by decide +kernel
theorem dX11_most_32 : decode cX11_most 32 = .ok (.ireturn, 1) := by decide +kernel
theorem dX11_set_0 : decode cX11_set 0 = .ok (.iload_n 1, 1) := by decide +kernel
theorem dX11_set_1 : decode cX11_set 1 = .ok (.i2l, 1) := by decide +kernel
theorem dX11_set_2 : decode cX11_set 2 = .ok (.lconst 0, 1) := by decide +kernel
theorem dX11_set_3 : decode cX11_set 3 = .ok (.ldc2_w 155, 3) := by decide +kernel
theorem dX11_set_6 : decode cX11_set 6 = .ok (.invokestatic 68, 3) := by decide +kernel
theorem dX11_set_9 : decode cX11_set 9 = .ok (.ifCond .eq 31, 3) := by decide +kernel
theorem dX11_set_12 : decode cX11_set 12 = .ok (.iload_n 2, 1) := by decide +kernel
theorem dX11_set_13 : decode cX11_set 13 = .ok (.i2l, 1) := by decide +kernel
theorem dX11_set_14 : decode cX11_set 14 = .ok (.iload_n 1, 1) := by decide +kernel
theorem dX11_set_15 : decode cX11_set 15 = .ok (.iconst 1, 1) := by decide +kernel
theorem dX11_set_16 : decode cX11_set 16 = .ok (.if_icmp .eq 8, 3) := by decide +kernel
theorem dX11_set_19 : decode cX11_set 19 = .ok (.iload_n 1, 1) := by decide +kernel
theorem dX11_set_20 : decode cX11_set 20 = .ok (.iconst 3, 1) := by decide +kernel
