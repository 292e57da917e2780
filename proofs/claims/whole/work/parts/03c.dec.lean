theorem dX6_readNumeral_89 : decode cX6_readNumeral 89 = .ok (.bipush 48, 2) := by decide +kernel
theorem dX6_readNumeral_91 : decode cX6_readNumeral 91 = .ok (.isub, 1) := by decide +kernel
theorem dX6_readNumeral_92 : decode cX6_readNumeral 92 = .ok (.putfield 28, 3) := by decide +kernel
theorem dX6_readNumeral_95 : decode cX6_readNumeral 95 = .ok (.aload_n 0, 1) := by decide +kernel
theorem dX6_readNumeral_96 : decode cX6_readNumeral 96 = .ok (.dup, 1) := by decide +kernel
theorem dX6_readNumeral_97 : decode cX6_readNumeral 97 = .ok (.getfield 25, 3) := by decide +kernel
theorem dX6_readNumeral_100 : decode cX6_readNumeral 100 = .ok (.iconst 1, 1) := by decide +kernel
theorem dX6_readNumeral_101 : decode cX6_readNumeral 101 = .ok (.iadd, 1) := by decide +kernel
theorem dX6_readNumeral_102 : decode cX6_readNumeral 102 = .ok (.putfield 25, 3) := by decide +kernel
theorem dX6_readNumeral_105 : decode cX6_readNumeral 105 = .ok (.goto (-95), 3) := by decide +kernel
theorem dX6_readNumeral_108 : decode cX6_readNumeral 108 = .ok (.aload_n 0, 1) := by decide +kernel
theorem dX6_readNumeral_109 : decode cX6_readNumeral 109 = .ok (.getfield 28, 3) := by decide +kernel
theorem dX6_readNumeral_112 : decode cX6_readNumeral 112 = .ok (.sipush 999, 3) := by decide +kernel
theorem dX6_readNumeral_115 : decode cX6_readNumeral 115 = .ok (.if_icmp .le 8, 3) := by decide +kernel
theorem dX6_readNumeral_118 : decode cX6_readNumeral 118 = .ok (.aload_n 0, 1) := by decide +kernel
theorem dX6_readNumeral_119 : decode cX6_readNumeral 119 = .ok (.iconst 5, 1) := by decide +kernel
theorem dX6_readNumeral_120 : decode cX6_readNumeral 120 = .ok (.putfield 19, 3) := by decide +kernel
theorem dX6_readNumeral_123 : decode cX6_readNumeral 123 = .ok (.return_, 1) := by decide +kernel
theorem dX6_hasMore_0 : decode cX6_hasMore 0 = .ok (.aload_n 0, 1) := by decide +kernel
theorem dX6_hasMore_1 : decode cX6_hasMore 1 = .ok (.getfield 31, 3) := by decide +kernel
theorem dX6_hasMore_4 : decode cX6_hasMore 4 = .ok (.ifCond .ne 14, 3) := by decide +kernel
theorem dX6_hasMore_7 : decode cX6_hasMore 7 = .ok (.aload_n 0, 1) := by decide +kernel
theorem dX6_hasMore_8 : decode cX6_hasMore 8 = .ok (.getfield 19, 3) := by decide +kernel
theorem dX6_hasMore_11 : decode cX6_hasMore 11 = .ok (.ifCond .eq 7, 3) := by decide +kernel
theorem dX6_hasMore_14 : decode cX6_hasMore 14 = .ok (.iconst 1, 1) := by decide +kernel
theorem dX6_hasMore_15 : decode cX6_hasMore 15 = .ok (.goto 4, 3) := by decide +kernel
theorem dX6_hasMore_18 : decode cX6_hasMore 18 = .ok (.iconst 0, 1) := by decide +kernel
theorem dX6_hasMore_19 : decode cX6_hasMore 19 = .ok (.ireturn, 1) := by decide +kernel
theorem dX6_take_0 : decode cX6_take 0 = .ok (.aload_n 0, 1) := by decide +kernel
theorem dX6_take_1 : decode cX6_take 1 = .ok (.getfield 31, 3) := by decide +kernel
theorem dX6_take_4 : decode cX6_take 4 = .ok (.ifCond .ne 19, 3) := by decide +kernel
theorem dX6_take_7 : decode cX6_take 7 = .ok (.aload_n 0, 1) := by decide +kernel
theorem dX6_take_8 : decode cX6_take 8 = .ok (.getfield 19, 3) := by decide +kernel
theorem dX6_take_11 : decode cX6_take 11 = .ok (.iload_n 1, 1) := by decide +kernel
theorem dX6_take_12 : decode cX6_take 12 = .ok (.if_icmp .ne 11, 3) := by decide +kernel
theorem dX6_take_15 : decode cX6_take 15 = .ok (.aload_n 0, 1) := by decide +kernel
theorem dX6_take_16 : decode cX6_take 16 = .ok (.getfield 28, 3) := by decide +kernel
theorem dX6_take_19 : decode cX6_take 19 = .ok (.iload_n 2, 1) := by decide +kernel
theorem dX6_take_20 : decode cX6_take 20 = .ok (.if_icmp .lt 10, 3) := by decide +kernel
theorem dX6_take_23 : decode cX6_take 23 = .ok (.aload_n 0, 1) := by decide +kernel
theorem dX6_take_24 : decode cX6_take 24 = .ok (.iconst 1, 1) := by decide +kernel
theorem dX6_take_25 : decode cX6_take 25 = .ok (.putfield 31, 3) := by decide +kernel
theorem dX6_take_28 : decode cX6_take 28 = .ok (.iconst 0, 1) := by decide +kernel
theorem dX6_take_29 : decode cX6_take 29 = .ok (.ireturn, 1) := by decide +kernel
theorem dX6_take_30 : decode cX6_take 30 = .ok (.aload_n 0, 1) := by decide +kernel
theorem dX6_take_31 : decode cX6_take 31 = .ok (.getfield 28, 3) := by decide +kernel
theorem dX6_take_34 : decode cX6_take 34 = .ok (.istore_n 3, 1) := by decide +kernel
theorem dX6_take_35 : decode cX6_take 35 = .ok (.aload_n 0, 1) := by decide +kernel
theorem dX6_take_36 : decode cX6_take 36 = .ok (.invokevirtual 35, 3) := by decide +kernel
theorem dX6_take_39 : decode cX6_take 39 = .ok (.iload_n 3, 1) := by decide +kernel
theorem dX6_take_40 : decode cX6_take 40 = .ok (.ireturn, 1) := by decide +kernel
theorem dX7_init_0 : decode cX7_init 0 = .ok (.aload_n 0, 1) := by decide +kernel
theorem dX7_init_1 : decode cX7_init 1 = .ok (.invokespecial 3, 3) := by decide +kernel
theorem dX7_init_4 : decode cX7_init 4 = .ok (.aload_n 0, 1) := by decide +kernel
theorem dX7_init_5 : decode cX7_init 5 = .ok (.iconst 2, 1) := by decide +kernel
theorem dX7_init_6 : decode cX7_init 6 = .ok (.putfield 11, 3) := by decide +kernel
theorem dX7_init_9 : decode cX7_init 9 = .ok (.aload_n 0, 1) := by decide +kernel
theorem dX7_init_10 : decode cX7_init 10 = .ok (.iconst 0, 1) := by decide +kernel
theorem dX7_init_11 : decode cX7_init 11 = .ok (.putfield 15, 3) := by decide +kernel
theorem dX7_init_14 : decode cX7_init 14 = .ok (.aload_n 0, 1) := by decide +kernel
theorem dX7_init_15 : decode cX7_init 15 = .ok (.bipush 24, 2) := by decide +kernel
theorem dX7_init_17 : decode cX7_init 17 = .ok (.newarray .int, 2) := by decide +kernel
theorem dX7_init_19 : decode cX7_init 19 = .ok (.putfield 18, 3) := by decide +kernel
theorem dX7_init_22 : decode cX7_init 22 = .ok (.aload_n 0, 1) := by decide +kernel
theorem dX7_init_23 : decode cX7_init 23 = .ok (.bipush 24, 2) := by decide +kernel
theorem dX7_init_25 : decode cX7_init 25 = .ok (.newarray .int, 2) := by decide +kernel
theorem dX7_init_27 : decode cX7_init 27 = .ok (.putfield 22, 3) := by decide +kernel
theorem dX7_init_30 : decode cX7_init 30 = .ok (.aload_n 0, 1) := by decide +kernel
theorem dX7_init_31 : decode cX7_init 31 = .ok (.bipush 8, 2) := by decide +kernel
theorem dX7_init_33 : decode cX7_init 33 = .ok (.newarray .int, 2) := by decide +kernel
theorem dX7_init_35 : decode cX7_init 35 = .ok (.putfield 25, 3) := by decide +kernel
theorem dX7_init_38 : decode cX7_init 38 = .ok (.return_, 1) := by decide +kernel
theorem dX7_start_0 : decode cX7_start 0 = .ok (.aload_n 0, 1) := by decide +kernel
theorem dX7_start_1 : decode cX7_start 1 = .ok (.iconst 2, 1) := by decide +kernel
theorem dX7_start_2 : decode cX7_start 2 = .ok (.putfield 11, 3) := by decide +kernel
theorem dX7_start_5 : decode cX7_start 5 = .ok (.aload_n 0, 1) := by decide +kernel
theorem dX7_start_6 : decode cX7_start 6 = .ok (.iconst 0, 1) := by decide +kernel
theorem dX7_start_7 : decode cX7_start 7 = .ok (.putfield 15, 3) := by decide +kernel
theorem dX7_start_10 : decode cX7_start 10 = .ok (.aload_n 0, 1) := by decide +kernel
theorem dX7_start_11 : decode cX7_start 11 = .ok (.getfield 18, 3) := by decide +kernel
theorem dX7_start_14 : decode cX7_start 14 = .ok (.iconst 0, 1) := by decide +kernel
theorem dX7_start_15 : decode cX7_start 15 = .ok (.invokestatic 28, 3) := by decide +kernel
theorem dX7_start_18 : decode cX7_start 18 = .ok (.aload_n 0, 1) := by decide +kernel
theorem dX7_start_19 : decode cX7_start 19 = .ok (.getfield 25, 3) := by decide +kernel
theorem dX7_start_22 : decode cX7_start 22 = .ok (.iconst 0, 1) := by decide +kernel
theorem dX7_start_23 : decode cX7_start 23 = .ok (.invokestatic 28, 3) := by decide +kernel
theorem dX7_start_26 : decode cX7_start 26 = .ok (.bipush (-9), 2) := by decide +kernel
theorem dX7_start_28 : decode cX7_start 28 = .ok (.istore_n 3, 1) := by decide +kernel
theorem dX7_start_29 : decode cX7_start 29 = .ok (.iconst 0, 1) := by decide +kernel
theorem dX7_start_30 : decode cX7_start 30 = .ok (.istore 4, 2) := by decide +kernel
theorem dX7_start_32 : decode cX7_start 32 = .ok (.iconst 0, 1) := by decide +kernel
theorem dX7_start_33 : decode cX7_start 33 = .ok (.istore 5, 2) := by decide +kernel
theorem dX7_start_35 : decode cX7_start 35 = .ok (.iload 5, 2) := by decide +kernel
theorem dX7_start_37 : decode cX7_start 37 = .ok (.bipush 60, 2) := by decide +kernel
theorem dX7_start_39 : decode cX7_start 39 = .ok (.if_icmp .ge 112, 3) := by decide +kernel
theorem dX7_start_42 : decode cX7_start 42 = .ok (.aload_n 1, 1) := by decide +kernel
theorem dX7_start_43 : decode cX7_start 43 = .ok (.iload 4, 2) := by decide +kernel
theorem dX7_start_45 : decode cX7_start 45 = .ok (.invokevirtual 34, 3) := by decide +kernel
theorem dX7_start_48 : decode cX7_start 48 = .ok (.ifCond .eq 103, 3) := by decide +kernel
theorem dX7_start_51 : decode cX7_start 51 = .ok (.aload_n 0, 1) := by decide +kernel
theorem dX7_start_52 : decode cX7_start 52 = .ok (.getfield 25, 3) := by decide +kernel
theorem dX7_start_55 : decode cX7_start 55 = .ok (.iload 4, 2) := by decide +kernel
theorem dX7_start_57 : decode cX7_start 57 = .ok (.dup2, 1) := by decide +kernel
theorem dX7_start_58 : decode cX7_start 58 = .ok (.iaload, 1) := by decide +kernel
theorem dX7_start_59 : decode cX7_start 59 = .ok (.iconst 1, 1) := by decide +kernel
theorem dX7_start_60 : decode cX7_start 60 = .ok (.iadd, 1) := by decide +kernel
theorem dX7_start_61 : decode cX7_start 61 = .ok (.iastore, 1) := by decide +kernel
theorem dX7_start_62 : decode cX7_start 62 = .ok (.aload_n 0, 1) := by decide +kernel
theorem dX7_start_63 : decode cX7_start 63 = .ok (.aload_n 1, 1) := by decide +kernel
theorem dX7_start_64 : decode cX7_start 64 = .ok (.iload 4, 2) := by decide +kernel
theorem dX7_start_66 : decode cX7_start 66 = .ok (.iload_n 3, 1) := by decide +kernel
theorem dX7_start_67 : decode cX7_start 67 = .ok (.invokevirtual 40, 3) := by decide +kernel
theorem dX7_start_70 : decode cX7_start 70 = .ok (.aload_n 0, 1) := by decide +kernel
theorem dX7_start_71 : decode cX7_start 71 = .ok (.aload_n 1, 1) := by decide +kernel
theorem dX7_start_72 : decode cX7_start 72 = .ok (.aload_n 2, 1) := by decide +kernel
theorem dX7_start_73 : decode cX7_start 73 = .ok (.iload 4, 2) := by decide +kernel
theorem dX7_start_75 : decode cX7_start 75 = .ok (.invokevirtual 44, 3) := by decide +kernel
theorem dX7_start_78 : decode cX7_start 78 = .ok (.istore 6, 2) := by decide +kernel
theorem dX7_start_80 : decode cX7_start 80 = .ok (.iload 6, 2) := by decide +kernel
theorem dX7_start_82 : decode cX7_start 82 = .ok (.bipush (-9), 2) := by decide +kernel
theorem dX7_start_84 : decode cX7_start 84 = .ok (.if_icmp .eq 15, 3) := by decide +kernel
theorem dX7_start_87 : decode cX7_start 87 = .ok (.aload_n 0, 1) := by decide +kernel
theorem dX7_start_88 : decode cX7_start 88 = .ok (.iconst 1, 1) := by decide +kernel
theorem dX7_start_89 : decode cX7_start 89 = .ok (.putfield 11, 3) := by decide +kernel
theorem dX7_start_92 : decode cX7_start 92 = .ok (.aload_n 0, 1) := by decide +kernel
theorem dX7_start_93 : decode cX7_start 93 = .ok (.iload 6, 2) := by decide +kernel
theorem dX7_start_95 : decode cX7_start 95 = .ok (.putfield 15, 3) := by decide +kernel
theorem dX7_start_98 : decode cX7_start 98 = .ok (.return_, 1) := by decide +kernel
theorem dX7_start_99 : decode cX7_start 99 = .ok (.aload_n 1, 1) := by decide +kernel
theorem dX7_start_100 : decode cX7_start 100 = .ok (.getfield 48, 3) := by decide +kernel
theorem dX7_start_103 : decode cX7_start 103 = .ok (.iload 4, 2) := by decide +kernel
theorem dX7_start_105 : decode cX7_start 105 = .ok (.iaload, 1) := by decide +kernel
theorem dX7_start_106 : decode cX7_start 106 = .ok (.iconst 2, 1) := by decide +kernel
theorem dX7_start_107 : decode cX7_start 107 = .ok (.if_icmp .ne 25, 3) := by decide +kernel
theorem dX7_start_110 : decode cX7_start 110 = .ok (.aload_n 0, 1) := by decide +kernel
theorem dX7_start_111 : decode cX7_start 111 = .ok (.iconst 0, 1) := by decide +kernel
theorem dX7_start_112 : decode cX7_start 112 = .ok (.putfield 11, 3) := by decide +kernel
theorem dX7_start_115 : decode cX7_start 115 = .ok (.aload_n 0, 1) := by decide +kernel
theorem dX7_start_116 : decode cX7_start 116 = .ok (.aload_n 0, 1) := by decide +kernel
theorem dX7_start_117 : decode cX7_start 117 = .ok (.getfield 18, 3) := by decide +kernel
theorem dX7_start_120 : decode cX7_start 120 = .ok (.aload_n 1, 1) := by decide +kernel
theorem dX7_start_121 : decode cX7_start 121 = .ok (.getfield 51, 3) := by decide +kernel
theorem dX7_start_124 : decode cX7_start 124 = .ok (.iload 4, 2) := by decide +kernel
theorem dX7_start_126 : decode cX7_start 126 = .ok (.iaload, 1) := by decide +kernel
theorem dX7_start_127 : decode cX7_start 127 = .ok (.iaload, 1) := by decide +kernel
theorem dX7_start_128 : decode cX7_start 128 = .ok (.putfield 15, 3) := by decide +kernel
theorem dX7_start_131 : decode cX7_start 131 = .ok (.return_, 1) := by decide +kernel
theorem dX7_start_132 : decode cX7_start 132 = .ok (.iload 4, 2) := by decide +kernel
theorem dX7_start_134 : decode cX7_start 134 = .ok (.istore_n 3, 1) := by decide +kernel
theorem dX7_start_135 : decode cX7_start 135 = .ok (.aload_n 0, 1) := by decide +kernel
theorem dX7_start_136 : decode cX7_start 136 = .ok (.aload_n 1, 1) := by decide +kernel
theorem dX7_start_137 : decode cX7_start 137 = .ok (.aload_n 2, 1) := by decide +kernel
theorem dX7_start_138 : decode cX7_start 138 = .ok (.iload 4, 2) := by decide +kernel
theorem dX7_start_140 : decode cX7_start 140 = .ok (.invokevirtual 54, 3) := by decide +kernel
theorem dX7_start_143 : decode cX7_start 143 = .ok (.istore 4, 2) := by decide +kernel
theorem dX7_start_145 : decode cX7_start 145 = .ok (.iinc 5 1, 3) := by decide +kernel
theorem dX7_start_148 : decode cX7_start 148 = .ok (.goto (-113), 3) := by decide +kernel
theorem dX7_start_151 : decode cX7_start 151 = .ok (.return_, 1) := by decide +kernel
theorem dX7_takeJoins_0 : decode cX7_takeJoins 0 = .ok (.aload_n 1, 1) := by decide +kernel
theorem dX7_takeJoins_1 : decode cX7_takeJoins 1 = .ok (.getfield 57, 3) := by decide +kernel
theorem dX7_takeJoins_4 : decode cX7_takeJoins 4 = .ok (.iload_n 2, 1) := by decide +kernel
theorem dX7_takeJoins_5 : decode cX7_takeJoins 5 = .ok (.iaload, 1) := by decide +kernel
theorem dX7_takeJoins_6 : decode cX7_takeJoins 6 = .ok (.aload_n 1, 1) := by decide +kernel
theorem dX7_takeJoins_7 : decode cX7_takeJoins 7 = .ok (.getfield 60, 3) := by decide +kernel
theorem dX7_takeJoins_10 : decode cX7_takeJoins 10 = .ok (.iload_n 2, 1) := by decide +kernel
theorem dX7_takeJoins_11 : decode cX7_takeJoins 11 = .ok (.iaload, 1) := by decide +kernel
theorem dX7_takeJoins_12 : decode cX7_takeJoins 12 = .ok (.iadd, 1) := by decide +kernel
theorem dX7_takeJoins_13 : decode cX7_takeJoins 13 = .ok (.istore 4, 2) := by decide +kernel
theorem dX7_takeJoins_15 : decode cX7_takeJoins 15 = .ok (.aload_n 1, 1) := by decide +kernel
theorem dX7_takeJoins_16 : decode cX7_takeJoins 16 = .ok (.getfield 57, 3) := by decide +kernel
theorem dX7_takeJoins_19 : decode cX7_takeJoins 19 = .ok (.iload_n 2, 1) := by decide +kernel
theorem dX7_takeJoins_20 : decode cX7_takeJoins 20 = .ok (.iaload, 1) := by decide +kernel
theorem dX7_takeJoins_21 : decode cX7_takeJoins 21 = .ok (.istore 5, 2) := by decide +kernel
theorem dX7_takeJoins_23 : decode cX7_takeJoins 23 = .ok (.iload 5, 2) := by decide +kernel
theorem dX7_takeJoins_25 : decode cX7_takeJoins 25 = .ok (.iload 4, 2) := by decide +kernel
theorem dX7_takeJoins_27 : decode cX7_takeJoins 27 = .ok (.if_icmp .ge 48, 3) := by decide +kernel
theorem dX7_takeJoins_30 : decode cX7_takeJoins 30 = .ok (.aload_n 1, 1) := by decide +kernel
theorem dX7_takeJoins_31 : decode cX7_takeJoins 31 = .ok (.iload 5, 2) := by decide +kernel
theorem dX7_takeJoins_33 : decode cX7_takeJoins 33 = .ok (.iload_n 3, 1) := by decide +kernel
theorem dX7_takeJoins_34 : decode cX7_takeJoins 34 = .ok (.invokevirtual 63, 3) := by decide +kernel
theorem dX7_takeJoins_37 : decode cX7_takeJoins 37 = .ok (.istore 6, 2) := by decide +kernel
theorem dX7_takeJoins_39 : decode cX7_takeJoins 39 = .ok (.aload_n 0, 1) := by decide +kernel
theorem dX7_takeJoins_40 : decode cX7_takeJoins 40 = .ok (.getfield 22, 3) := by decide +kernel
theorem dX7_takeJoins_43 : decode cX7_takeJoins 43 = .ok (.iload 5, 2) := by decide +kernel
theorem dX7_takeJoins_45 : decode cX7_takeJoins 45 = .ok (.iload 6, 2) := by decide +kernel
theorem dX7_takeJoins_47 : decode cX7_takeJoins 47 = .ok (.bipush (-9), 2) := by decide +kernel
theorem dX7_takeJoins_49 : decode cX7_takeJoins 49 = .ok (.if_icmp .ne 7, 3) := by decide +kernel
theorem dX7_takeJoins_52 : decode cX7_takeJoins 52 = .ok (.iconst 0, 1) := by decide +kernel
theorem dX7_takeJoins_53 : decode cX7_takeJoins 53 = .ok (.goto 15, 3) := by decide +kernel
theorem dX7_takeJoins_56 : decode cX7_takeJoins 56 = .ok (.aload_n 0, 1) := by decide +kernel
theorem dX7_takeJoins_57 : decode cX7_takeJoins 57 = .ok (.getfield 18, 3) := by decide +kernel
theorem dX7_takeJoins_60 : decode cX7_takeJoins 60 = .ok (.aload_n 1, 1) := by decide +kernel
theorem dX7_takeJoins_61 : decode cX7_takeJoins 61 = .ok (.getfield 67, 3) := by decide +kernel
theorem dX7_takeJoins_64 : decode cX7_takeJoins 64 = .ok (.iload 6, 2) := by decide +kernel
theorem dX7_takeJoins_66 : decode cX7_takeJoins 66 = .ok (.iaload, 1) := by decide +kernel
theorem dX7_takeJoins_67 : decode cX7_takeJoins 67 = .ok (.iaload, 1) := by decide +kernel
theorem dX7_takeJoins_68 : decode cX7_takeJoins 68 = .ok (.iastore, 1) := by decide +kernel
theorem dX7_takeJoins_69 : decode cX7_takeJoins 69 = .ok (.iinc 5 1, 3) := by decide +kernel
theorem dX7_takeJoins_72 : decode cX7_takeJoins 72 = .ok (.goto (-49), 3) := by decide +kernel
theorem dX7_takeJoins_75 : decode cX7_takeJoins 75 = .ok (.aload_n 1, 1) := by decide +kernel
theorem dX7_takeJoins_76 : decode cX7_takeJoins 76 = .ok (.getfield 57, 3) := by decide +kernel
theorem dX7_takeJoins_79 : decode cX7_takeJoins 79 = .ok (.iload_n 2, 1) := by decide +kernel
theorem dX7_takeJoins_80 : decode cX7_takeJoins 80 = .ok (.iaload, 1) := by decide +kernel
theorem dX7_takeJoins_81 : decode cX7_takeJoins 81 = .ok (.istore 5, 2) := by decide +kernel
theorem dX7_takeJoins_83 : decode cX7_takeJoins 83 = .ok (.iload 5, 2) := by decide +kernel
theorem dX7_takeJoins_85 : decode cX7_takeJoins 85 = .ok (.iload 4, 2) := by decide +kernel
theorem dX7_takeJoins_87 : decode cX7_takeJoins 87 = .ok (.if_icmp .ge 34, 3) := by decide +kernel
theorem dX7_takeJoins_90 : decode cX7_takeJoins 90 = .ok (.aload_n 1, 1) := by decide +kernel
theorem dX7_takeJoins_91 : decode cX7_takeJoins 91 = .ok (.getfield 70, 3) := by decide +kernel
theorem dX7_takeJoins_94 : decode cX7_takeJoins 94 = .ok (.iload 5, 2) := by decide +kernel
theorem dX7_takeJoins_96 : decode cX7_takeJoins 96 = .ok (.iaload, 1) := by decide +kernel
theorem dX7_takeJoins_97 : decode cX7_takeJoins 97 = .ok (.iconst 3, 1) := by decide +kernel
theorem dX7_takeJoins_98 : decode cX7_takeJoins 98 = .ok (.if_icmp .ne 17, 3) := by decide +kernel
theorem dX7_takeJoins_101 : decode cX7_takeJoins 101 = .ok (.aload_n 0, 1) := by decide +kernel
theorem dX7_takeJoins_102 : decode cX7_takeJoins 102 = .ok (.getfield 18, 3) := by decide +kernel
theorem dX7_takeJoins_105 : decode cX7_takeJoins 105 = .ok (.iload 5, 2) := by decide +kernel
theorem dX7_takeJoins_107 : decode cX7_takeJoins 107 = .ok (.aload_n 0, 1) := by decide +kernel
theorem dX7_takeJoins_108 : decode cX7_takeJoins 108 = .ok (.getfield 22, 3) := by decide +kernel
theorem dX7_takeJoins_111 : decode cX7_takeJoins 111 = .ok (.iload 5, 2) := by decide +kernel
theorem dX7_takeJoins_113 : decode cX7_takeJoins 113 = .ok (.iaload, 1) := by decide +kernel
theorem dX7_takeJoins_114 : decode cX7_takeJoins 114 = .ok (.iastore, 1) := by decide +kernel
theorem dX7_takeJoins_115 : decode cX7_takeJoins 115 = .ok (.iinc 5 1, 3) := by decide +kernel
theorem dX7_takeJoins_118 : decode cX7_takeJoins 118 = .ok (.goto (-35), 3) := by decide +kernel
theorem dX7_takeJoins_121 : decode cX7_takeJoins 121 = .ok (.return_, 1) := by decide +kernel
theorem dX7_makeNames_0 : decode cX7_makeNames 0 = .ok (.aload_n 1, 1) := by decide +kernel
theorem dX7_makeNames_1 : decode cX7_makeNames 1 = .ok (.getfield 57, 3) := by decide +kernel
theorem dX7_makeNames_4 : decode cX7_makeNames 4 = .ok (.iload_n 3, 1) := by decide +kernel
theorem dX7_makeNames_5 : decode cX7_makeNames 5 = .ok (.iaload, 1) := by decide +kernel
theorem dX7_makeNames_6 : decode cX7_makeNames 6 = .ok (.istore 4, 2) := by decide +kernel
theorem dX7_makeNames_8 : decode cX7_makeNames 8 = .ok (.iload 4, 2) := by decide +kernel
theorem dX7_makeNames_10 : decode cX7_makeNames 10 = .ok (.aload_n 1, 1) := by decide +kernel
theorem dX7_makeNames_11 : decode cX7_makeNames 11 = .ok (.getfield 57, 3) := by decide +kernel
theorem dX7_makeNames_14 : decode cX7_makeNames 14 = .ok (.iload_n 3, 1) := by decide +kernel
theorem dX7_makeNames_15 : decode cX7_makeNames 15 = .ok (.iaload, 1) := by decide +kernel
theorem dX7_makeNames_16 : decode cX7_makeNames 16 = .ok (.aload_n 1, 1) := by decide +kernel
theorem dX7_makeNames_17 : decode cX7_makeNames 17 = .ok (.getfield 60, 3) := by decide +kernel
theorem dX7_makeNames_20 : decode cX7_makeNames 20 = .ok (.iload_n 3, 1) := by decide +kernel
theorem dX7_makeNames_21 : decode cX7_makeNames 21 = .ok (.iaload, 1) := by decide +kernel
theorem dX7_makeNames_22 : decode cX7_makeNames 22 = .ok (.iadd, 1) := by decide +kernel
theorem dX7_makeNames_23 : decode cX7_makeNames 23 = .ok (.if_icmp .ge 141, 3) := by decide +kernel
theorem dX7_makeNames_26 : decode cX7_makeNames 26 = .ok (.aload_n 1, 1) := by decide +kernel
theorem dX7_makeNames_27 : decode cX7_makeNames 27 = .ok (.getfield 70, 3) := by decide +kernel
theorem dX7_makeNames_30 : decode cX7_makeNames 30 = .ok (.iload 4, 2) := by decide +kernel
theorem dX7_makeNames_32 : decode cX7_makeNames 32 = .ok (.iaload, 1) := by decide +kernel
theorem dX7_makeNames_33 : decode cX7_makeNames 33 = .ok (.ifCond .ne 20, 3) := by decide +kernel
theorem dX7_makeNames_36 : decode cX7_makeNames 36 = .ok (.aload_n 0, 1) := by decide +kernel
theorem dX7_makeNames_37 : decode cX7_makeNames 37 = .ok (.getfield 18, 3) := by decide +kernel
theorem dX7_makeNames_40 : decode cX7_makeNames 40 = .ok (.iload 4, 2) := by decide +kernel
theorem dX7_makeNames_42 : decode cX7_makeNames 42 = .ok (.aload_n 2, 1) := by decide +kernel
theorem dX7_makeNames_43 : decode cX7_makeNames 43 = .ok (.getfield 73, 3) := by decide +kernel
theorem dX7_makeNames_46 : decode cX7_makeNames 46 = .ok (.iload 4, 2) := by decide +kernel
theorem dX7_makeNames_48 : decode cX7_makeNames 48 = .ok (.iaload, 1) := by decide +kernel
theorem dX7_makeNames_49 : decode cX7_makeNames 49 = .ok (.iastore, 1) := by decide +kernel
theorem dX7_makeNames_50 : decode cX7_makeNames 50 = .ok (.goto 108, 3) := by decide +kernel
theorem dX7_makeNames_53 : decode cX7_makeNames 53 = .ok (.aload_n 1, 1) := by decide +kernel
theorem dX7_makeNames_54 : decode cX7_makeNames 54 = .ok (.getfield 70, 3) := by decide +kernel
theorem dX7_makeNames_57 : decode cX7_makeNames 57 = .ok (.iload 4, 2) := by decide +kernel
theorem dX7_makeNames_59 : decode cX7_makeNames 59 = .ok (.iaload, 1) := by decide +kernel
theorem dX7_makeNames_60 : decode cX7_makeNames 60 = .ok (.iconst 1, 1) := by decide +kernel
theorem dX7_makeNames_61 : decode cX7_makeNames 61 = .ok (.if_icmp .ne 19, 3) := by decide +kernel
theorem dX7_makeNames_64 : decode cX7_makeNames 64 = .ok (.aload_n 0, 1) := by decide +kernel
theorem dX7_makeNames_65 : decode cX7_makeNames 65 = .ok (.getfield 18, 3) := by decide +kernel
theorem dX7_makeNames_68 : decode cX7_makeNames 68 = .ok (.iload 4, 2) := by decide +kernel
theorem dX7_makeNames_70 : decode cX7_makeNames 70 = .ok (.aload_n 2, 1) := by decide +kernel
theorem dX7_makeNames_71 : decode cX7_makeNames 71 = .ok (.iload 4, 2) := by decide +kernel
theorem dX7_makeNames_73 : decode cX7_makeNames 73 = .ok (.invokevirtual 78, 3) := by decide +kernel
theorem dX7_makeNames_76 : decode cX7_makeNames 76 = .ok (.iastore, 1) := by decide +kernel
theorem dX7_makeNames_77 : decode cX7_makeNames 77 = .ok (.goto 81, 3) := by decide +kernel
theorem dX7_makeNames_80 : decode cX7_makeNames 80 = .ok (.aload_n 1, 1) := by decide +kernel
theorem dX7_makeNames_81 : decode cX7_makeNames 81 = .ok (.getfield 70, 3) := by decide +kernel
theorem dX7_makeNames_84 : decode cX7_makeNames 84 = .ok (.iload 4, 2) := by decide +kernel
theorem dX7_makeNames_86 : decode cX7_makeNames 86 = .ok (.iaload, 1) := by decide +kernel
theorem dX7_makeNames_87 : decode cX7_makeNames 87 = .ok (.iconst 2, 1) := by decide +kernel
theorem dX7_makeNames_88 : decode cX7_makeNames 88 = .ok (.if_icmp .ne 70, 3) := by decide +kernel
theorem dX7_makeNames_91 : decode cX7_makeNames 91 = .ok (.aload_n 0, 1) := by decide +kernel
theorem dX7_makeNames_92 : decode cX7_makeNames 92 = .ok (.getfield 18, 3) := by decide +kernel
theorem dX7_makeNames_95 : decode cX7_makeNames 95 = .ok (.aload_n 1, 1) := by decide +kernel
theorem dX7_makeNames_96 : decode cX7_makeNames 96 = .ok (.getfield 82, 3) := by decide +kernel
theorem dX7_makeNames_99 : decode cX7_makeNames 99 = .ok (.iload 4, 2) := by decide +kernel
theorem dX7_makeNames_101 : decode cX7_makeNames 101 = .ok (.iaload, 1) := by decide +kernel
theorem dX7_makeNames_102 : decode cX7_makeNames 102 = .ok (.iaload, 1) := by decide +kernel
theorem dX7_makeNames_103 : decode cX7_makeNames 103 = .ok (.istore 5, 2) := by decide +kernel
theorem dX7_makeNames_105 : decode cX7_makeNames 105 = .ok (.aload_n 0, 1) := by decide +kernel
theorem dX7_makeNames_106 : decode cX7_makeNames 106 = .ok (.getfield 18, 3) := by decide +kernel
theorem dX7_makeNames_109 : decode cX7_makeNames 109 = .ok (.aload_n 1, 1) := by decide +kernel
theorem dX7_makeNames_110 : decode cX7_makeNames 110 = .ok (.getfield 85, 3) := by decide +kernel
theorem dX7_makeNames_113 : decode cX7_makeNames 113 = .ok (.iload 4, 2) := by decide +kernel
theorem dX7_makeNames_115 : decode cX7_makeNames 115 = .ok (.iaload, 1) := by decide +kernel
theorem dX7_makeNames_116 : decode cX7_makeNames 116 = .ok (.iaload, 1) := by decide +kernel
theorem dX7_makeNames_117 : decode cX7_makeNames 117 = .ok (.istore 6, 2) := by decide +kernel
theorem dX7_makeNames_119 : decode cX7_makeNames 119 = .ok (.aload_n 1, 1) := by decide +kernel
theorem dX7_makeNames_120 : decode cX7_makeNames 120 = .ok (.getfield 88, 3) := by decide +kernel
theorem dX7_makeNames_123 : decode cX7_makeNames 123 = .ok (.iload 4, 2) := by decide +kernel
theorem dX7_makeNames_125 : decode cX7_makeNames 125 = .ok (.iaload, 1) := by decide +kernel
theorem dX7_makeNames_126 : decode cX7_makeNames 126 = .ok (.iload 6, 2) := by decide +kernel
theorem dX7_makeNames_128 : decode cX7_makeNames 128 = .ok (.invokestatic 91, 3) := by decide +kernel
theorem dX7_makeNames_131 : decode cX7_makeNames 131 = .ok (.ifCond .eq 6, 3) := by decide +kernel
theorem dX7_makeNames_134 : decode cX7_makeNames 134 = .ok (.iload 4, 2) := by decide +kernel
theorem dX7_makeNames_136 : decode cX7_makeNames 136 = .ok (.ireturn, 1) := by decide +kernel
theorem dX7_makeNames_137 : decode cX7_makeNames 137 = .ok (.aload_n 0, 1) := by decide +kernel
theorem dX7_makeNames_138 : decode cX7_makeNames 138 = .ok (.getfield 18, 3) := by decide +kernel
theorem dX7_makeNames_141 : decode cX7_makeNames 141 = .ok (.iload 4, 2) := by decide +kernel
theorem dX7_makeNames_143 : decode cX7_makeNames 143 = .ok (.aload_n 1, 1) := by decide +kernel
theorem dX7_makeNames_144 : decode cX7_makeNames 144 = .ok (.getfield 88, 3) := by decide +kernel
theorem dX7_makeNames_147 : decode cX7_makeNames 147 = .ok (.iload 4, 2) := by decide +kernel
theorem dX7_makeNames_149 : decode cX7_makeNames 149 = .ok (.iaload, 1) := by decide +kernel
theorem dX7_makeNames_150 : decode cX7_makeNames 150 = .ok (.iload 5, 2) := by decide +kernel
theorem dX7_makeNames_152 : decode cX7_makeNames 152 = .ok (.iload 6, 2) := by decide +kernel
theorem dX7_makeNames_154 : decode cX7_makeNames 154 = .ok (.invokestatic 97, 3) := by decide +kernel
theorem dX7_makeNames_157 : decode cX7_makeNames 157 = .ok (.iastore, 1) := by decide +kernel
theorem dX7_makeNames_158 : decode cX7_makeNames 158 = .ok (.iinc 4 1, 3) := by decide +kernel
theorem dX7_makeNames_161 : decode cX7_makeNames 161 = .ok (.goto (-153), 3) := by decide +kernel
theorem dX7_makeNames_164 : decode cX7_makeNames 164 = .ok (.bipush (-9), 2) := by decide +kernel
theorem dX7_makeNames_166 : decode cX7_makeNames 166 = .ok (.ireturn, 1) := by decide +kernel
theorem dX7_next_0 : decode cX7_next 0 = .ok (.aload_n 1, 1) := by decide +kernel
theorem dX7_next_1 : decode cX7_next 1 = .ok (.getfield 48, 3) := by decide +kernel
theorem dX7_next_4 : decode cX7_next 4 = .ok (.iload_n 3, 1) := by decide +kernel
theorem dX7_next_5 : decode cX7_next 5 = .ok (.iaload, 1) := by decide +kernel
theorem dX7_next_6 : decode cX7_next 6 = .ok (.iconst 1, 1) := by decide +kernel
theorem dX7_next_7 : decode cX7_next 7 = .ok (.if_icmp .ne 20, 3) := by decide +kernel
theorem dX7_next_10 : decode cX7_next 10 = .ok (.aload_n 0, 1) := by decide +kernel
theorem dX7_next_11 : decode cX7_next 11 = .ok (.getfield 18, 3) := by decide +kernel
theorem dX7_next_14 : decode cX7_next 14 = .ok (.aload_n 1, 1) := by decide +kernel
theorem dX7_next_15 : decode cX7_next 15 = .ok (.getfield 51, 3) := by decide +kernel
theorem dX7_next_18 : decode cX7_next 18 = .ok (.iload_n 3, 1) := by decide +kernel
theorem dX7_next_19 : decode cX7_next 19 = .ok (.iaload, 1) := by decide +kernel
theorem dX7_next_20 : decode cX7_next 20 = .ok (.iaload, 1) := by decide +kernel
theorem dX7_next_21 : decode cX7_next 21 = .ok (.invokestatic 101, 3) := by decide +kernel
theorem dX7_next_24 : decode cX7_next 24 = .ok (.goto 4, 3) := by decide +kernel
theorem dX7_next_27 : decode cX7_next 27 = .ok (.iconst 0, 1) := by decide +kernel
theorem dX7_next_28 : decode cX7_next 28 = .ok (.istore 4, 2) := by decide +kernel
theorem dX7_next_30 : decode cX7_next 30 = .ok (.aload_n 2, 1) := by decide +kernel
theorem dX7_next_31 : decode cX7_next 31 = .ok (.getfield 104, 3) := by decide +kernel
theorem dX7_next_34 : decode cX7_next 34 = .ok (.iconst 2, 1) := by decide +kernel
theorem dX7_next_35 : decode cX7_next 35 = .ok (.iload_n 3, 1) := by decide +kernel
theorem dX7_next_36 : decode cX7_next 36 = .ok (.imul, 1) := by decide +kernel
theorem dX7_next_37 : decode cX7_next 37 = .ok (.iload 4, 2) := by decide +kernel
theorem dX7_next_39 : decode cX7_next 39 = .ok (.iadd, 1) := by decide +kernel
theorem dX7_next_40 : decode cX7_next 40 = .ok (.iaload, 1) := by decide +kernel
theorem dX7_next_41 : decode cX7_next 41 = .ok (.ireturn, 1) := by decide +kernel
theorem dX8_init_0 : decode cX8_init 0 = .ok (.aload_n 0, 1) := by decide +kernel
theorem dX8_init_1 : decode cX8_init 1 = .ok (.invokespecial 3, 3) := by decide +kernel
theorem dX8_init_4 : decode cX8_init 4 = .ok (.aload_n 0, 1) := by decide +kernel
theorem dX8_init_5 : decode cX8_init 5 = .ok (.new 9, 3) := by decide +kernel
theorem dX8_init_8 : decode cX8_init 8 = .ok (.dup, 1) := by decide +kernel
theorem dX8_init_9 : decode cX8_init 9 = .ok (.invokespecial 11, 3) := by decide +kernel
theorem dX8_init_12 : decode cX8_init 12 = .ok (.putfield 12, 3) := by decide +kernel
theorem dX8_init_15 : decode cX8_init 15 = .ok (.aload_n 0, 1) := by decide +kernel
theorem dX8_init_16 : decode cX8_init 16 = .ok (.new 16, 3) := by decide +kernel
theorem dX8_init_19 : decode cX8_init 19 = .ok (.dup, 1) := by decide +kernel
theorem dX8_init_20 : decode cX8_init 20 = .ok (.invokespecial 18, 3) := by decide +kernel
theorem dX8_init_23 : decode cX8_init 23 = .ok (.putfield 19, 3) := by decide +kernel
theorem dX8_init_26 : decode cX8_init 26 = .ok (.aload_n 0, 1) := by decide +kernel
theorem dX8_init_27 : decode cX8_init 27 = .ok (.new 16, 3) := by decide +kernel
theorem dX8_init_30 : decode cX8_init 30 = .ok (.dup, 1) := by decide +kernel
theorem dX8_init_31 : decode cX8_init 31 = .ok (.invokespecial 18, 3) := by decide +kernel
theorem dX8_init_34 : decode cX8_init 34 = .ok (.putfield 23, 3) := by decide +kernel
theorem dX8_init_37 : decode cX8_init 37 = .ok (.aload_n 0, 1) := by decide +kernel
theorem dX8_init_38 : decode cX8_init 38 = .ok (.new 26, 3) := by decide +kernel
theorem dX8_init_41 : decode cX8_init 41 = .ok (.dup, 1) := by decide +kernel
theorem dX8_init_42 : decode cX8_init 42 = .ok (.invokespecial 28, 3) := by decide +kernel
theorem dX8_init_45 : decode cX8_init 45 = .ok (.putfield 29, 3) := by decide +kernel
theorem dX8_init_48 : decode cX8_init 48 = .ok (.aload_n 0, 1) := by decide +kernel
theorem dX8_init_49 : decode cX8_init 49 = .ok (.new 33, 3) := by decide +kernel
theorem dX8_init_52 : decode cX8_init 52 = .ok (.dup, 1) := by decide +kernel
theorem dX8_init_53 : decode cX8_init 53 = .ok (.invokespecial 35, 3) := by decide +kernel
theorem dX8_init_56 : decode cX8_init 56 = .ok (.putfield 36, 3) := by decide +kernel
theorem dX8_init_59 : decode cX8_init 59 = .ok (.aload_n 0, 1) := by decide +kernel
theorem dX8_init_60 : decode cX8_init 60 = .ok (.new 33, 3) := by decide +kernel
theorem dX8_init_63 : decode cX8_init 63 = .ok (.dup, 1) := by decide +kernel
theorem dX8_init_64 : decode cX8_init 64 = .ok (.invokespecial 35, 3) := by decide +kernel
theorem dX8_init_67 : decode cX8_init 67 = .ok (.putfield 40, 3) := by decide +kernel
theorem dX8_init_70 : decode cX8_init 70 = .ok (.aload_n 0, 1) := by decide +kernel
theorem dX8_init_71 : decode cX8_init 71 = .ok (.new 33, 3) := by decide +kernel
theorem dX8_init_74 : decode cX8_init 74 = .ok (.dup, 1) := by decide +kernel
theorem dX8_init_75 : decode cX8_init 75 = .ok (.invokespecial 35, 3) := by decide +kernel
theorem dX8_init_78 : decode cX8_init 78 = .ok (.putfield 43, 3) := by decide +kernel
theorem dX8_init_81 : decode cX8_init 81 = .ok (.aload_n 0, 1) := by decide +kernel
theorem dX8_init_82 : decode cX8_init 82 = .ok (.new 46, 3) := by decide +kernel
theorem dX8_init_85 : decode cX8_init 85 = .ok (.dup, 1) := by decide +kernel
theorem dX8_init_86 : decode cX8_init 86 = .ok (.invokespecial 48, 3) := by decide +kernel
theorem dX8_init_89 : decode cX8_init 89 = .ok (.putfield 49, 3) := by decide +kernel
theorem dX8_init_92 : decode cX8_init 92 = .ok (.aload_n 0, 1) := by decide +kernel
theorem dX8_init_93 : decode cX8_init 93 = .ok (.new 53, 3) := by decide +kernel
theorem dX8_init_96 : decode cX8_init 96 = .ok (.dup, 1) := by decide +kernel
theorem dX8_init_97 : decode cX8_init 97 = .ok (.invokespecial 55, 3) := by decide +kernel
theorem dX8_init_100 : decode cX8_init 100 = .ok (.putfield 56, 3) := by decide +kernel
theorem dX8_init_103 : decode cX8_init 103 = .ok (.aload_n 0, 1) := by decide +kernel
theorem dX8_init_104 : decode cX8_init 104 = .ok (.iconst 2, 1) := by decide +kernel
theorem dX8_init_105 : decode cX8_init 105 = .ok (.anewarray 26, 3) := by decide +kernel
theorem dX8_init_108 : decode cX8_init 108 = .ok (.putfield 60, 3) := by decide +kernel
theorem dX8_init_111 : decode cX8_init 111 = .ok (.iconst 0, 1) := by decide +kernel
theorem dX8_init_112 : decode cX8_init 112 = .ok (.istore_n 1, 1) := by decide +kernel
theorem dX8_init_113 : decode cX8_init 113 = .ok (.iload_n 1, 1) := by decide +kernel
theorem dX8_init_114 : decode cX8_init 114 = .ok (.iconst 2, 1) := by decide +kernel
theorem dX8_init_115 : decode cX8_init 115 = .ok (.if_icmp .ge 22, 3) := by decide +kernel
theorem dX8_init_118 : decode cX8_init 118 = .ok (.aload_n 0, 1) := by decide +kernel
theorem dX8_init_119 : decode cX8_init 119 = .ok (.getfield 60, 3) := by decide +kernel
theorem dX8_init_122 : decode cX8_init 122 = .ok (.iload_n 1, 1) := by decide +kernel
theorem dX8_init_123 : decode cX8_init 123 = .ok (.new 26, 3) := by decide +kernel
theorem dX8_init_126 : decode cX8_init 126 = .ok (.dup, 1) := by decide +kernel
theorem dX8_init_127 : decode cX8_init 127 = .ok (.invokespecial 28, 3) := by decide +kernel
theorem dX8_init_130 : decode cX8_init 130 = .ok (.aastore, 1) := by decide +kernel
theorem dX8_init_131 : decode cX8_init 131 = .ok (.iinc 1 1, 3) := by decide +kernel
theorem dX8_init_134 : decode cX8_init 134 = .ok (.goto (-21), 3) := by decide +kernel
theorem dX8_init_137 : decode cX8_init 137 = .ok (.aload_n 0, 1) := by decide +kernel
theorem dX8_init_138 : decode cX8_init 138 = .ok (.iconst 2, 1) := by decide +kernel
theorem dX8_init_139 : decode cX8_init 139 = .ok (.newarray .int, 2) := by decide +kernel
theorem dX8_init_141 : decode cX8_init 141 = .ok (.putfield 64, 3) := by decide +kernel
theorem dX8_init_144 : decode cX8_init 144 = .ok (.aload_n 0, 1) := by decide +kernel
theorem dX8_init_145 : decode cX8_init 145 = .ok (.iconst 0, 1) := by decide +kernel
theorem dX8_init_146 : decode cX8_init 146 = .ok (.putfield 68, 3) := by decide +kernel
theorem dX8_init_149 : decode cX8_init 149 = .ok (.return_, 1) := by decide +kernel
theorem dX8_type_0 : decode cX8_type 0 = .ok (.iload_n 1, 1) := by decide +kernel
theorem dX8_type_1 : decode cX8_type 1 = .ok (.ifCond .lt 10, 3) := by decide +kernel
theorem dX8_type_4 : decode cX8_type 4 = .ok (.iload_n 1, 1) := by decide +kernel
theorem dX8_type_5 : decode cX8_type 5 = .ok (.sipush 255, 3) := by decide +kernel
theorem dX8_type_8 : decode cX8_type 8 = .ok (.if_icmp .le 5, 3) := by decide +kernel
theorem dX8_type_11 : decode cX8_type 11 = .ok (.iconst (-1), 1) := by decide +kernel
theorem dX8_type_12 : decode cX8_type 12 = .ok (.ireturn, 1) := by decide +kernel
theorem dX8_type_13 : decode cX8_type 13 = .ok (.aload_n 0, 1) := by decide +kernel
theorem dX8_type_14 : decode cX8_type 14 = .ok (.getfield 12, 3) := by decide +kernel
theorem dX8_type_17 : decode cX8_type 17 = .ok (.getfield 72, 3) := by decide +kernel
theorem dX8_type_20 : decode cX8_type 20 = .ok (.sipush 150, 3) := by decide +kernel
theorem dX8_type_23 : decode cX8_type 23 = .ok (.if_icmp .lt 6, 3) := by decide +kernel
theorem dX8_type_26 : decode cX8_type 26 = .ok (.bipush (-3), 2) := by decide +kernel
theorem dX8_type_28 : decode cX8_type 28 = .ok (.ireturn, 1) := by decide +kernel
theorem dX8_type_29 : decode cX8_type 29 = .ok (.aload_n 0, 1) := by decide +kernel
theorem dX8_type_30 : decode cX8_type 30 = .ok (.getfield 12, 3) := by decide +kernel
theorem dX8_type_33 : decode cX8_type 33 = .ok (.getfield 75, 3) := by decide +kernel
theorem dX8_type_36 : decode cX8_type 36 = .ok (.aload_n 0, 1) := by decide +kernel
theorem dX8_type_37 : decode cX8_type 37 = .ok (.getfield 12, 3) := by decide +kernel
theorem dX8_type_40 : decode cX8_type 40 = .ok (.getfield 72, 3) := by decide +kernel
theorem dX8_type_43 : decode cX8_type 43 = .ok (.iload_n 1, 1) := by decide +kernel
theorem dX8_type_44 : decode cX8_type 44 = .ok (.iastore, 1) := by decide +kernel
theorem dX8_type_45 : decode cX8_type 45 = .ok (.aload_n 0, 1) := by decide +kernel
theorem dX8_type_46 : decode cX8_type 46 = .ok (.getfield 12, 3) := by decide +kernel
theorem dX8_type_49 : decode cX8_type 49 = .ok (.dup, 1) := by decide +kernel
theorem dX8_type_50 : decode cX8_type 50 = .ok (.getfield 72, 3) := by decide +kernel
theorem dX8_type_53 : decode cX8_type 53 = .ok (.iconst 1, 1) := by decide +kernel
theorem dX8_type_54 : decode cX8_type 54 = .ok (.iadd, 1) := by decide +kernel
theorem dX8_type_55 : decode cX8_type 55 = .ok (.putfield 72, 3) := by decide +kernel
theorem dX8_type_58 : decode cX8_type 58 = .ok (.aload_n 0, 1) := by decide +kernel
theorem dX8_type_59 : decode cX8_type 59 = .ok (.getfield 12, 3) := by decide +kernel
theorem dX8_type_62 : decode cX8_type 62 = .ok (.getfield 72, 3) := by decide +kernel
theorem dX8_type_65 : decode cX8_type 65 = .ok (.ireturn, 1) := by decide +kernel
theorem dX8_clear_0 : decode cX8_clear 0 = .ok (.aload_n 0, 1) := by decide +kernel
theorem dX8_clear_1 : decode cX8_clear 1 = .ok (.getfield 12, 3) := by decide +kernel
theorem dX8_clear_4 : decode cX8_clear 4 = .ok (.getfield 72, 3) := by decide +kernel
theorem dX8_clear_7 : decode cX8_clear 7 = .ok (.istore_n 1, 1) := by decide +kernel
theorem dX8_clear_8 : decode cX8_clear 8 = .ok (.aload_n 0, 1) := by decide +kernel
theorem dX8_clear_9 : decode cX8_clear 9 = .ok (.getfield 12, 3) := by decide +kernel
theorem dX8_clear_12 : decode cX8_clear 12 = .ok (.iconst 0, 1) := by decide +kernel
theorem dX8_clear_13 : decode cX8_clear 13 = .ok (.putfield 72, 3) := by decide +kernel
theorem dX8_clear_16 : decode cX8_clear 16 = .ok (.iload_n 1, 1) := by decide +kernel
theorem dX8_clear_17 : decode cX8_clear 17 = .ok (.ireturn, 1) := by decide +kernel
theorem dX8_program_0 : decode cX8_program 0 = .ok (.aload_n 0, 1) := by decide +kernel
theorem dX8_program_1 : decode cX8_program 1 = .ok (.getfield 12, 3) := by decide +kernel
theorem dX8_program_4 : decode cX8_program 4 = .ok (.aload_n 0, 1) := by decide +kernel
theorem dX8_program_5 : decode cX8_program 5 = .ok (.getfield 23, 3) := by decide +kernel
theorem dX8_program_8 : decode cX8_program 8 = .ok (.invokestatic 78, 3) := by decide +kernel
theorem dX8_program_11 : decode cX8_program 11 = .ok (.istore_n 1, 1) := by decide +kernel
theorem dX8_program_12 : decode cX8_program 12 = .ok (.iload_n 1, 1) := by decide +kernel
theorem dX8_program_13 : decode cX8_program 13 = .ok (.iconst (-1), 1) := by decide +kernel
theorem dX8_program_14 : decode cX8_program 14 = .ok (.if_icmp .eq 8, 3) := by decide +kernel
theorem dX8_program_17 : decode cX8_program 17 = .ok (.bipush (-10), 2) := by decide +kernel
theorem dX8_program_19 : decode cX8_program 19 = .ok (.iload_n 1, 1) := by decide +kernel
theorem dX8_program_20 : decode cX8_program 20 = .ok (.isub, 1) := by decide +kernel
theorem dX8_program_21 : decode cX8_program 21 = .ok (.ireturn, 1) := by decide +kernel
theorem dX8_program_22 : decode cX8_program 22 = .ok (.aload_n 0, 1) := by decide +kernel
theorem dX8_program_23 : decode cX8_program 23 = .ok (.getfield 19, 3) := by decide +kernel
theorem dX8_program_26 : decode cX8_program 26 = .ok (.astore_n 2, 1) := by decide +kernel
theorem dX8_program_27 : decode cX8_program 27 = .ok (.aload_n 0, 1) := by decide +kernel
theorem dX8_program_28 : decode cX8_program 28 = .ok (.aload_n 0, 1) := by decide +kernel
theorem dX8_program_29 : decode cX8_program 29 = .ok (.getfield 23, 3) := by decide +kernel
theorem dX8_program_32 : decode cX8_program 32 = .ok (.putfield 19, 3) := by decide +kernel
theorem dX8_program_35 : decode cX8_program 35 = .ok (.aload_n 0, 1) := by decide +kernel
theorem dX8_program_36 : decode cX8_program 36 = .ok (.aload_n 2, 1) := by decide +kernel
theorem dX8_program_37 : decode cX8_program 37 = .ok (.putfield 23, 3) := by decide +kernel
theorem dX8_program_40 : decode cX8_program 40 = .ok (.aload_n 0, 1) := by decide +kernel
theorem dX8_program_41 : decode cX8_program 41 = .ok (.getfield 12, 3) := by decide +kernel
theorem dX8_program_44 : decode cX8_program 44 = .ok (.iconst 0, 1) := by decide +kernel
theorem dX8_program_45 : decode cX8_program 45 = .ok (.putfield 72, 3) := by decide +kernel
theorem dX8_program_48 : decode cX8_program 48 = .ok (.aload_n 0, 1) := by decide +kernel
theorem dX8_program_49 : decode cX8_program 49 = .ok (.getfield 29, 3) := by decide +kernel
theorem dX8_program_52 : decode cX8_program 52 = .ok (.aload_n 0, 1) := by decide +kernel
theorem dX8_program_53 : decode cX8_program 53 = .ok (.getfield 19, 3) := by decide +kernel
theorem dX8_program_56 : decode cX8_program 56 = .ok (.invokevirtual 84, 3) := by decide +kernel
theorem dX8_program_59 : decode cX8_program 59 = .ok (.aload_n 0, 1) := by decide +kernel
theorem dX8_program_60 : decode cX8_program 60 = .ok (.getfield 56, 3) := by decide +kernel
theorem dX8_program_63 : decode cX8_program 63 = .ok (.iconst 0, 1) := by decide +kernel
theorem dX8_program_64 : decode cX8_program 64 = .ok (.putfield 88, 3) := by decide +kernel
theorem dX8_program_67 : decode cX8_program 67 = .ok (.aload_n 0, 1) := by decide +kernel
theorem dX8_program_68 : decode cX8_program 68 = .ok (.getfield 64, 3) := by decide +kernel
theorem dX8_program_71 : decode cX8_program 71 = .ok (.iconst 0, 1) := by decide +kernel
theorem dX8_program_72 : decode cX8_program 72 = .ok (.invokestatic 91, 3) := by decide +kernel
theorem dX8_program_75 : decode cX8_program 75 = .ok (.aload_n 0, 1) := by decide +kernel
theorem dX8_program_76 : decode cX8_program 76 = .ok (.invokevirtual 97, 3) := by decide +kernel
theorem dX8_program_79 : decode cX8_program 79 = .ok (.aload_n 0, 1) := by decide +kernel
theorem dX8_program_80 : decode cX8_program 80 = .ok (.getfield 19, 3) := by decide +kernel
theorem dX8_program_83 : decode cX8_program 83 = .ok (.getfield 100, 3) := by decide +kernel
theorem dX8_program_86 : decode cX8_program 86 = .ok (.ireturn, 1) := by decide +kernel
theorem dX8_name_0 : decode cX8_name 0 = .ok (.aload_n 0, 1) := by decide +kernel
theorem dX8_name_1 : decode cX8_name 1 = .ok (.getfield 19, 3) := by decide +kernel
theorem dX8_name_4 : decode cX8_name 4 = .ok (.iload_n 1, 1) := by decide +kernel
theorem dX8_name_5 : decode cX8_name 5 = .ok (.invokevirtual 103, 3) := by decide +kernel
theorem dX8_name_8 : decode cX8_name 8 = .ok (.ifCond .eq 13, 3) := by decide +kernel
theorem dX8_name_11 : decode cX8_name 11 = .ok (.iload_n 2, 1) := by decide +kernel
theorem dX8_name_12 : decode cX8_name 12 = .ok (.ifCond .lt 9, 3) := by decide +kernel
theorem dX8_name_15 : decode cX8_name 15 = .ok (.iload_n 2, 1) := by decide +kernel
theorem dX8_name_16 : decode cX8_name 16 = .ok (.bipush 7, 2) := by decide +kernel
theorem dX8_name_18 : decode cX8_name 18 = .ok (.if_icmp .le 5, 3) := by decide +kernel
theorem dX8_name_21 : decode cX8_name 21 = .ok (.iconst (-1), 1) := by decide +kernel
theorem dX8_name_22 : decode cX8_name 22 = .ok (.ireturn, 1) := by decide +kernel
theorem dX8_name_23 : decode cX8_name 23 = .ok (.iload_n 2, 1) := by decide +kernel
theorem dX8_name_24 : decode cX8_name 24 = .ok (.tableswitch 139 0 6 #[44, 54, 64, 99, 109, 119, 129], 44) := by decide +kernel
theorem dX8_name_68 : decode cX8_name 68 = .ok (.aload_n 0, 1) := by decide +kernel
theorem dX8_name_69 : decode cX8_name 69 = .ok (.getfield 19, 3) := by decide +kernel
theorem dX8_name_72 : decode cX8_name 72 = .ok (.getfield 107, 3) := by decide +kernel
theorem dX8_name_75 : decode cX8_name 75 = .ok (.iload_n 1, 1) := by decide +kernel
theorem dX8_name_76 : decode cX8_name 76 = .ok (.iaload, 1) := by decide +kernel
theorem dX8_name_77 : decode cX8_name 77 = .ok (.ireturn, 1) := by decide +kernel
theorem dX8_name_78 : decode cX8_name 78 = .ok (.aload_n 0, 1) := by decide +kernel
theorem dX8_name_79 : decode cX8_name 79 = .ok (.getfield 19, 3) := by decide +kernel
theorem dX8_name_82 : decode cX8_name 82 = .ok (.getfield 110, 3) := by decide +kernel
theorem dX8_name_85 : decode cX8_name 85 = .ok (.iload_n 1, 1) := by decide +kernel
theorem dX8_name_86 : decode cX8_name 86 = .ok (.iaload, 1) := by decide +kernel
theorem dX8_name_87 : decode cX8_name 87 = .ok (.ireturn, 1) := by decide +kernel
theorem dX8_name_88 : decode cX8_name 88 = .ok (.aload_n 0, 1) := by decide +kernel
theorem dX8_name_89 : decode cX8_name 89 = .ok (.getfield 19, 3) := by decide +kernel
theorem dX8_name_92 : decode cX8_name 92 = .ok (.getfield 110, 3) := by decide +kernel
theorem dX8_name_95 : decode cX8_name 95 = .ok (.iload_n 1, 1) := by decide +kernel
theorem dX8_name_96 : decode cX8_name 96 = .ok (.iaload, 1) := by decide +kernel
theorem dX8_name_97 : decode cX8_name 97 = .ok (.iconst 2, 1) := by decide +kernel
theorem dX8_name_98 : decode cX8_name 98 = .ok (.if_icmp .ne 15, 3) := by decide +kernel
theorem dX8_name_101 : decode cX8_name 101 = .ok (.aload_n 0, 1) := by decide +kernel
theorem dX8_name_102 : decode cX8_name 102 = .ok (.getfield 19, 3) := by decide +kernel
theorem dX8_name_105 : decode cX8_name 105 = .ok (.getfield 113, 3) := by decide +kernel
theorem dX8_name_108 : decode cX8_name 108 = .ok (.iload_n 1, 1) := by decide +kernel
theorem dX8_name_109 : decode cX8_name 109 = .ok (.iaload, 1) := by decide +kernel
theorem dX8_name_110 : decode cX8_name 110 = .ok (.goto 12, 3) := by decide +kernel
theorem dX8_name_113 : decode cX8_name 113 = .ok (.aload_n 0, 1) := by decide +kernel
theorem dX8_name_114 : decode cX8_name 114 = .ok (.getfield 19, 3) := by decide +kernel
theorem dX8_name_117 : decode cX8_name 117 = .ok (.getfield 116, 3) := by decide +kernel
theorem dX8_name_120 : decode cX8_name 120 = .ok (.iload_n 1, 1) := by decide +kernel
theorem dX8_name_121 : decode cX8_name 121 = .ok (.iaload, 1) := by decide +kernel
theorem dX8_name_122 : decode cX8_name 122 = .ok (.ireturn, 1) := by decide +kernel
theorem dX8_name_123 : decode cX8_name 123 = .ok (.aload_n 0, 1) := by decide +kernel
theorem dX8_name_124 : decode cX8_name 124 = .ok (.getfield 19, 3) := by decide +kernel
theorem dX8_name_127 : decode cX8_name 127 = .ok (.getfield 119, 3) := by decide +kernel
theorem dX8_name_130 : decode cX8_name 130 = .ok (.iload_n 1, 1) := by decide +kernel
theorem dX8_name_131 : decode cX8_name 131 = .ok (.iaload, 1) := by decide +kernel
theorem dX8_name_132 : decode cX8_name 132 = .ok (.ireturn, 1) := by decide +kernel
theorem dX8_name_133 : decode cX8_name 133 = .ok (.aload_n 0, 1) := by decide +kernel
theorem dX8_name_134 : decode cX8_name 134 = .ok (.getfield 19, 3) := by decide +kernel
theorem dX8_name_137 : decode cX8_name 137 = .ok (.getfield 122, 3) := by decide +kernel
theorem dX8_name_140 : decode cX8_name 140 = .ok (.iload_n 1, 1) := by decide +kernel
theorem dX8_name_141 : decode cX8_name 141 = .ok (.iaload, 1) := by decide +kernel
theorem dX8_name_142 : decode cX8_name 142 = .ok (.ireturn, 1) := by decide +kernel
theorem dX8_name_143 : decode cX8_name 143 = .ok (.aload_n 0, 1) := by decide +kernel
theorem dX8_name_144 : decode cX8_name 144 = .ok (.getfield 29, 3) := by decide +kernel
theorem dX8_name_147 : decode cX8_name 147 = .ok (.getfield 125, 3) := by decide +kernel
theorem dX8_name_150 : decode cX8_name 150 = .ok (.iload_n 1, 1) := by decide +kernel
theorem dX8_name_151 : decode cX8_name 151 = .ok (.iaload, 1) := by decide +kernel
theorem dX8_name_152 : decode cX8_name 152 = .ok (.ireturn, 1) := by decide +kernel
theorem dX8_name_153 : decode cX8_name 153 = .ok (.aload_n 0, 1) := by decide +kernel
theorem dX8_name_154 : decode cX8_name 154 = .ok (.getfield 36, 3) := by decide +kernel
theorem dX8_name_157 : decode cX8_name 157 = .ok (.getfield 128, 3) := by decide +kernel
theorem dX8_name_160 : decode cX8_name 160 = .ok (.iload_n 1, 1) := by decide +kernel
theorem dX8_name_161 : decode cX8_name 161 = .ok (.iaload, 1) := by decide +kernel
theorem dX8_name_162 : decode cX8_name 162 = .ok (.ireturn, 1) := by decide +kernel
theorem dX8_name_163 : decode cX8_name 163 = .ok (.aload_n 0, 1) := by decide +kernel
theorem dX8_name_164 : decode cX8_name 164 = .ok (.getfield 40, 3) := by decide +kernel
theorem dX8_name_167 : decode cX8_name 167 = .ok (.getfield 128, 3) := by decide +kernel
theorem dX8_name_170 : decode cX8_name 170 = .ok (.iload_n 1, 1) := by decide +kernel
theorem dX8_name_171 : decode cX8_name 171 = .ok (.iaload, 1) := by decide +kernel
theorem dX8_name_172 : decode cX8_name 172 = .ok (.ireturn, 1) := by decide +kernel
theorem dX8_found_0 : decode cX8_found 0 = .ok (.aload_n 0, 1) := by decide +kernel
theorem dX8_found_1 : decode cX8_found 1 = .ok (.getfield 19, 3) := by decide +kernel
theorem dX8_found_4 : decode cX8_found 4 = .ok (.iload_n 1, 1) := by decide +kernel
theorem dX8_found_5 : decode cX8_found 5 = .ok (.invokevirtual 103, 3) := by decide +kernel
theorem dX8_found_8 : decode cX8_found 8 = .ok (.ifCond .ne 5, 3) := by decide +kernel
theorem dX8_found_11 : decode cX8_found 11 = .ok (.iconst (-1), 1) := by decide +kernel
theorem dX8_found_12 : decode cX8_found 12 = .ok (.ireturn, 1) := by decide +kernel
theorem dX8_found_13 : decode cX8_found 13 = .ok (.aload_n 0, 1) := by decide +kernel
theorem dX8_found_14 : decode cX8_found 14 = .ok (.getfield 36, 3) := by decide +kernel
theorem dX8_found_17 : decode cX8_found 17 = .ok (.getfield 128, 3) := by decide +kernel
theorem dX8_found_20 : decode cX8_found 20 = .ok (.iload_n 1, 1) := by decide +kernel
theorem dX8_found_21 : decode cX8_found 21 = .ok (.iaload, 1) := by decide +kernel
theorem dX8_found_22 : decode cX8_found 22 = .ok (.iconst 1, 1) := by decide +kernel
theorem dX8_found_23 : decode cX8_found 23 = .ok (.if_icmp .eq 6, 3) := by decide +kernel
theorem dX8_found_26 : decode cX8_found 26 = .ok (.bipush (-2), 2) := by decide +kernel
theorem dX8_found_28 : decode cX8_found 28 = .ok (.ireturn, 1) := by decide +kernel
theorem dX8_found_29 : decode cX8_found 29 = .ok (.aload_n 0, 1) := by decide +kernel
theorem dX8_found_30 : decode cX8_found 30 = .ok (.aload_n 0, 1) := by decide +kernel
theorem dX8_found_31 : decode cX8_found 31 = .ok (.getfield 36, 3) := by decide +kernel
theorem dX8_found_34 : decode cX8_found 34 = .ok (.getfield 131, 3) := by decide +kernel
theorem dX8_found_37 : decode cX8_found 37 = .ok (.iload_n 1, 1) := by decide +kernel
theorem dX8_found_38 : decode cX8_found 38 = .ok (.iaload, 1) := by decide +kernel
theorem dX8_found_39 : decode cX8_found 39 = .ok (.putfield 68, 3) := by decide +kernel
theorem dX8_found_42 : decode cX8_found 42 = .ok (.iconst 1, 1) := by decide +kernel
theorem dX8_found_43 : decode cX8_found 43 = .ok (.ireturn, 1) := by decide +kernel
theorem dX8_block_0 : decode cX8_block 0 = .ok (.aload_n 0, 1) := by decide +kernel
theorem dX8_block_1 : decode cX8_block 1 = .ok (.getfield 19, 3) := by decide +kernel
theorem dX8_block_4 : decode cX8_block 4 = .ok (.iload_n 1, 1) := by decide +kernel
theorem dX8_block_5 : decode cX8_block 5 = .ok (.invokevirtual 134, 3) := by decide +kernel
theorem dX8_block_8 : decode cX8_block 8 = .ok (.ifCond .eq 13, 3) := by decide +kernel
theorem dX8_block_11 : decode cX8_block 11 = .ok (.iload_n 2, 1) := by decide +kernel
theorem dX8_block_12 : decode cX8_block 12 = .ok (.ifCond .lt 9, 3) := by decide +kernel
theorem dX8_block_15 : decode cX8_block 15 = .ok (.iload_n 2, 1) := by decide +kernel
theorem dX8_block_16 : decode cX8_block 16 = .ok (.bipush 8, 2) := by decide +kernel
theorem dX8_block_18 : decode cX8_block 18 = .ok (.if_icmp .le 5, 3) := by decide +kernel
theorem dX8_block_21 : decode cX8_block 21 = .ok (.iconst (-1), 1) := by decide +kernel
theorem dX8_block_22 : decode cX8_block 22 = .ok (.ireturn, 1) := by decide +kernel
theorem dX8_block_23 : decode cX8_block 23 = .ok (.iload_n 2, 1) := by decide +kernel
theorem dX8_block_24 : decode cX8_block 24 = .ok (.tableswitch 140 0 7 #[48, 58, 68, 78, 88, 100, 114, 126], 48) := by decide +kernel
theorem dX8_block_72 : decode cX8_block 72 = .ok (.aload_n 0, 1) := by decide +kernel
theorem dX8_block_73 : decode cX8_block 73 = .ok (.getfield 36, 3) := by decide +kernel
theorem dX8_block_76 : decode cX8_block 76 = .ok (.getfield 137, 3) := by decide +kernel
theorem dX8_block_79 : decode cX8_block 79 = .ok (.iload_n 1, 1) := by decide +kernel
theorem dX8_block_80 : decode cX8_block 80 = .ok (.iaload, 1) := by decide +kernel
theorem dX8_block_81 : decode cX8_block 81 = .ok (.ireturn, 1) := by decide +kernel
theorem dX8_block_82 : decode cX8_block 82 = .ok (.aload_n 0, 1) := by decide +kernel
theorem dX8_block_83 : decode cX8_block 83 = .ok (.getfield 19, 3) := by decide +kernel
theorem dX8_block_86 : decode cX8_block 86 = .ok (.getfield 140, 3) := by decide +kernel
theorem dX8_block_89 : decode cX8_block 89 = .ok (.iload_n 1, 1) := by decide +kernel
theorem dX8_block_90 : decode cX8_block 90 = .ok (.iaload, 1) := by decide +kernel
theorem dX8_block_91 : decode cX8_block 91 = .ok (.ireturn, 1) := by decide +kernel
theorem dX8_block_92 : decode cX8_block 92 = .ok (.aload_n 0, 1) := by decide +kernel
theorem dX8_block_93 : decode cX8_block 93 = .ok (.getfield 19, 3) := by decide +kernel
theorem dX8_block_96 : decode cX8_block 96 = .ok (.getfield 142, 3) := by decide +kernel
theorem dX8_block_99 : decode cX8_block 99 = .ok (.iload_n 1, 1) := by decide +kernel
theorem dX8_block_100 : decode cX8_block 100 = .ok (.iaload, 1) := by decide +kernel
theorem dX8_block_101 : decode cX8_block 101 = .ok (.ireturn, 1) := by decide +kernel
theorem dX8_block_102 : decode cX8_block 102 = .ok (.aload_n 0, 1) := by decide +kernel
theorem dX8_block_103 : decode cX8_block 103 = .ok (.getfield 19, 3) := by decide +kernel
theorem dX8_block_106 : decode cX8_block 106 = .ok (.getfield 145, 3) := by decide +kernel
theorem dX8_block_109 : decode cX8_block 109 = .ok (.iload_n 1, 1) := by decide +kernel
theorem dX8_block_110 : decode cX8_block 110 = .ok (.iaload, 1) := by decide +kernel
theorem dX8_block_111 : decode cX8_block 111 = .ok (.ireturn, 1) := by decide +kernel
theorem dX8_block_112 : decode cX8_block 112 = .ok (.aload_n 0, 1) := by decide +kernel
theorem dX8_block_113 : decode cX8_block 113 = .ok (.getfield 29, 3) := by decide +kernel
theorem dX8_block_116 : decode cX8_block 116 = .ok (.getfield 148, 3) := by decide +kernel
theorem dX8_block_119 : decode cX8_block 119 = .ok (.iconst 2, 1) := by decide +kernel
theorem dX8_block_120 : decode cX8_block 120 = .ok (.iload_n 1, 1) := by decide +kernel
theorem dX8_block_121 : decode cX8_block 121 = .ok (.imul, 1) := by decide +kernel
theorem dX8_block_122 : decode cX8_block 122 = .ok (.iaload, 1) := by decide +kernel
theorem dX8_block_123 : decode cX8_block 123 = .ok (.ireturn, 1) := by decide +kernel
theorem dX8_block_124 : decode cX8_block 124 = .ok (.aload_n 0, 1) := by decide +kernel
theorem dX8_block_125 : decode cX8_block 125 = .ok (.getfield 29, 3) := by decide +kernel
theorem dX8_block_128 : decode cX8_block 128 = .ok (.getfield 148, 3) := by decide +kernel
theorem dX8_block_131 : decode cX8_block 131 = .ok (.iconst 2, 1) := by decide +kernel
theorem dX8_block_132 : decode cX8_block 132 = .ok (.iload_n 1, 1) := by decide +kernel
theorem dX8_block_133 : decode cX8_block 133 = .ok (.imul, 1) := by decide +kernel
theorem dX8_block_134 : decode cX8_block 134 = .ok (.iconst 1, 1) := by decide +kernel
theorem dX8_block_135 : decode cX8_block 135 = .ok (.iadd, 1) := by decide +kernel
theorem dX8_block_136 : decode cX8_block 136 = .ok (.iaload, 1) := by decide +kernel
theorem dX8_block_137 : decode cX8_block 137 = .ok (.ireturn, 1) := by decide +kernel
theorem dX8_block_138 : decode cX8_block 138 = .ok (.aload_n 0, 1) := by decide +kernel
theorem dX8_block_139 : decode cX8_block 139 = .ok (.getfield 36, 3) := by decide +kernel
theorem dX8_block_142 : decode cX8_block 142 = .ok (.getfield 151, 3) := by decide +kernel
theorem dX8_block_145 : decode cX8_block 145 = .ok (.iconst 2, 1) := by decide +kernel
theorem dX8_block_146 : decode cX8_block 146 = .ok (.iload_n 1, 1) := by decide +kernel
theorem dX8_block_147 : decode cX8_block 147 = .ok (.imul, 1) := by decide +kernel
theorem dX8_block_148 : decode cX8_block 148 = .ok (.iaload, 1) := by decide +kernel
theorem dX8_block_149 : decode cX8_block 149 = .ok (.ireturn, 1) := by decide +kernel
theorem dX8_block_150 : decode cX8_block 150 = .ok (.aload_n 0, 1) := by decide +kernel
theorem dX8_block_151 : decode cX8_block 151 = .ok (.getfield 36, 3) := by decide +kernel
theorem dX8_block_154 : decode cX8_block 154 = .ok (.getfield 151, 3) := by decide +kernel
theorem dX8_block_157 : decode cX8_block 157 = .ok (.iconst 2, 1) := by decide +kernel
theorem dX8_block_158 : decode cX8_block 158 = .ok (.iload_n 1, 1) := by decide +kernel
theorem dX8_block_159 : decode cX8_block 159 = .ok (.imul, 1) := by decide +kernel
theorem dX8_block_160 : decode cX8_block 160 = .ok (.iconst 1, 1) := by decide +kernel
theorem dX8_block_161 : decode cX8_block 161 = .ok (.iadd, 1) := by decide +kernel
theorem dX8_block_162 : decode cX8_block 162 = .ok (.iaload, 1) := by decide +kernel
theorem dX8_block_163 : decode cX8_block 163 = .ok (.ireturn, 1) := by decide +kernel
theorem dX8_block_164 : decode cX8_block 164 = .ok (.aload_n 0, 1) := by decide +kernel
theorem dX8_block_165 : decode cX8_block 165 = .ok (.getfield 19, 3) := by decide +kernel
theorem dX8_block_168 : decode cX8_block 168 = .ok (.getfield 154, 3) := by decide +kernel
theorem dX8_block_171 : decode cX8_block 171 = .ok (.iload_n 1, 1) := by decide +kernel
theorem dX8_block_172 : decode cX8_block 172 = .ok (.iaload, 1) := by decide +kernel
theorem dX8_block_173 : decode cX8_block 173 = .ok (.ireturn, 1) := by decide +kernel
theorem dX8_knows_0 : decode cX8_knows 0 = .ok (.aload_n 0, 1) := by decide +kernel
theorem dX8_knows_1 : decode cX8_knows 1 = .ok (.getfield 19, 3) := by decide +kernel
theorem dX8_knows_4 : decode cX8_knows 4 = .ok (.iload_n 1, 1) := by decide +kernel
theorem dX8_knows_5 : decode cX8_knows 5 = .ok (.iconst 1, 1) := by decide +kernel
theorem dX8_knows_6 : decode cX8_knows 6 = .ok (.invokevirtual 157, 3) := by decide +kernel
theorem dX8_knows_9 : decode cX8_knows 9 = .ok (.ifCond .ne 5, 3) := by decide +kernel
theorem dX8_knows_12 : decode cX8_knows 12 = .ok (.iconst (-1), 1) := by decide +kernel
theorem dX8_knows_13 : decode cX8_knows 13 = .ok (.ireturn, 1) := by decide +kernel
theorem dX8_knows_14 : decode cX8_knows 14 = .ok (.aload_n 0, 1) := by decide +kernel
theorem dX8_knows_15 : decode cX8_knows 15 = .ok (.getfield 56, 3) := by decide +kernel
theorem dX8_knows_18 : decode cX8_knows 18 = .ok (.iconst 0, 1) := by decide +kernel
theorem dX8_knows_19 : decode cX8_knows 19 = .ok (.iload_n 1, 1) := by decide +kernel
theorem dX8_knows_20 : decode cX8_knows 20 = .ok (.aload_n 0, 1) := by decide +kernel
theorem dX8_knows_21 : decode cX8_knows 21 = .ok (.getfield 29, 3) := by decide +kernel
theorem dX8_knows_24 : decode cX8_knows 24 = .ok (.invokevirtual 161, 3) := by decide +kernel
theorem dX8_knows_27 : decode cX8_knows 27 = .ok (.aload_n 0, 1) := by decide +kernel
theorem dX8_knows_28 : decode cX8_knows 28 = .ok (.getfield 29, 3) := by decide +kernel
theorem dX8_knows_31 : decode cX8_knows 31 = .ok (.getfield 125, 3) := by decide +kernel
theorem dX8_knows_34 : decode cX8_knows 34 = .ok (.iload_n 1, 1) := by decide +kernel
theorem dX8_knows_35 : decode cX8_knows 35 = .ok (.iconst 1, 1) := by decide +kernel
theorem dX8_knows_36 : decode cX8_knows 36 = .ok (.iastore, 1) := by decide +kernel
theorem dX8_knows_37 : decode cX8_knows 37 = .ok (.aload_n 0, 1) := by decide +kernel
theorem dX8_knows_38 : decode cX8_knows 38 = .ok (.getfield 29, 3) := by decide +kernel
theorem dX8_knows_41 : decode cX8_knows 41 = .ok (.getfield 165, 3) := by decide +kernel
theorem dX8_knows_44 : decode cX8_knows 44 = .ok (.iload_n 1, 1) := by decide +kernel
theorem dX8_knows_45 : decode cX8_knows 45 = .ok (.iload_n 2, 1) := by decide +kernel
theorem dX8_knows_46 : decode cX8_knows 46 = .ok (.iastore, 1) := by decide +kernel
theorem dX8_knows_47 : decode cX8_knows 47 = .ok (.aload_n 0, 1) := by decide +kernel
theorem dX8_knows_48 : decode cX8_knows 48 = .ok (.invokevirtual 97, 3) := by decide +kernel
theorem dX8_knows_51 : decode cX8_knows 51 = .ok (.aload_n 0, 1) := by decide +kernel
theorem dX8_knows_52 : decode cX8_knows 52 = .ok (.getfield 36, 3) := by decide +kernel
theorem dX8_knows_55 : decode cX8_knows 55 = .ok (.iconst 1, 1) := by decide +kernel
theorem dX8_knows_56 : decode cX8_knows 56 = .ok (.aload_n 0, 1) := by decide +kernel
theorem dX8_knows_57 : decode cX8_knows 57 = .ok (.getfield 19, 3) := by decide +kernel
theorem dX8_knows_60 : decode cX8_knows 60 = .ok (.invokevirtual 168, 3) := by decide +kernel
theorem dX8_knows_63 : decode cX8_knows 63 = .ok (.ireturn, 1) := by decide +kernel
theorem dX8_forgets_0 : decode cX8_forgets 0 = .ok (.aload_n 0, 1) := by decide +kernel
theorem dX8_forgets_1 : decode cX8_forgets 1 = .ok (.getfield 19, 3) := by decide +kernel
theorem dX8_forgets_4 : decode cX8_forgets 4 = .ok (.iload_n 1, 1) := by decide +kernel
theorem dX8_forgets_5 : decode cX8_forgets 5 = .ok (.iconst 1, 1) := by decide +kernel
theorem dX8_forgets_6 : decode cX8_forgets 6 = .ok (.invokevirtual 157, 3) := by decide +kernel
theorem dX8_forgets_9 : decode cX8_forgets 9 = .ok (.ifCond .ne 5, 3) := by decide +kernel
theorem dX8_forgets_12 : decode cX8_forgets 12 = .ok (.iconst (-1), 1) := by decide +kernel
theorem dX8_forgets_13 : decode cX8_forgets 13 = .ok (.ireturn, 1) := by decide +kernel
theorem dX8_forgets_14 : decode cX8_forgets 14 = .ok (.aload_n 0, 1) := by decide +kernel
theorem dX8_forgets_15 : decode cX8_forgets 15 = .ok (.getfield 29, 3) := by decide +kernel
theorem dX8_forgets_18 : decode cX8_forgets 18 = .ok (.getfield 125, 3) := by decide +kernel
theorem dX8_forgets_21 : decode cX8_forgets 21 = .ok (.iload_n 1, 1) := by decide +kernel
theorem dX8_forgets_22 : decode cX8_forgets 22 = .ok (.iaload, 1) := by decide +kernel
theorem dX8_forgets_23 : decode cX8_forgets 23 = .ok (.ifCond .ne 6, 3) := by decide +kernel
theorem dX8_forgets_26 : decode cX8_forgets 26 = .ok (.bipush (-2), 2) := by decide +kernel
theorem dX8_forgets_28 : decode cX8_forgets 28 = .ok (.ireturn, 1) := by decide +kernel
theorem dX8_forgets_29 : decode cX8_forgets 29 = .ok (.aload_n 0, 1) := by decide +kernel
theorem dX8_forgets_30 : decode cX8_forgets 30 = .ok (.getfield 56, 3) := by decide +kernel
theorem dX8_forgets_33 : decode cX8_forgets 33 = .ok (.iconst 0, 1) := by decide +kernel
theorem dX8_forgets_34 : decode cX8_forgets 34 = .ok (.iload_n 1, 1) := by decide +kernel
theorem dX8_forgets_35 : decode cX8_forgets 35 = .ok (.aload_n 0, 1) := by decide +kernel
theorem dX8_forgets_36 : decode cX8_forgets 36 = .ok (.getfield 29, 3) := by decide +kernel
theorem dX8_forgets_39 : decode cX8_forgets 39 = .ok (.invokevirtual 161, 3) := by decide +kernel
theorem dX8_forgets_42 : decode cX8_forgets 42 = .ok (.aload_n 0, 1) := by decide +kernel
theorem dX8_forgets_43 : decode cX8_forgets 43 = .ok (.getfield 29, 3) := by decide +kernel
theorem dX8_forgets_46 : decode cX8_forgets 46 = .ok (.getfield 125, 3) := by decide +kernel
theorem dX8_forgets_49 : decode cX8_forgets 49 = .ok (.iload_n 1, 1) := by decide +kernel
theorem dX8_forgets_50 : decode cX8_forgets 50 = .ok (.iconst 0, 1) := by decide +kernel
theorem dX8_forgets_51 : decode cX8_forgets 51 = .ok (.iastore, 1) := by decide +kernel
theorem dX8_forgets_52 : decode cX8_forgets 52 = .ok (.aload_n 0, 1) := by decide +kernel
theorem dX8_forgets_53 : decode cX8_forgets 53 = .ok (.invokevirtual 97, 3) := by decide +kernel
theorem dX8_forgets_56 : decode cX8_forgets 56 = .ok (.aload_n 0, 1) := by decide +kernel
theorem dX8_forgets_57 : decode cX8_forgets 57 = .ok (.getfield 36, 3) := by decide +kernel
theorem dX8_forgets_60 : decode cX8_forgets 60 = .ok (.iconst 1, 1) := by decide +kernel
theorem dX8_forgets_61 : decode cX8_forgets 61 = .ok (.aload_n 0, 1) := by decide +kernel
theorem dX8_forgets_62 : decode cX8_forgets 62 = .ok (.getfield 19, 3) := by decide +kernel
theorem dX8_forgets_65 : decode cX8_forgets 65 = .ok (.invokevirtual 168, 3) := by decide +kernel
theorem dX8_forgets_68 : decode cX8_forgets 68 = .ok (.ireturn, 1) := by decide +kernel
theorem dX8_gives_0 : decode cX8_gives 0 = .ok (.aload_n 0, 1) := by decide +kernel
theorem dX8_gives_1 : decode cX8_gives 1 = .ok (.getfield 19, 3) := by decide +kernel
theorem dX8_gives_4 : decode cX8_gives 4 = .ok (.iload_n 1, 1) := by decide +kernel
theorem dX8_gives_5 : decode cX8_gives 5 = .ok (.iconst 1, 1) := by decide +kernel
theorem dX8_gives_6 : decode cX8_gives 6 = .ok (.invokevirtual 157, 3) := by decide +kernel
theorem dX8_gives_9 : decode cX8_gives 9 = .ok (.ifCond .ne 5, 3) := by decide +kernel
theorem dX8_gives_12 : decode cX8_gives 12 = .ok (.iconst (-1), 1) := by decide +kernel
theorem dX8_gives_13 : decode cX8_gives 13 = .ok (.ireturn, 1) := by decide +kernel
theorem dX8_gives_14 : decode cX8_gives 14 = .ok (.aload_n 0, 1) := by decide +kernel
theorem dX8_gives_15 : decode cX8_gives 15 = .ok (.getfield 56, 3) := by decide +kernel
theorem dX8_gives_18 : decode cX8_gives 18 = .ok (.iconst 1, 1) := by decide +kernel
theorem dX8_gives_19 : decode cX8_gives 19 = .ok (.iload_n 1, 1) := by decide +kernel
theorem dX8_gives_20 : decode cX8_gives 20 = .ok (.aload_n 0, 1) := by decide +kernel
theorem dX8_gives_21 : decode cX8_gives 21 = .ok (.getfield 29, 3) := by decide +kernel
theorem dX8_gives_24 : decode cX8_gives 24 = .ok (.invokevirtual 161, 3) := by decide +kernel
theorem dX8_gives_27 : decode cX8_gives 27 = .ok (.aload_n 0, 1) := by decide +kernel
theorem dX8_gives_28 : decode cX8_gives 28 = .ok (.aload_n 0, 1) := by decide +kernel
theorem dX8_gives_29 : decode cX8_gives 29 = .ok (.getfield 29, 3) := by decide +kernel
theorem dX8_gives_32 : decode cX8_gives 32 = .ok (.getfield 172, 3) := by decide +kernel
theorem dX8_gives_35 : decode cX8_gives 35 = .ok (.iload_n 1, 1) := by decide +kernel
theorem dX8_gives_36 : decode cX8_gives 36 = .ok (.iaload, 1) := by decide +kernel
theorem dX8_gives_37 : decode cX8_gives 37 = .ok (.putfield 68, 3) := by decide +kernel
theorem dX8_gives_40 : decode cX8_gives 40 = .ok (.aload_n 0, 1) := by decide +kernel
theorem dX8_gives_41 : decode cX8_gives 41 = .ok (.getfield 29, 3) := by decide +kernel
theorem dX8_gives_44 : decode cX8_gives 44 = .ok (.getfield 172, 3) := by decide +kernel
theorem dX8_gives_47 : decode cX8_gives 47 = .ok (.iload_n 1, 1) := by decide +kernel
theorem dX8_gives_48 : decode cX8_gives 48 = .ok (.iload_n 2, 1) := by decide +kernel
theorem dX8_gives_49 : decode cX8_gives 49 = .ok (.iastore, 1) := by decide +kernel
theorem dX8_gives_50 : decode cX8_gives 50 = .ok (.aload_n 0, 1) := by decide +kernel
theorem dX8_gives_51 : decode cX8_gives 51 = .ok (.invokevirtual 97, 3) := by decide +kernel
theorem dX8_gives_54 : decode cX8_gives 54 = .ok (.iconst 1, 1) := by decide +kernel
theorem dX8_gives_55 : decode cX8_gives 55 = .ok (.ireturn, 1) := by decide +kernel
theorem dX8_patches_0 : decode cX8_patches 0 = .ok (.aload_n 0, 1) := by decide +kernel
theorem dX8_patches_1 : decode cX8_patches 1 = .ok (.getfield 19, 3) := by decide +kernel
theorem dX8_patches_4 : decode cX8_patches 4 = .ok (.iload_n 1, 1) := by decide +kernel
theorem dX8_patches_5 : decode cX8_patches 5 = .ok (.iconst 0, 1) := by decide +kernel
theorem dX8_patches_6 : decode cX8_patches 6 = .ok (.invokevirtual 157, 3) := by decide +kernel
theorem dX8_patches_9 : decode cX8_patches 9 = .ok (.ifCond .eq 14, 3) := by decide +kernel
theorem dX8_patches_12 : decode cX8_patches 12 = .ok (.iload_n 2, 1) := by decide +kernel
theorem dX8_patches_13 : decode cX8_patches 13 = .ok (.ifCond .lt 10, 3) := by decide +kernel
theorem dX8_patches_16 : decode cX8_patches 16 = .ok (.iload_n 2, 1) := by decide +kernel
theorem dX8_patches_17 : decode cX8_patches 17 = .ok (.sipush 999, 3) := by decide +kernel
theorem dX8_patches_20 : decode cX8_patches 20 = .ok (.if_icmp .le 5, 3) := by decide +kernel
theorem dX8_patches_23 : decode cX8_patches 23 = .ok (.iconst (-1), 1) := by decide +kernel
theorem dX8_patches_24 : decode cX8_patches 24 = .ok (.ireturn, 1) := by decide +kernel
theorem dX8_patches_25 : decode cX8_patches 25 = .ok (.aload_n 0, 1) := by decide +kernel
theorem dX8_patches_26 : decode cX8_patches 26 = .ok (.getfield 29, 3) := by decide +kernel
theorem dX8_patches_29 : decode cX8_patches 29 = .ok (.getfield 175, 3) := by decide +kernel
theorem dX8_patches_32 : decode cX8_patches 32 = .ok (.iload_n 1, 1) := by decide +kernel
theorem dX8_patches_33 : decode cX8_patches 33 = .ok (.iaload, 1) := by decide +kernel
theorem dX8_patches_34 : decode cX8_patches 34 = .ok (.istore_n 3, 1) := by decide +kernel
theorem dX8_patches_35 : decode cX8_patches 35 = .ok (.iload_n 3, 1) := by decide +kernel
theorem dX8_patches_36 : decode cX8_patches 36 = .ok (.iload_n 2, 1) := by decide +kernel
theorem dX8_patches_37 : decode cX8_patches 37 = .ok (.if_icmp .ne 6, 3) := by decide +kernel
theorem dX8_patches_40 : decode cX8_patches 40 = .ok (.bipush (-2), 2) := by decide +kernel
theorem dX8_patches_42 : decode cX8_patches 42 = .ok (.ireturn, 1) := by decide +kernel
theorem dX8_patches_43 : decode cX8_patches 43 = .ok (.aload_n 0, 1) := by decide +kernel
theorem dX8_patches_44 : decode cX8_patches 44 = .ok (.getfield 56, 3) := by decide +kernel
theorem dX8_patches_47 : decode cX8_patches 47 = .ok (.iconst 2, 1) := by decide +kernel
theorem dX8_patches_48 : decode cX8_patches 48 = .ok (.iload_n 1, 1) := by decide +kernel
theorem dX8_patches_49 : decode cX8_patches 49 = .ok (.aload_n 0, 1) := by decide +kernel
theorem dX8_patches_50 : decode cX8_patches 50 = .ok (.getfield 29, 3) := by decide +kernel
theorem dX8_patches_53 : decode cX8_patches 53 = .ok (.invokevirtual 161, 3) := by decide +kernel
theorem dX8_patches_56 : decode cX8_patches 56 = .ok (.aload_n 0, 1) := by decide +kernel
theorem dX8_patches_57 : decode cX8_patches 57 = .ok (.getfield 29, 3) := by decide +kernel
theorem dX8_patches_60 : decode cX8_patches 60 = .ok (.getfield 175, 3) := by decide +kernel
theorem dX8_patches_63 : decode cX8_patches 63 = .ok (.iload_n 1, 1) := by decide +kernel
theorem dX8_patches_64 : decode cX8_patches 64 = .ok (.iload_n 2, 1) := by decide +kernel
theorem dX8_patches_65 : decode cX8_patches 65 = .ok (.iastore, 1) := by decide +kernel
theorem dX8_patches_66 : decode cX8_patches 66 = .ok (.aload_n 0, 1) := by decide +kernel
theorem dX8_patches_67 : decode cX8_patches 67 = .ok (.invokevirtual 97, 3) := by decide +kernel
theorem dX8_patches_70 : decode cX8_patches 70 = .ok (.iload_n 3, 1) := by decide +kernel
theorem dX8_patches_71 : decode cX8_patches 71 = .ok (.ireturn, 1) := by decide +kernel
theorem dX8_turned_0 : decode cX8_turned 0 = .ok (.aload_n 0, 1) := by decide +kernel
theorem dX8_turned_1 : decode cX8_turned 1 = .ok (.getfield 19, 3) := by decide +kernel
theorem dX8_turned_4 : decode cX8_turned 4 = .ok (.iload_n 1, 1) := by decide +kernel
theorem dX8_turned_5 : decode cX8_turned 5 = .ok (.invokevirtual 134, 3) := by decide +kernel
theorem dX8_turned_8 : decode cX8_turned 8 = .ok (.ifCond .ne 5, 3) := by decide +kernel
theorem dX8_turned_11 : decode cX8_turned 11 = .ok (.iconst (-1), 1) := by decide +kernel
theorem dX8_turned_12 : decode cX8_turned 12 = .ok (.ireturn, 1) := by decide +kernel
theorem dX8_turned_13 : decode cX8_turned 13 = .ok (.aload_n 0, 1) := by decide +kernel
theorem dX8_turned_14 : decode cX8_turned 14 = .ok (.getfield 19, 3) := by decide +kernel
theorem dX8_turned_17 : decode cX8_turned 17 = .ok (.getfield 142, 3) := by decide +kernel
theorem dX8_turned_20 : decode cX8_turned 20 = .ok (.iload_n 1, 1) := by decide +kernel
theorem dX8_turned_21 : decode cX8_turned 21 = .ok (.iaload, 1) := by decide +kernel
theorem dX8_turned_22 : decode cX8_turned 22 = .ok (.iconst 1, 1) := by decide +kernel
theorem dX8_turned_23 : decode cX8_turned 23 = .ok (.if_icmp .eq 6, 3) := by decide +kernel
theorem dX8_turned_26 : decode cX8_turned 26 = .ok (.bipush (-2), 2) := by decide +kernel
theorem dX8_turned_28 : decode cX8_turned 28 = .ok (.ireturn, 1) := by decide +kernel
theorem dX8_turned_29 : decode cX8_turned 29 = .ok (.aload_n 0, 1) := by decide +kernel
theorem dX8_turned_30 : decode cX8_turned 30 = .ok (.getfield 56, 3) := by decide +kernel
theorem dX8_turned_33 : decode cX8_turned 33 = .ok (.iconst 3, 1) := by decide +kernel
theorem dX8_turned_34 : decode cX8_turned 34 = .ok (.iload_n 1, 1) := by decide +kernel
theorem dX8_turned_35 : decode cX8_turned 35 = .ok (.aload_n 0, 1) := by decide +kernel
theorem dX8_turned_36 : decode cX8_turned 36 = .ok (.getfield 29, 3) := by decide +kernel
theorem dX8_turned_39 : decode cX8_turned 39 = .ok (.invokevirtual 161, 3) := by decide +kernel
theorem dX8_turned_42 : decode cX8_turned 42 = .ok (.aload_n 0, 1) := by decide +kernel
theorem dX8_turned_43 : decode cX8_turned 43 = .ok (.getfield 29, 3) := by decide +kernel
theorem dX8_turned_46 : decode cX8_turned 46 = .ok (.iload_n 1, 1) := by decide +kernel
theorem dX8_turned_47 : decode cX8_turned 47 = .ok (.invokevirtual 178, 3) := by decide +kernel
theorem dX8_turned_50 : decode cX8_turned 50 = .ok (.aload_n 0, 1) := by decide +kernel
theorem dX8_turned_51 : decode cX8_turned 51 = .ok (.invokevirtual 97, 3) := by decide +kernel
theorem dX8_turned_54 : decode cX8_turned 54 = .ok (.aload_n 0, 1) := by decide +kernel
theorem dX8_turned_55 : decode cX8_turned 55 = .ok (.getfield 36, 3) := by decide +kernel
theorem dX8_turned_58 : decode cX8_turned 58 = .ok (.aload_n 0, 1) := by decide +kernel
theorem dX8_turned_59 : decode cX8_turned 59 = .ok (.getfield 19, 3) := by decide +kernel
theorem dX8_turned_62 : decode cX8_turned 62 = .ok (.invokevirtual 182, 3) := by decide +kernel
theorem dX8_turned_65 : decode cX8_turned 65 = .ok (.ireturn, 1) := by decide +kernel
theorem dX8_undo_0 : decode cX8_undo 0 = .ok (.aload_n 0, 1) := by decide +kernel
theorem dX8_undo_1 : decode cX8_undo 1 = .ok (.getfield 56, 3) := by decide +kernel
theorem dX8_undo_4 : decode cX8_undo 4 = .ok (.getfield 88, 3) := by decide +kernel
theorem dX8_undo_7 : decode cX8_undo 7 = .ok (.ifCond .ne 6, 3) := by decide +kernel
theorem dX8_undo_10 : decode cX8_undo 10 = .ok (.bipush (-2), 2) := by decide +kernel
theorem dX8_undo_12 : decode cX8_undo 12 = .ok (.ireturn, 1) := by decide +kernel
theorem dX8_undo_13 : decode cX8_undo 13 = .ok (.aload_n 0, 1) := by decide +kernel
theorem dX8_undo_14 : decode cX8_undo 14 = .ok (.getfield 56, 3) := by decide +kernel
theorem dX8_undo_17 : decode cX8_undo 17 = .ok (.aload_n 0, 1) := by decide +kernel
theorem dX8_undo_18 : decode cX8_undo 18 = .ok (.getfield 29, 3) := by decide +kernel
theorem dX8_undo_21 : decode cX8_undo 21 = .ok (.invokevirtual 186, 3) := by decide +kernel
theorem dX8_undo_24 : decode cX8_undo 24 = .ok (.aload_n 0, 1) := by decide +kernel
theorem dX8_undo_25 : decode cX8_undo 25 = .ok (.invokevirtual 97, 3) := by decide +kernel
theorem dX8_undo_28 : decode cX8_undo 28 = .ok (.aload_n 0, 1) := by decide +kernel
theorem dX8_undo_29 : decode cX8_undo 29 = .ok (.getfield 56, 3) := by decide +kernel
theorem dX8_undo_32 : decode cX8_undo 32 = .ok (.getfield 88, 3) := by decide +kernel
theorem dX8_undo_35 : decode cX8_undo 35 = .ok (.ireturn, 1) := by decide +kernel
theorem dX8_run_0 : decode cX8_run 0 = .ok (.aload_n 0, 1) := by decide +kernel
theorem dX8_run_1 : decode cX8_run 1 = .ok (.getfield 19, 3) := by decide +kernel
theorem dX8_run_4 : decode cX8_run 4 = .ok (.getfield 190, 3) := by decide +kernel
theorem dX8_run_7 : decode cX8_run 7 = .ok (.ifCond .ne 6, 3) := by decide +kernel
theorem dX8_run_10 : decode cX8_run 10 = .ok (.bipush (-2), 2) := by decide +kernel
theorem dX8_run_12 : decode cX8_run 12 = .ok (.ireturn, 1) := by decide +kernel
theorem dX8_run_13 : decode cX8_run 13 = .ok (.aload_n 0, 1) := by decide +kernel
theorem dX8_run_14 : decode cX8_run 14 = .ok (.aload_n 0, 1) := by decide +kernel
theorem dX8_run_15 : decode cX8_run 15 = .ok (.getfield 49, 3) := by decide +kernel
theorem dX8_run_18 : decode cX8_run 18 = .ok (.getfield 193, 3) := by decide +kernel
theorem dX8_run_21 : decode cX8_run 21 = .ok (.putfield 68, 3) := by decide +kernel
theorem dX8_run_24 : decode cX8_run 24 = .ok (.aload_n 0, 1) := by decide +kernel
theorem dX8_run_25 : decode cX8_run 25 = .ok (.getfield 49, 3) := by decide +kernel
theorem dX8_run_28 : decode cX8_run 28 = .ok (.getfield 196, 3) := by decide +kernel
theorem dX8_run_31 : decode cX8_run 31 = .ok (.ireturn, 1) := by decide +kernel
theorem dX8_visits_0 : decode cX8_visits 0 = .ok (.aload_n 0, 1) := by decide +kernel
theorem dX8_visits_1 : decode cX8_visits 1 = .ok (.getfield 19, 3) := by decide +kernel
theorem dX8_visits_4 : decode cX8_visits 4 = .ok (.iload_n 1, 1) := by decide +kernel
theorem dX8_visits_5 : decode cX8_visits 5 = .ok (.invokevirtual 134, 3) := by decide +kernel
theorem dX8_visits_8 : decode cX8_visits 8 = .ok (.ifCond .eq 15, 3) := by decide +kernel
theorem dX8_visits_11 : decode cX8_visits 11 = .ok (.aload_n 0, 1) := by decide +kernel
theorem dX8_visits_12 : decode cX8_visits 12 = .ok (.getfield 49, 3) := by decide +kernel
theorem dX8_visits_15 : decode cX8_visits 15 = .ok (.getfield 199, 3) := by decide +kernel
theorem dX8_visits_18 : decode cX8_visits 18 = .ok (.iload_n 1, 1) := by decide +kernel
theorem dX8_visits_19 : decode cX8_visits 19 = .ok (.iaload, 1) := by decide +kernel
theorem dX8_visits_20 : decode cX8_visits 20 = .ok (.goto 4, 3) := by decide +kernel
theorem dX8_visits_23 : decode cX8_visits 23 = .ok (.iconst (-1), 1) := by decide +kernel
theorem dX8_visits_24 : decode cX8_visits 24 = .ok (.ireturn, 1) := by decide +kernel
theorem dX8_last_0 : decode cX8_last 0 = .ok (.aload_n 0, 1) := by decide +kernel
theorem dX8_last_1 : decode cX8_last 1 = .ok (.getfield 19, 3) := by decide +kernel
theorem dX8_last_4 : decode cX8_last 4 = .ok (.iload_n 1, 1) := by decide +kernel
theorem dX8_last_5 : decode cX8_last 5 = .ok (.invokevirtual 103, 3) := by decide +kernel
theorem dX8_last_8 : decode cX8_last 8 = .ok (.ifCond .ne 5, 3) := by decide +kernel
theorem dX8_last_11 : decode cX8_last 11 = .ok (.iconst (-1), 1) := by decide +kernel
theorem dX8_last_12 : decode cX8_last 12 = .ok (.ireturn, 1) := by decide +kernel
theorem dX8_last_13 : decode cX8_last 13 = .ok (.aload_n 0, 1) := by decide +kernel
theorem dX8_last_14 : decode cX8_last 14 = .ok (.aload_n 0, 1) := by decide +kernel
theorem dX8_last_15 : decode cX8_last 15 = .ok (.getfield 49, 3) := by decide +kernel
theorem dX8_last_18 : decode cX8_last 18 = .ok (.getfield 202, 3) := by decide +kernel
theorem dX8_last_21 : decode cX8_last 21 = .ok (.iload_n 1, 1) := by decide +kernel
theorem dX8_last_22 : decode cX8_last 22 = .ok (.iaload, 1) := by decide +kernel
theorem dX8_last_23 : decode cX8_last 23 = .ok (.putfield 68, 3) := by decide +kernel
theorem dX8_last_26 : decode cX8_last 26 = .ok (.iconst 1, 1) := by decide +kernel
theorem dX8_last_27 : decode cX8_last 27 = .ok (.ireturn, 1) := by decide +kernel
theorem dX8_count_0 : decode cX8_count 0 = .ok (.iload_n 1, 1) := by decide +kernel
theorem dX8_count_1 : decode cX8_count 1 = .ok (.tableswitch 205 0 12 #[67, 75, 83, 91, 103, 111, 124, 137, 149, 161, 173, 189, 197], 67) := by decide +kernel
theorem dX8_count_68 : decode cX8_count 68 = .ok (.aload_n 0, 1) := by decide +kernel
theorem dX8_count_69 : decode cX8_count 69 = .ok (.getfield 19, 3) := by decide +kernel
theorem dX8_count_72 : decode cX8_count 72 = .ok (.getfield 100, 3) := by decide +kernel
theorem dX8_count_75 : decode cX8_count 75 = .ok (.ireturn, 1) := by decide +kernel
theorem dX8_count_76 : decode cX8_count 76 = .ok (.aload_n 0, 1) := by decide +kernel
theorem dX8_count_77 : decode cX8_count 77 = .ok (.getfield 19, 3) := by decide +kernel
theorem dX8_count_80 : decode cX8_count 80 = .ok (.getfield 190, 3) := by decide +kernel
theorem dX8_count_83 : decode cX8_count 83 = .ok (.ireturn, 1) := by decide +kernel
theorem dX8_count_84 : decode cX8_count 84 = .ok (.aload_n 0, 1) := by decide +kernel
theorem dX8_count_85 : decode cX8_count 85 = .ok (.getfield 19, 3) := by decide +kernel
theorem dX8_count_88 : decode cX8_count 88 = .ok (.invokevirtual 203, 3) := by decide +kernel
theorem dX8_count_91 : decode cX8_count 91 = .ok (.ireturn, 1) := by decide +kernel
theorem dX8_count_92 : decode cX8_count 92 = .ok (.aload_n 0, 1) := by decide +kernel
theorem dX8_count_93 : decode cX8_count 93 = .ok (.getfield 36, 3) := by decide +kernel
theorem dX8_count_96 : decode cX8_count 96 = .ok (.aload_n 0, 1) := by decide +kernel
theorem dX8_count_97 : decode cX8_count 97 = .ok (.getfield 19, 3) := by decide +kernel
theorem dX8_count_100 : decode cX8_count 100 = .ok (.invokevirtual 182, 3) := by decide +kernel
theorem dX8_count_103 : decode cX8_count 103 = .ok (.ireturn, 1) := by decide +kernel
theorem dX8_count_104 : decode cX8_count 104 = .ok (.aload_n 0, 1) := by decide +kernel
theorem dX8_count_105 : decode cX8_count 105 = .ok (.getfield 36, 3) := by decide +kernel
theorem dX8_count_108 : decode cX8_count 108 = .ok (.invokevirtual 207, 3) := by decide +kernel
theorem dX8_count_111 : decode cX8_count 111 = .ok (.ireturn, 1) := by decide +kernel
theorem dX8_count_112 : decode cX8_count 112 = .ok (.aload_n 0, 1) := by decide +kernel
theorem dX8_count_113 : decode cX8_count 113 = .ok (.getfield 36, 3) := by decide +kernel
theorem dX8_count_116 : decode cX8_count 116 = .ok (.iconst 1, 1) := by decide +kernel
theorem dX8_count_117 : decode cX8_count 117 = .ok (.aload_n 0, 1) := by decide +kernel
theorem dX8_count_118 : decode cX8_count 118 = .ok (.getfield 19, 3) := by decide +kernel
theorem dX8_count_121 : decode cX8_count 121 = .ok (.invokevirtual 168, 3) := by decide +kernel
theorem dX8_count_124 : decode cX8_count 124 = .ok (.ireturn, 1) := by decide +kernel
theorem dX8_count_125 : decode cX8_count 125 = .ok (.aload_n 0, 1) := by decide +kernel
theorem dX8_count_126 : decode cX8_count 126 = .ok (.getfield 36, 3) := by decide +kernel
theorem dX8_count_129 : decode cX8_count 129 = .ok (.iconst 0, 1) := by decide +kernel
theorem dX8_count_130 : decode cX8_count 130 = .ok (.aload_n 0, 1) := by decide +kernel
theorem dX8_count_131 : decode cX8_count 131 = .ok (.getfield 19, 3) := by decide +kernel
theorem dX8_count_134 : decode cX8_count 134 = .ok (.invokevirtual 168, 3) := by decide +kernel
theorem dX8_count_137 : decode cX8_count 137 = .ok (.ireturn, 1) := by decide +kernel
theorem dX8_count_138 : decode cX8_count 138 = .ok (.aload_n 0, 1) := by decide +kernel
theorem dX8_count_139 : decode cX8_count 139 = .ok (.getfield 36, 3) := by decide +kernel
theorem dX8_count_142 : decode cX8_count 142 = .ok (.aload_n 0, 1) := by decide +kernel
theorem dX8_count_143 : decode cX8_count 143 = .ok (.getfield 19, 3) := by decide +kernel
theorem dX8_count_146 : decode cX8_count 146 = .ok (.invokevirtual 210, 3) := by decide +kernel
theorem dX8_count_149 : decode cX8_count 149 = .ok (.ireturn, 1) := by decide +kernel
theorem dX8_count_150 : decode cX8_count 150 = .ok (.aload_n 0, 1) := by decide +kernel
theorem dX8_count_151 : decode cX8_count 151 = .ok (.getfield 36, 3) := by decide +kernel
theorem dX8_count_154 : decode cX8_count 154 = .ok (.aload_n 0, 1) := by decide +kernel
theorem dX8_count_155 : decode cX8_count 155 = .ok (.getfield 19, 3) := by decide +kernel
theorem dX8_count_158 : decode cX8_count 158 = .ok (.invokevirtual 213, 3) := by decide +kernel
theorem dX8_count_161 : decode cX8_count 161 = .ok (.ireturn, 1) := by decide +kernel
theorem dX8_count_162 : decode cX8_count 162 = .ok (.aload_n 0, 1) := by decide +kernel
theorem dX8_count_163 : decode cX8_count 163 = .ok (.getfield 36, 3) := by decide +kernel
theorem dX8_count_166 : decode cX8_count 166 = .ok (.aload_n 0, 1) := by decide +kernel
theorem dX8_count_167 : decode cX8_count 167 = .ok (.getfield 19, 3) := by decide +kernel
theorem dX8_count_170 : decode cX8_count 170 = .ok (.invokevirtual 216, 3) := by decide +kernel
theorem dX8_count_173 : decode cX8_count 173 = .ok (.ireturn, 1) := by decide +kernel
theorem dX8_count_174 : decode cX8_count 174 = .ok (.aload_n 0, 1) := by decide +kernel
theorem dX8_count_175 : decode cX8_count 175 = .ok (.getfield 36, 3) := by decide +kernel
theorem dX8_count_178 : decode cX8_count 178 = .ok (.aload_n 0, 1) := by decide +kernel
theorem dX8_count_179 : decode cX8_count 179 = .ok (.getfield 40, 3) := by decide +kernel
theorem dX8_count_182 : decode cX8_count 182 = .ok (.aload_n 0, 1) := by decide +kernel
theorem dX8_count_183 : decode cX8_count 183 = .ok (.getfield 19, 3) := by decide +kernel
theorem dX8_count_186 : decode cX8_count 186 = .ok (.invokevirtual 219, 3) := by decide +kernel
theorem dX8_count_189 : decode cX8_count 189 = .ok (.ireturn, 1) := by decide +kernel
theorem dX8_count_190 : decode cX8_count 190 = .ok (.aload_n 0, 1) := by decide +kernel
theorem dX8_count_191 : decode cX8_count 191 = .ok (.getfield 56, 3) := by decide +kernel
theorem dX8_count_194 : decode cX8_count 194 = .ok (.getfield 88, 3) := by decide +kernel
theorem dX8_count_197 : decode cX8_count 197 = .ok (.ireturn, 1) := by decide +kernel
theorem dX8_count_198 : decode cX8_count 198 = .ok (.aload_n 0, 1) := by decide +kernel
theorem dX8_count_199 : decode cX8_count 199 = .ok (.getfield 12, 3) := by decide +kernel
theorem dX8_count_202 : decode cX8_count 202 = .ok (.getfield 72, 3) := by decide +kernel
theorem dX8_count_205 : decode cX8_count 205 = .ok (.ireturn, 1) := by decide +kernel
theorem dX8_count_206 : decode cX8_count 206 = .ok (.iconst (-1), 1) := by decide +kernel
theorem dX8_count_207 : decode cX8_count 207 = .ok (.ireturn, 1) := by decide +kernel
theorem dX8_best_0 : decode cX8_best 0 = .ok (.iload_n 1, 1) := by decide +kernel
theorem dX8_best_1 : decode cX8_best 1 = .ok (.ifCond .lt 8, 3) := by decide +kernel
theorem dX8_best_4 : decode cX8_best 4 = .ok (.iload_n 1, 1) := by decide +kernel
theorem dX8_best_5 : decode cX8_best 5 = .ok (.iconst 1, 1) := by decide +kernel
theorem dX8_best_6 : decode cX8_best 6 = .ok (.if_icmp .le 5, 3) := by decide +kernel
theorem dX8_best_9 : decode cX8_best 9 = .ok (.iconst (-1), 1) := by decide +kernel
theorem dX8_best_10 : decode cX8_best 10 = .ok (.ireturn, 1) := by decide +kernel
theorem dX8_best_11 : decode cX8_best 11 = .ok (.bipush (-9), 2) := by decide +kernel
theorem dX8_best_13 : decode cX8_best 13 = .ok (.istore_n 2, 1) := by decide +kernel
theorem dX8_best_14 : decode cX8_best 14 = .ok (.bipush (-9), 2) := by decide +kernel
theorem dX8_best_16 : decode cX8_best 16 = .ok (.istore_n 3, 1) := by decide +kernel
theorem dX8_best_17 : decode cX8_best 17 = .ok (.aload_n 0, 1) := by decide +kernel
theorem dX8_best_18 : decode cX8_best 18 = .ok (.getfield 36, 3) := by decide +kernel
theorem dX8_best_21 : decode cX8_best 21 = .ok (.iconst 2, 1) := by decide +kernel
theorem dX8_best_22 : decode cX8_best 22 = .ok (.aload_n 0, 1) := by decide +kernel
theorem dX8_best_23 : decode cX8_best 23 = .ok (.getfield 19, 3) := by decide +kernel
theorem dX8_best_26 : decode cX8_best 26 = .ok (.invokevirtual 168, 3) := by decide +kernel
theorem dX8_best_29 : decode cX8_best 29 = .ok (.istore 4, 2) := by decide +kernel
theorem dX8_best_31 : decode cX8_best 31 = .ok (.iconst 0, 1) := by decide +kernel
theorem dX8_best_32 : decode cX8_best 32 = .ok (.istore 5, 2) := by decide +kernel
theorem dX8_best_34 : decode cX8_best 34 = .ok (.iload 5, 2) := by decide +kernel
theorem dX8_best_36 : decode cX8_best 36 = .ok (.aload_n 0, 1) := by decide +kernel
theorem dX8_best_37 : decode cX8_best 37 = .ok (.getfield 19, 3) := by decide +kernel
theorem dX8_best_40 : decode cX8_best 40 = .ok (.getfield 100, 3) := by decide +kernel
theorem dX8_best_43 : decode cX8_best 43 = .ok (.if_icmp .ge 93, 3) := by decide +kernel
theorem dX8_best_46 : decode cX8_best 46 = .ok (.aload_n 0, 1) := by decide +kernel
theorem dX8_best_47 : decode cX8_best 47 = .ok (.getfield 19, 3) := by decide +kernel
theorem dX8_best_50 : decode cX8_best 50 = .ok (.getfield 110, 3) := by decide +kernel
theorem dX8_best_53 : decode cX8_best 53 = .ok (.iload 5, 2) := by decide +kernel
theorem dX8_best_55 : decode cX8_best 55 = .ok (.iaload, 1) := by decide +kernel
theorem dX8_best_56 : decode cX8_best 56 = .ok (.iconst 1, 1) := by decide +kernel
theorem dX8_best_57 : decode cX8_best 57 = .ok (.if_icmp .ne 73, 3) := by decide +kernel
theorem dX8_best_60 : decode cX8_best 60 = .ok (.aload_n 0, 1) := by decide +kernel
theorem dX8_best_61 : decode cX8_best 61 = .ok (.getfield 29, 3) := by decide +kernel
theorem dX8_best_64 : decode cX8_best 64 = .ok (.getfield 125, 3) := by decide +kernel
theorem dX8_best_67 : decode cX8_best 67 = .ok (.iload 5, 2) := by decide +kernel
theorem dX8_best_69 : decode cX8_best 69 = .ok (.iaload, 1) := by decide +kernel
theorem dX8_best_70 : decode cX8_best 70 = .ok (.iconst 1, 1) := by decide +kernel
theorem dX8_best_71 : decode cX8_best 71 = .ok (.if_icmp .ne 6, 3) := by decide +kernel
theorem dX8_best_74 : decode cX8_best 74 = .ok (.goto 56, 3) := by decide +kernel
theorem dX8_best_77 : decode cX8_best 77 = .ok (.aload_n 0, 1) := by decide +kernel
theorem dX8_best_78 : decode cX8_best 78 = .ok (.getfield 43, 3) := by decide +kernel
theorem dX8_best_81 : decode cX8_best 81 = .ok (.aload_n 0, 1) := by decide +kernel
theorem dX8_best_82 : decode cX8_best 82 = .ok (.getfield 19, 3) := by decide +kernel
theorem dX8_best_85 : decode cX8_best 85 = .ok (.aload_n 0, 1) := by decide +kernel
theorem dX8_best_86 : decode cX8_best 86 = .ok (.getfield 29, 3) := by decide +kernel
theorem dX8_best_89 : decode cX8_best 89 = .ok (.iconst 0, 1) := by decide +kernel
theorem dX8_best_90 : decode cX8_best 90 = .ok (.iload 5, 2) := by decide +kernel
theorem dX8_best_92 : decode cX8_best 92 = .ok (.invokevirtual 223, 3) := by decide +kernel
theorem dX8_best_95 : decode cX8_best 95 = .ok (.iload 4, 2) := by decide +kernel
theorem dX8_best_97 : decode cX8_best 97 = .ok (.aload_n 0, 1) := by decide +kernel
theorem dX8_best_98 : decode cX8_best 98 = .ok (.getfield 43, 3) := by decide +kernel
theorem dX8_best_101 : decode cX8_best 101 = .ok (.iconst 2, 1) := by decide +kernel
theorem dX8_best_102 : decode cX8_best 102 = .ok (.aload_n 0, 1) := by decide +kernel
theorem dX8_best_103 : decode cX8_best 103 = .ok (.getfield 19, 3) := by decide +kernel
theorem dX8_best_106 : decode cX8_best 106 = .ok (.invokevirtual 168, 3) := by decide +kernel
theorem dX8_best_109 : decode cX8_best 109 = .ok (.isub, 1) := by decide +kernel
theorem dX8_best_110 : decode cX8_best 110 = .ok (.istore 6, 2) := by decide +kernel
theorem dX8_best_112 : decode cX8_best 112 = .ok (.iload_n 2, 1) := by decide +kernel
theorem dX8_best_113 : decode cX8_best 113 = .ok (.bipush (-9), 2) := by decide +kernel
theorem dX8_best_115 : decode cX8_best 115 = .ok (.if_icmp .eq 9, 3) := by decide +kernel
theorem dX8_best_118 : decode cX8_best 118 = .ok (.iload 6, 2) := by decide +kernel
theorem dX8_best_120 : decode cX8_best 120 = .ok (.iload_n 3, 1) := by decide +kernel
theorem dX8_best_121 : decode cX8_best 121 = .ok (.if_icmp .le 9, 3) := by decide +kernel
theorem dX8_best_124 : decode cX8_best 124 = .ok (.iload 5, 2) := by decide +kernel
theorem dX8_best_126 : decode cX8_best 126 = .ok (.istore_n 2, 1) := by decide +kernel
theorem dX8_best_127 : decode cX8_best 127 = .ok (.iload 6, 2) := by decide +kernel
theorem dX8_best_129 : decode cX8_best 129 = .ok (.istore_n 3, 1) := by decide +kernel
theorem dX8_best_130 : decode cX8_best 130 = .ok (.iinc 5 1, 3) := by decide +kernel
theorem dX8_best_133 : decode cX8_best 133 = .ok (.goto (-99), 3) := by decide +kernel
theorem dX8_best_136 : decode cX8_best 136 = .ok (.iload_n 1, 1) := by decide +kernel
theorem dX8_best_137 : decode cX8_best 137 = .ok (.ifCond .ne 7, 3) := by decide +kernel
theorem dX8_best_140 : decode cX8_best 140 = .ok (.iload_n 2, 1) := by decide +kernel
theorem dX8_best_141 : decode cX8_best 141 = .ok (.goto 4, 3) := by decide +kernel
theorem dX8_best_144 : decode cX8_best 144 = .ok (.iload_n 3, 1) := by decide +kernel
theorem dX8_best_145 : decode cX8_best 145 = .ok (.ireturn, 1) := by decide +kernel
theorem dX8_keep_0 : decode cX8_keep 0 = .ok (.iload_n 1, 1) := by decide +kernel
theorem dX8_keep_1 : decode cX8_keep 1 = .ok (.ifCond .lt 8, 3) := by decide +kernel
theorem dX8_keep_4 : decode cX8_keep 4 = .ok (.iload_n 1, 1) := by decide +kernel
theorem dX8_keep_5 : decode cX8_keep 5 = .ok (.iconst 2, 1) := by decide +kernel
theorem dX8_keep_6 : decode cX8_keep 6 = .ok (.if_icmp .lt 5, 3) := by decide +kernel
theorem dX8_keep_9 : decode cX8_keep 9 = .ok (.iconst (-1), 1) := by decide +kernel
theorem dX8_keep_10 : decode cX8_keep 10 = .ok (.ireturn, 1) := by decide +kernel
theorem dX8_keep_11 : decode cX8_keep 11 = .ok (.aload_n 0, 1) := by decide +kernel
theorem dX8_keep_12 : decode cX8_keep 12 = .ok (.getfield 60, 3) := by decide +kernel
theorem dX8_keep_15 : decode cX8_keep 15 = .ok (.iload_n 1, 1) := by decide +kernel
theorem dX8_keep_16 : decode cX8_keep 16 = .ok (.aaload, 1) := by decide +kernel
theorem dX8_keep_17 : decode cX8_keep 17 = .ok (.aload_n 0, 1) := by decide +kernel
theorem dX8_keep_18 : decode cX8_keep 18 = .ok (.getfield 29, 3) := by decide +kernel
theorem dX8_keep_21 : decode cX8_keep 21 = .ok (.invokevirtual 227, 3) := by decide +kernel
theorem dX8_keep_24 : decode cX8_keep 24 = .ok (.aload_n 0, 1) := by decide +kernel
theorem dX8_keep_25 : decode cX8_keep 25 = .ok (.getfield 64, 3) := by decide +kernel
theorem dX8_keep_28 : decode cX8_keep 28 = .ok (.iload_n 1, 1) := by decide +kernel
theorem dX8_keep_29 : decode cX8_keep 29 = .ok (.iconst 1, 1) := by decide +kernel
theorem dX8_keep_30 : decode cX8_keep 30 = .ok (.iastore, 1) := by decide +kernel
theorem dX8_keep_31 : decode cX8_keep 31 = .ok (.aload_n 0, 1) := by decide +kernel
theorem dX8_keep_32 : decode cX8_keep 32 = .ok (.getfield 19, 3) := by decide +kernel
theorem dX8_keep_35 : decode cX8_keep 35 = .ok (.getfield 100, 3) := by decide +kernel
theorem dX8_keep_38 : decode cX8_keep 38 = .ok (.ireturn, 1) := by decide +kernel
theorem dX8_back_0 : decode cX8_back 0 = .ok (.iload_n 1, 1) := by decide +kernel
theorem dX8_back_1 : decode cX8_back 1 = .ok (.ifCond .lt 8, 3) := by decide +kernel
theorem dX8_back_4 : decode cX8_back 4 = .ok (.iload_n 1, 1) := by decide +kernel
theorem dX8_back_5 : decode cX8_back 5 = .ok (.iconst 2, 1) := by decide +kernel
theorem dX8_back_6 : decode cX8_back 6 = .ok (.if_icmp .lt 5, 3) := by decide +kernel
theorem dX8_back_9 : decode cX8_back 9 = .ok (.iconst (-1), 1) := by decide +kernel
theorem dX8_back_10 : decode cX8_back 10 = .ok (.ireturn, 1) := by decide +kernel
theorem dX8_back_11 : decode cX8_back 11 = .ok (.aload_n 0, 1) := by decide +kernel
theorem dX8_back_12 : decode cX8_back 12 = .ok (.getfield 64, 3) := by decide +kernel
theorem dX8_back_15 : decode cX8_back 15 = .ok (.iload_n 1, 1) := by decide +kernel
theorem dX8_back_16 : decode cX8_back 16 = .ok (.iaload, 1) := by decide +kernel
theorem dX8_back_17 : decode cX8_back 17 = .ok (.ifCond .ne 6, 3) := by decide +kernel
theorem dX8_back_20 : decode cX8_back 20 = .ok (.bipush (-2), 2) := by decide +kernel
theorem dX8_back_22 : decode cX8_back 22 = .ok (.ireturn, 1) := by decide +kernel
theorem dX8_back_23 : decode cX8_back 23 = .ok (.aload_n 0, 1) := by decide +kernel
theorem dX8_back_24 : decode cX8_back 24 = .ok (.getfield 29, 3) := by decide +kernel
theorem dX8_back_27 : decode cX8_back 27 = .ok (.aload_n 0, 1) := by decide +kernel
theorem dX8_back_28 : decode cX8_back 28 = .ok (.getfield 60, 3) := by decide +kernel
theorem dX8_back_31 : decode cX8_back 31 = .ok (.iload_n 1, 1) := by decide +kernel
theorem dX8_back_32 : decode cX8_back 32 = .ok (.aaload, 1) := by decide +kernel
theorem dX8_back_33 : decode cX8_back 33 = .ok (.invokevirtual 227, 3) := by decide +kernel
theorem dX8_back_36 : decode cX8_back 36 = .ok (.aload_n 0, 1) := by decide +kernel
theorem dX8_back_37 : decode cX8_back 37 = .ok (.getfield 56, 3) := by decide +kernel
theorem dX8_back_40 : decode cX8_back 40 = .ok (.iconst 0, 1) := by decide +kernel
theorem dX8_back_41 : decode cX8_back 41 = .ok (.putfield 88, 3) := by decide +kernel
theorem dX8_back_44 : decode cX8_back 44 = .ok (.aload_n 0, 1) := by decide +kernel
theorem dX8_back_45 : decode cX8_back 45 = .ok (.invokevirtual 97, 3) := by decide +kernel
theorem dX8_back_48 : decode cX8_back 48 = .ok (.aload_n 0, 1) := by decide +kernel
theorem dX8_back_49 : decode cX8_back 49 = .ok (.getfield 19, 3) := by decide +kernel
theorem dX8_back_52 : decode cX8_back 52 = .ok (.getfield 100, 3) := by decide +kernel
theorem dX8_back_55 : decode cX8_back 55 = .ok (.ireturn, 1) := by decide +kernel
theorem dX8_asked_0 : decode cX8_asked 0 = .ok (.aload_n 0, 1) := by decide +kernel
theorem dX8_asked_1 : decode cX8_asked 1 = .ok (.getfield 68, 3) := by decide +kernel
theorem dX8_asked_4 : decode cX8_asked 4 = .ok (.ireturn, 1) := by decide +kernel
theorem dX8_settle_0 : decode cX8_settle 0 = .ok (.aload_n 0, 1) := by decide +kernel
theorem dX8_settle_1 : decode cX8_settle 1 = .ok (.getfield 36, 3) := by decide +kernel
theorem dX8_settle_4 : decode cX8_settle 4 = .ok (.aload_n 0, 1) := by decide +kernel
theorem dX8_settle_5 : decode cX8_settle 5 = .ok (.getfield 19, 3) := by decide +kernel
theorem dX8_settle_8 : decode cX8_settle 8 = .ok (.aload_n 0, 1) := by decide +kernel
theorem dX8_settle_9 : decode cX8_settle 9 = .ok (.getfield 29, 3) := by decide +kernel
theorem dX8_settle_12 : decode cX8_settle 12 = .ok (.iconst 0, 1) := by decide +kernel
theorem dX8_settle_13 : decode cX8_settle 13 = .ok (.bipush (-9), 2) := by decide +kernel
theorem dX8_settle_15 : decode cX8_settle 15 = .ok (.invokevirtual 223, 3) := by decide +kernel
theorem dX8_settle_18 : decode cX8_settle 18 = .ok (.aload_n 0, 1) := by decide +kernel
theorem dX8_settle_19 : decode cX8_settle 19 = .ok (.getfield 40, 3) := by decide +kernel
theorem dX8_settle_22 : decode cX8_settle 22 = .ok (.aload_n 0, 1) := by decide +kernel
theorem dX8_settle_23 : decode cX8_settle 23 = .ok (.getfield 19, 3) := by decide +kernel
theorem dX8_settle_26 : decode cX8_settle 26 = .ok (.aload_n 0, 1) := by decide +kernel
theorem dX8_settle_27 : decode cX8_settle 27 = .ok (.getfield 29, 3) := by decide +kernel
theorem dX8_settle_30 : decode cX8_settle 30 = .ok (.iconst 1, 1) := by decide +kernel
theorem dX8_settle_31 : decode cX8_settle 31 = .ok (.bipush (-9), 2) := by decide +kernel
theorem dX8_settle_33 : decode cX8_settle 33 = .ok (.invokevirtual 223, 3) := by decide +kernel
theorem dX8_settle_36 : decode cX8_settle 36 = .ok (.aload_n 0, 1) := by decide +kernel
theorem dX8_settle_37 : decode cX8_settle 37 = .ok (.getfield 49, 3) := by decide +kernel
theorem dX8_settle_40 : decode cX8_settle 40 = .ok (.aload_n 0, 1) := by decide +kernel
theorem dX8_settle_41 : decode cX8_settle 41 = .ok (.getfield 19, 3) := by decide +kernel
theorem dX8_settle_44 : decode cX8_settle 44 = .ok (.aload_n 0, 1) := by decide +kernel
theorem dX8_settle_45 : decode cX8_settle 45 = .ok (.getfield 29, 3) := by decide +kernel
theorem dX8_settle_48 : decode cX8_settle 48 = .ok (.invokevirtual 230, 3) := by decide +kernel
theorem dX8_settle_51 : decode cX8_settle 51 = .ok (.return_, 1) := by decide +kernel
theorem dX9_init_0 : decode cX9_init 0 = .ok (.aload_n 0, 1) := by decide +kernel
theorem dX9_init_1 : decode cX9_init 1 = .ok (.invokespecial 1, 3) := by decide +kernel
theorem dX9_init_4 : decode cX9_init 4 = .ok (.aload_n 0, 1) := by decide +kernel
theorem dX9_init_5 : decode cX9_init 5 = .ok (.sipush 150, 3) := by decide +kernel
theorem dX9_init_8 : decode cX9_init 8 = .ok (.newarray .int, 2) := by decide +kernel
theorem dX9_init_10 : decode cX9_init 10 = .ok (.putfield 7, 3) := by decide +kernel
theorem dX9_init_13 : decode cX9_init 13 = .ok (.aload_n 0, 1) := by decide +kernel
theorem dX9_init_14 : decode cX9_init 14 = .ok (.bipush 24, 2) := by decide +kernel
theorem dX9_init_16 : decode cX9_init 16 = .ok (.newarray .int, 2) := by decide +kernel
theorem dX9_init_18 : decode cX9_init 18 = .ok (.putfield 13, 3) := by decide +kernel
theorem dX9_init_21 : decode cX9_init 21 = .ok (.aload_n 0, 1) := by decide +kernel
theorem dX9_init_22 : decode cX9_init 22 = .ok (.bipush 24, 2) := by decide +kernel
theorem dX9_init_24 : decode cX9_init 24 = .ok (.newarray .int, 2) := by decide +kernel
theorem dX9_init_26 : decode cX9_init 26 = .ok (.putfield 16, 3) := by decide +kernel
theorem dX9_init_29 : decode cX9_init 29 = .ok (.aload_n 0, 1) := by decide +kernel
theorem dX9_init_30 : decode cX9_init 30 = .ok (.bipush 24, 2) := by decide +kernel
theorem dX9_init_32 : decode cX9_init 32 = .ok (.newarray .int, 2) := by decide +kernel
theorem dX9_init_34 : decode cX9_init 34 = .ok (.putfield 19, 3) := by decide +kernel
theorem dX9_init_37 : decode cX9_init 37 = .ok (.aload_n 0, 1) := by decide +kernel
theorem dX9_init_38 : decode cX9_init 38 = .ok (.bipush 24, 2) := by decide +kernel
theorem dX9_init_40 : decode cX9_init 40 = .ok (.newarray .int, 2) := by decide +kernel
theorem dX9_init_42 : decode cX9_init 42 = .ok (.putfield 22, 3) := by decide +kernel
theorem dX9_init_45 : decode cX9_init 45 = .ok (.aload_n 0, 1) := by decide +kernel
theorem dX9_init_46 : decode cX9_init 46 = .ok (.bipush 24, 2) := by decide +kernel
theorem dX9_init_48 : decode cX9_init 48 = .ok (.newarray .int, 2) := by decide +kernel
theorem dX9_init_50 : decode cX9_init 50 = .ok (.putfield 25, 3) := by decide +kernel
theorem dX9_init_53 : decode cX9_init 53 = .ok (.aload_n 0, 1) := by decide +kernel
theorem dX9_init_54 : decode cX9_init 54 = .ok (.bipush 24, 2) := by decide +kernel
theorem dX9_init_56 : decode cX9_init 56 = .ok (.newarray .int, 2) := by decide +kernel
theorem dX9_init_58 : decode cX9_init 58 = .ok (.putfield 28, 3) := by decide +kernel
theorem dX9_init_61 : decode cX9_init 61 = .ok (.aload_n 0, 1) := by decide +kernel
theorem dX9_init_62 : decode cX9_init 62 = .ok (.bipush 72, 2) := by decide +kernel
theorem dX9_init_64 : decode cX9_init 64 = .ok (.newarray .int, 2) := by decide +kernel
theorem dX9_init_66 : decode cX9_init 66 = .ok (.putfield 31, 3) := by decide +kernel
theorem dX9_init_69 : decode cX9_init 69 = .ok (.aload_n 0, 1) := by decide +kernel
theorem dX9_init_70 : decode cX9_init 70 = .ok (.bipush 72, 2) := by decide +kernel
theorem dX9_init_72 : decode cX9_init 72 = .ok (.newarray .int, 2) := by decide +kernel
theorem dX9_init_74 : decode cX9_init 74 = .ok (.putfield 34, 3) := by decide +kernel
theorem dX9_init_77 : decode cX9_init 77 = .ok (.aload_n 0, 1) := by decide +kernel
theorem dX9_init_78 : decode cX9_init 78 = .ok (.bipush 9, 2) := by decide +kernel
theorem dX9_init_80 : decode cX9_init 80 = .ok (.newarray .int, 2) := by decide +kernel
theorem dX9_init_82 : decode cX9_init 82 = .ok (.putfield 37, 3) := by decide +kernel
