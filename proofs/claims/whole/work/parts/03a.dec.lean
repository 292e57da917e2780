theorem dX0_init_0 : decode cX0_init 0 = .ok (.aload_n 0, 1) := by decide +kernel
theorem dX0_init_1 : decode cX0_init 1 = .ok (.invokespecial 3, 3) := by decide +kernel
theorem dX0_init_4 : decode cX0_init 4 = .ok (.aload_n 0, 1) := by decide +kernel
theorem dX0_init_5 : decode cX0_init 5 = .ok (.bipush 24, 2) := by decide +kernel
theorem dX0_init_7 : decode cX0_init 7 = .ok (.newarray .int, 2) := by decide +kernel
theorem dX0_init_9 : decode cX0_init 9 = .ok (.putfield 9, 3) := by decide +kernel
theorem dX0_init_12 : decode cX0_init 12 = .ok (.aload_n 0, 1) := by decide +kernel
theorem dX0_init_13 : decode cX0_init 13 = .ok (.bipush 24, 2) := by decide +kernel
theorem dX0_init_15 : decode cX0_init 15 = .ok (.newarray .int, 2) := by decide +kernel
theorem dX0_init_17 : decode cX0_init 17 = .ok (.putfield 15, 3) := by decide +kernel
theorem dX0_init_20 : decode cX0_init 20 = .ok (.aload_n 0, 1) := by decide +kernel
theorem dX0_init_21 : decode cX0_init 21 = .ok (.bipush 8, 2) := by decide +kernel
theorem dX0_init_23 : decode cX0_init 23 = .ok (.newarray .int, 2) := by decide +kernel
theorem dX0_init_25 : decode cX0_init 25 = .ok (.putfield 18, 3) := by decide +kernel
theorem dX0_init_28 : decode cX0_init 28 = .ok (.aload_n 0, 1) := by decide +kernel
theorem dX0_init_29 : decode cX0_init 29 = .ok (.bipush 16, 2) := by decide +kernel
theorem dX0_init_31 : decode cX0_init 31 = .ok (.newarray .int, 2) := by decide +kernel
theorem dX0_init_33 : decode cX0_init 33 = .ok (.putfield 21, 3) := by decide +kernel
theorem dX0_init_36 : decode cX0_init 36 = .ok (.return_, 1) := by decide +kernel
theorem dX0_climb_0 : decode cX0_climb 0 = .ok (.aload_n 0, 1) := by decide +kernel
theorem dX0_climb_1 : decode cX0_climb 1 = .ok (.getfield 9, 3) := by decide +kernel
theorem dX0_climb_4 : decode cX0_climb 4 = .ok (.iconst 0, 1) := by decide +kernel
theorem dX0_climb_5 : decode cX0_climb 5 = .ok (.invokestatic 24, 3) := by decide +kernel
theorem dX0_climb_8 : decode cX0_climb 8 = .ok (.aload_n 0, 1) := by decide +kernel
theorem dX0_climb_9 : decode cX0_climb 9 = .ok (.getfield 15, 3) := by decide +kernel
theorem dX0_climb_12 : decode cX0_climb 12 = .ok (.iconst 0, 1) := by decide +kernel
theorem dX0_climb_13 : decode cX0_climb 13 = .ok (.invokestatic 24, 3) := by decide +kernel
theorem dX0_climb_16 : decode cX0_climb 16 = .ok (.aload_n 0, 1) := by decide +kernel
theorem dX0_climb_17 : decode cX0_climb 17 = .ok (.getfield 18, 3) := by decide +kernel
theorem dX0_climb_20 : decode cX0_climb 20 = .ok (.iconst 0, 1) := by decide +kernel
theorem dX0_climb_21 : decode cX0_climb 21 = .ok (.invokestatic 24, 3) := by decide +kernel
theorem dX0_climb_24 : decode cX0_climb 24 = .ok (.aload_n 0, 1) := by decide +kernel
theorem dX0_climb_25 : decode cX0_climb 25 = .ok (.getfield 21, 3) := by decide +kernel
theorem dX0_climb_28 : decode cX0_climb 28 = .ok (.iconst 0, 1) := by decide +kernel
theorem dX0_climb_29 : decode cX0_climb 29 = .ok (.invokestatic 24, 3) := by decide +kernel
theorem dX0_climb_32 : decode cX0_climb 32 = .ok (.aload_n 0, 1) := by decide +kernel
theorem dX0_climb_33 : decode cX0_climb 33 = .ok (.getfield 18, 3) := by decide +kernel
theorem dX0_climb_36 : decode cX0_climb 36 = .ok (.iconst 0, 1) := by decide +kernel
theorem dX0_climb_37 : decode cX0_climb 37 = .ok (.aload_n 1, 1) := by decide +kernel
theorem dX0_climb_38 : decode cX0_climb 38 = .ok (.getfield 30, 3) := by decide +kernel
theorem dX0_climb_41 : decode cX0_climb 41 = .ok (.ifCond .le 7, 3) := by decide +kernel
theorem dX0_climb_44 : decode cX0_climb 44 = .ok (.iconst 1, 1) := by decide +kernel
theorem dX0_climb_45 : decode cX0_climb 45 = .ok (.goto 4, 3) := by decide +kernel
theorem dX0_climb_48 : decode cX0_climb 48 = .ok (.iconst 0, 1) := by decide +kernel
theorem dX0_climb_49 : decode cX0_climb 49 = .ok (.iastore, 1) := by decide +kernel
theorem dX0_climb_50 : decode cX0_climb 50 = .ok (.iconst 1, 1) := by decide +kernel
theorem dX0_climb_51 : decode cX0_climb 51 = .ok (.istore 5, 2) := by decide +kernel
theorem dX0_climb_53 : decode cX0_climb 53 = .ok (.iconst 0, 1) := by decide +kernel
theorem dX0_climb_54 : decode cX0_climb 54 = .ok (.istore 6, 2) := by decide +kernel
theorem dX0_climb_56 : decode cX0_climb 56 = .ok (.iload 6, 2) := by decide +kernel
theorem dX0_climb_58 : decode cX0_climb 58 = .ok (.bipush 65, 2) := by decide +kernel
theorem dX0_climb_60 : decode cX0_climb 60 = .ok (.if_icmp .ge 75, 3) := by decide +kernel
theorem dX0_climb_63 : decode cX0_climb 63 = .ok (.iload 5, 2) := by decide +kernel
theorem dX0_climb_65 : decode cX0_climb 65 = .ok (.ifCond .eq 70, 3) := by decide +kernel
theorem dX0_climb_68 : decode cX0_climb 68 = .ok (.iconst 0, 1) := by decide +kernel
theorem dX0_climb_69 : decode cX0_climb 69 = .ok (.istore 5, 2) := by decide +kernel
theorem dX0_climb_71 : decode cX0_climb 71 = .ok (.iconst 0, 1) := by decide +kernel
theorem dX0_climb_72 : decode cX0_climb 72 = .ok (.istore 7, 2) := by decide +kernel
theorem dX0_climb_74 : decode cX0_climb 74 = .ok (.iload 7, 2) := by decide +kernel
theorem dX0_climb_76 : decode cX0_climb 76 = .ok (.aload_n 1, 1) := by decide +kernel
theorem dX0_climb_77 : decode cX0_climb 77 = .ok (.getfield 30, 3) := by decide +kernel
theorem dX0_climb_80 : decode cX0_climb 80 = .ok (.if_icmp .ge 49, 3) := by decide +kernel
theorem dX0_climb_83 : decode cX0_climb 83 = .ok (.aload_n 0, 1) := by decide +kernel
theorem dX0_climb_84 : decode cX0_climb 84 = .ok (.getfield 18, 3) := by decide +kernel
theorem dX0_climb_87 : decode cX0_climb 87 = .ok (.iload 7, 2) := by decide +kernel
theorem dX0_climb_89 : decode cX0_climb 89 = .ok (.iaload, 1) := by decide +kernel
theorem dX0_climb_90 : decode cX0_climb 90 = .ok (.iconst 1, 1) := by decide +kernel
theorem dX0_climb_91 : decode cX0_climb 91 = .ok (.if_icmp .ne 32, 3) := by decide +kernel
theorem dX0_climb_94 : decode cX0_climb 94 = .ok (.iload 5, 2) := by decide +kernel
theorem dX0_climb_96 : decode cX0_climb 96 = .ok (.aload_n 0, 1) := by decide +kernel
theorem dX0_climb_97 : decode cX0_climb 97 = .ok (.aload_n 1, 1) := by decide +kernel
theorem dX0_climb_98 : decode cX0_climb 98 = .ok (.aload_n 2, 1) := by decide +kernel
theorem dX0_climb_99 : decode cX0_climb 99 = .ok (.iload 7, 2) := by decide +kernel
theorem dX0_climb_101 : decode cX0_climb 101 = .ok (.iload 4, 2) := by decide +kernel
theorem dX0_climb_103 : decode cX0_climb 103 = .ok (.invokevirtual 36, 3) := by decide +kernel
theorem dX0_climb_106 : decode cX0_climb 106 = .ok (.ior, 1) := by decide +kernel
theorem dX0_climb_107 : decode cX0_climb 107 = .ok (.istore 5, 2) := by decide +kernel
theorem dX0_climb_109 : decode cX0_climb 109 = .ok (.iload 5, 2) := by decide +kernel
theorem dX0_climb_111 : decode cX0_climb 111 = .ok (.aload_n 0, 1) := by decide +kernel
theorem dX0_climb_112 : decode cX0_climb 112 = .ok (.aload_n 1, 1) := by decide +kernel
theorem dX0_climb_113 : decode cX0_climb 113 = .ok (.aload_n 2, 1) := by decide +kernel
theorem dX0_climb_114 : decode cX0_climb 114 = .ok (.iload 7, 2) := by decide +kernel
theorem dX0_climb_116 : decode cX0_climb 116 = .ok (.iload_n 3, 1) := by decide +kernel
theorem dX0_climb_117 : decode cX0_climb 117 = .ok (.invokevirtual 40, 3) := by decide +kernel
theorem dX0_climb_120 : decode cX0_climb 120 = .ok (.ior, 1) := by decide +kernel
theorem dX0_climb_121 : decode cX0_climb 121 = .ok (.istore 5, 2) := by decide +kernel
theorem dX0_climb_123 : decode cX0_climb 123 = .ok (.iinc 7 1, 3) := by decide +kernel
theorem dX0_climb_126 : decode cX0_climb 126 = .ok (.goto (-52), 3) := by decide +kernel
theorem dX0_climb_129 : decode cX0_climb 129 = .ok (.iinc 6 1, 3) := by decide +kernel
theorem dX0_climb_132 : decode cX0_climb 132 = .ok (.goto (-76), 3) := by decide +kernel
theorem dX0_climb_135 : decode cX0_climb 135 = .ok (.return_, 1) := by decide +kernel
theorem dX0_liftNames_0 : decode cX0_liftNames 0 = .ok (.iconst 0, 1) := by decide +kernel
theorem dX0_liftNames_1 : decode cX0_liftNames 1 = .ok (.istore 5, 2) := by decide +kernel
theorem dX0_liftNames_3 : decode cX0_liftNames 3 = .ok (.aload_n 1, 1) := by decide +kernel
theorem dX0_liftNames_4 : decode cX0_liftNames 4 = .ok (.getfield 44, 3) := by decide +kernel
theorem dX0_liftNames_7 : decode cX0_liftNames 7 = .ok (.iload_n 3, 1) := by decide +kernel
theorem dX0_liftNames_8 : decode cX0_liftNames 8 = .ok (.iaload, 1) := by decide +kernel
theorem dX0_liftNames_9 : decode cX0_liftNames 9 = .ok (.istore 6, 2) := by decide +kernel
theorem dX0_liftNames_11 : decode cX0_liftNames 11 = .ok (.iload 6, 2) := by decide +kernel
theorem dX0_liftNames_13 : decode cX0_liftNames 13 = .ok (.aload_n 1, 1) := by decide +kernel
theorem dX0_liftNames_14 : decode cX0_liftNames 14 = .ok (.getfield 44, 3) := by decide +kernel
theorem dX0_liftNames_17 : decode cX0_liftNames 17 = .ok (.iload_n 3, 1) := by decide +kernel
theorem dX0_liftNames_18 : decode cX0_liftNames 18 = .ok (.iaload, 1) := by decide +kernel
theorem dX0_liftNames_19 : decode cX0_liftNames 19 = .ok (.aload_n 1, 1) := by decide +kernel
theorem dX0_liftNames_20 : decode cX0_liftNames 20 = .ok (.getfield 47, 3) := by decide +kernel
theorem dX0_liftNames_23 : decode cX0_liftNames 23 = .ok (.iload_n 3, 1) := by decide +kernel
theorem dX0_liftNames_24 : decode cX0_liftNames 24 = .ok (.iaload, 1) := by decide +kernel
theorem dX0_liftNames_25 : decode cX0_liftNames 25 = .ok (.iadd, 1) := by decide +kernel
theorem dX0_liftNames_26 : decode cX0_liftNames 26 = .ok (.if_icmp .ge 137, 3) := by decide +kernel
theorem dX0_liftNames_29 : decode cX0_liftNames 29 = .ok (.aload_n 1, 1) := by decide +kernel
theorem dX0_liftNames_30 : decode cX0_liftNames 30 = .ok (.getfield 50, 3) := by decide +kernel
theorem dX0_liftNames_33 : decode cX0_liftNames 33 = .ok (.iload 6, 2) := by decide +kernel
theorem dX0_liftNames_35 : decode cX0_liftNames 35 = .ok (.iaload, 1) := by decide +kernel
theorem dX0_liftNames_36 : decode cX0_liftNames 36 = .ok (.tableswitch 108 0 2 #[28, 50, 93], 28) := by decide +kernel
theorem dX0_liftNames_64 : decode cX0_liftNames 64 = .ok (.iload 5, 2) := by decide +kernel
theorem dX0_liftNames_66 : decode cX0_liftNames 66 = .ok (.aload_n 0, 1) := by decide +kernel
theorem dX0_liftNames_67 : decode cX0_liftNames 67 = .ok (.iload 6, 2) := by decide +kernel
theorem dX0_liftNames_69 : decode cX0_liftNames 69 = .ok (.iconst 1, 1) := by decide +kernel
theorem dX0_liftNames_70 : decode cX0_liftNames 70 = .ok (.aload_n 2, 1) := by decide +kernel
theorem dX0_liftNames_71 : decode cX0_liftNames 71 = .ok (.getfield 53, 3) := by decide +kernel
theorem dX0_liftNames_74 : decode cX0_liftNames 74 = .ok (.iload 6, 2) := by decide +kernel
theorem dX0_liftNames_76 : decode cX0_liftNames 76 = .ok (.iaload, 1) := by decide +kernel
theorem dX0_liftNames_77 : decode cX0_liftNames 77 = .ok (.invokevirtual 58, 3) := by decide +kernel
theorem dX0_liftNames_80 : decode cX0_liftNames 80 = .ok (.ior, 1) := by decide +kernel
theorem dX0_liftNames_81 : decode cX0_liftNames 81 = .ok (.istore 5, 2) := by decide +kernel
theorem dX0_liftNames_83 : decode cX0_liftNames 83 = .ok (.goto 74, 3) := by decide +kernel
theorem dX0_liftNames_86 : decode cX0_liftNames 86 = .ok (.iload 5, 2) := by decide +kernel
theorem dX0_liftNames_88 : decode cX0_liftNames 88 = .ok (.aload_n 0, 1) := by decide +kernel
theorem dX0_liftNames_89 : decode cX0_liftNames 89 = .ok (.iload 6, 2) := by decide +kernel
theorem dX0_liftNames_91 : decode cX0_liftNames 91 = .ok (.aload_n 2, 1) := by decide +kernel
theorem dX0_liftNames_92 : decode cX0_liftNames 92 = .ok (.getfield 62, 3) := by decide +kernel
theorem dX0_liftNames_95 : decode cX0_liftNames 95 = .ok (.iload 6, 2) := by decide +kernel
theorem dX0_liftNames_97 : decode cX0_liftNames 97 = .ok (.iaload, 1) := by decide +kernel
theorem dX0_liftNames_98 : decode cX0_liftNames 98 = .ok (.iconst 1, 1) := by decide +kernel
theorem dX0_liftNames_99 : decode cX0_liftNames 99 = .ok (.if_icmp .eq 10, 3) := by decide +kernel
theorem dX0_liftNames_102 : decode cX0_liftNames 102 = .ok (.iload 6, 2) := by decide +kernel
theorem dX0_liftNames_104 : decode cX0_liftNames 104 = .ok (.iload 4, 2) := by decide +kernel
theorem dX0_liftNames_106 : decode cX0_liftNames 106 = .ok (.if_icmp .ne 7, 3) := by decide +kernel
theorem dX0_liftNames_109 : decode cX0_liftNames 109 = .ok (.iconst 1, 1) := by decide +kernel
theorem dX0_liftNames_110 : decode cX0_liftNames 110 = .ok (.goto 4, 3) := by decide +kernel
theorem dX0_liftNames_113 : decode cX0_liftNames 113 = .ok (.iconst 2, 1) := by decide +kernel
theorem dX0_liftNames_114 : decode cX0_liftNames 114 = .ok (.aload_n 2, 1) := by decide +kernel
theorem dX0_liftNames_115 : decode cX0_liftNames 115 = .ok (.iload 6, 2) := by decide +kernel
theorem dX0_liftNames_117 : decode cX0_liftNames 117 = .ok (.invokevirtual 65, 3) := by decide +kernel
theorem dX0_liftNames_120 : decode cX0_liftNames 120 = .ok (.invokevirtual 58, 3) := by decide +kernel
theorem dX0_liftNames_123 : decode cX0_liftNames 123 = .ok (.ior, 1) := by decide +kernel
theorem dX0_liftNames_124 : decode cX0_liftNames 124 = .ok (.istore 5, 2) := by decide +kernel
theorem dX0_liftNames_126 : decode cX0_liftNames 126 = .ok (.goto 31, 3) := by decide +kernel
theorem dX0_liftNames_129 : decode cX0_liftNames 129 = .ok (.iload 5, 2) := by decide +kernel
theorem dX0_liftNames_131 : decode cX0_liftNames 131 = .ok (.aload_n 0, 1) := by decide +kernel
theorem dX0_liftNames_132 : decode cX0_liftNames 132 = .ok (.aload_n 1, 1) := by decide +kernel
theorem dX0_liftNames_133 : decode cX0_liftNames 133 = .ok (.iload 6, 2) := by decide +kernel
theorem dX0_liftNames_135 : decode cX0_liftNames 135 = .ok (.invokevirtual 69, 3) := by decide +kernel
theorem dX0_liftNames_138 : decode cX0_liftNames 138 = .ok (.ior, 1) := by decide +kernel
theorem dX0_liftNames_139 : decode cX0_liftNames 139 = .ok (.istore 5, 2) := by decide +kernel
theorem dX0_liftNames_141 : decode cX0_liftNames 141 = .ok (.goto 16, 3) := by decide +kernel
theorem dX0_liftNames_144 : decode cX0_liftNames 144 = .ok (.iload 5, 2) := by decide +kernel
theorem dX0_liftNames_146 : decode cX0_liftNames 146 = .ok (.aload_n 0, 1) := by decide +kernel
theorem dX0_liftNames_147 : decode cX0_liftNames 147 = .ok (.aload_n 1, 1) := by decide +kernel
theorem dX0_liftNames_148 : decode cX0_liftNames 148 = .ok (.aload_n 2, 1) := by decide +kernel
theorem dX0_liftNames_149 : decode cX0_liftNames 149 = .ok (.iload 6, 2) := by decide +kernel
theorem dX0_liftNames_151 : decode cX0_liftNames 151 = .ok (.invokevirtual 73, 3) := by decide +kernel
theorem dX0_liftNames_154 : decode cX0_liftNames 154 = .ok (.ior, 1) := by decide +kernel
theorem dX0_liftNames_155 : decode cX0_liftNames 155 = .ok (.istore 5, 2) := by decide +kernel
theorem dX0_liftNames_157 : decode cX0_liftNames 157 = .ok (.iinc 6 1, 3) := by decide +kernel
theorem dX0_liftNames_160 : decode cX0_liftNames 160 = .ok (.goto (-149), 3) := by decide +kernel
theorem dX0_liftNames_163 : decode cX0_liftNames 163 = .ok (.iload 5, 2) := by decide +kernel
theorem dX0_liftNames_165 : decode cX0_liftNames 165 = .ok (.ireturn, 1) := by decide +kernel
theorem dX0_liftOperation_0 : decode cX0_liftOperation 0 = .ok (.aload_n 1, 1) := by decide +kernel
theorem dX0_liftOperation_1 : decode cX0_liftOperation 1 = .ok (.getfield 77, 3) := by decide +kernel
theorem dX0_liftOperation_4 : decode cX0_liftOperation 4 = .ok (.iload_n 2, 1) := by decide +kernel
theorem dX0_liftOperation_5 : decode cX0_liftOperation 5 = .ok (.iaload, 1) := by decide +kernel
theorem dX0_liftOperation_6 : decode cX0_liftOperation 6 = .ok (.istore_n 3, 1) := by decide +kernel
theorem dX0_liftOperation_7 : decode cX0_liftOperation 7 = .ok (.aload_n 1, 1) := by decide +kernel
theorem dX0_liftOperation_8 : decode cX0_liftOperation 8 = .ok (.getfield 80, 3) := by decide +kernel
theorem dX0_liftOperation_11 : decode cX0_liftOperation 11 = .ok (.iload_n 2, 1) := by decide +kernel
theorem dX0_liftOperation_12 : decode cX0_liftOperation 12 = .ok (.iaload, 1) := by decide +kernel
theorem dX0_liftOperation_13 : decode cX0_liftOperation 13 = .ok (.istore 4, 2) := by decide +kernel
theorem dX0_liftOperation_15 : decode cX0_liftOperation 15 = .ok (.aload_n 0, 1) := by decide +kernel
theorem dX0_liftOperation_16 : decode cX0_liftOperation 16 = .ok (.getfield 9, 3) := by decide +kernel
theorem dX0_liftOperation_19 : decode cX0_liftOperation 19 = .ok (.iload_n 3, 1) := by decide +kernel
theorem dX0_liftOperation_20 : decode cX0_liftOperation 20 = .ok (.iaload, 1) := by decide +kernel
theorem dX0_liftOperation_21 : decode cX0_liftOperation 21 = .ok (.ifCond .eq 13, 3) := by decide +kernel
theorem dX0_liftOperation_24 : decode cX0_liftOperation 24 = .ok (.aload_n 0, 1) := by decide +kernel
theorem dX0_liftOperation_25 : decode cX0_liftOperation 25 = .ok (.getfield 9, 3) := by decide +kernel
theorem dX0_liftOperation_28 : decode cX0_liftOperation 28 = .ok (.iload 4, 2) := by decide +kernel
theorem dX0_liftOperation_30 : decode cX0_liftOperation 30 = .ok (.iaload, 1) := by decide +kernel
theorem dX0_liftOperation_31 : decode cX0_liftOperation 31 = .ok (.ifCond .ne 5, 3) := by decide +kernel
theorem dX0_liftOperation_34 : decode cX0_liftOperation 34 = .ok (.iconst 0, 1) := by decide +kernel
theorem dX0_liftOperation_35 : decode cX0_liftOperation 35 = .ok (.ireturn, 1) := by decide +kernel
theorem dX0_liftOperation_36 : decode cX0_liftOperation 36 = .ok (.aload_n 0, 1) := by decide +kernel
theorem dX0_liftOperation_37 : decode cX0_liftOperation 37 = .ok (.getfield 9, 3) := by decide +kernel
theorem dX0_liftOperation_40 : decode cX0_liftOperation 40 = .ok (.iload_n 3, 1) := by decide +kernel
theorem dX0_liftOperation_41 : decode cX0_liftOperation 41 = .ok (.iaload, 1) := by decide +kernel
theorem dX0_liftOperation_42 : decode cX0_liftOperation 42 = .ok (.iconst 2, 1) := by decide +kernel
theorem dX0_liftOperation_43 : decode cX0_liftOperation 43 = .ok (.if_icmp .eq 33, 3) := by decide +kernel
theorem dX0_liftOperation_46 : decode cX0_liftOperation 46 = .ok (.aload_n 0, 1) := by decide +kernel
theorem dX0_liftOperation_47 : decode cX0_liftOperation 47 = .ok (.getfield 9, 3) := by decide +kernel
theorem dX0_liftOperation_50 : decode cX0_liftOperation 50 = .ok (.iload 4, 2) := by decide +kernel
theorem dX0_liftOperation_52 : decode cX0_liftOperation 52 = .ok (.iaload, 1) := by decide +kernel
theorem dX0_liftOperation_53 : decode cX0_liftOperation 53 = .ok (.iconst 2, 1) := by decide +kernel
theorem dX0_liftOperation_54 : decode cX0_liftOperation 54 = .ok (.if_icmp .eq 22, 3) := by decide +kernel
theorem dX0_liftOperation_57 : decode cX0_liftOperation 57 = .ok (.aload_n 1, 1) := by decide +kernel
theorem dX0_liftOperation_58 : decode cX0_liftOperation 58 = .ok (.getfield 83, 3) := by decide +kernel
theorem dX0_liftOperation_61 : decode cX0_liftOperation 61 = .ok (.iload_n 2, 1) := by decide +kernel
theorem dX0_liftOperation_62 : decode cX0_liftOperation 62 = .ok (.iaload, 1) := by decide +kernel
theorem dX0_liftOperation_63 : decode cX0_liftOperation 63 = .ok (.aload_n 0, 1) := by decide +kernel
theorem dX0_liftOperation_64 : decode cX0_liftOperation 64 = .ok (.getfield 15, 3) := by decide +kernel
theorem dX0_liftOperation_67 : decode cX0_liftOperation 67 = .ok (.iload 4, 2) := by decide +kernel
theorem dX0_liftOperation_69 : decode cX0_liftOperation 69 = .ok (.iaload, 1) := by decide +kernel
theorem dX0_liftOperation_70 : decode cX0_liftOperation 70 = .ok (.invokestatic 86, 3) := by decide +kernel
theorem dX0_liftOperation_73 : decode cX0_liftOperation 73 = .ok (.ifCond .eq 11, 3) := by decide +kernel
theorem dX0_liftOperation_76 : decode cX0_liftOperation 76 = .ok (.aload_n 0, 1) := by decide +kernel
theorem dX0_liftOperation_77 : decode cX0_liftOperation 77 = .ok (.iload_n 2, 1) := by decide +kernel
theorem dX0_liftOperation_78 : decode cX0_liftOperation 78 = .ok (.iconst 2, 1) := by decide +kernel
theorem dX0_liftOperation_79 : decode cX0_liftOperation 79 = .ok (.iconst 0, 1) := by decide +kernel
theorem dX0_liftOperation_80 : decode cX0_liftOperation 80 = .ok (.invokevirtual 58, 3) := by decide +kernel
theorem dX0_liftOperation_83 : decode cX0_liftOperation 83 = .ok (.ireturn, 1) := by decide +kernel
theorem dX0_liftOperation_84 : decode cX0_liftOperation 84 = .ok (.aload_n 0, 1) := by decide +kernel
theorem dX0_liftOperation_85 : decode cX0_liftOperation 85 = .ok (.iload_n 2, 1) := by decide +kernel
theorem dX0_liftOperation_86 : decode cX0_liftOperation 86 = .ok (.iconst 1, 1) := by decide +kernel
theorem dX0_liftOperation_87 : decode cX0_liftOperation 87 = .ok (.aload_n 1, 1) := by decide +kernel
theorem dX0_liftOperation_88 : decode cX0_liftOperation 88 = .ok (.getfield 83, 3) := by decide +kernel
theorem dX0_liftOperation_91 : decode cX0_liftOperation 91 = .ok (.iload_n 2, 1) := by decide +kernel
theorem dX0_liftOperation_92 : decode cX0_liftOperation 92 = .ok (.iaload, 1) := by decide +kernel
theorem dX0_liftOperation_93 : decode cX0_liftOperation 93 = .ok (.aload_n 0, 1) := by decide +kernel
theorem dX0_liftOperation_94 : decode cX0_liftOperation 94 = .ok (.getfield 15, 3) := by decide +kernel
theorem dX0_liftOperation_97 : decode cX0_liftOperation 97 = .ok (.iload_n 3, 1) := by decide +kernel
theorem dX0_liftOperation_98 : decode cX0_liftOperation 98 = .ok (.iaload, 1) := by decide +kernel
theorem dX0_liftOperation_99 : decode cX0_liftOperation 99 = .ok (.aload_n 0, 1) := by decide +kernel
theorem dX0_liftOperation_100 : decode cX0_liftOperation 100 = .ok (.getfield 15, 3) := by decide +kernel
theorem dX0_liftOperation_103 : decode cX0_liftOperation 103 = .ok (.iload 4, 2) := by decide +kernel
theorem dX0_liftOperation_105 : decode cX0_liftOperation 105 = .ok (.iaload, 1) := by decide +kernel
theorem dX0_liftOperation_106 : decode cX0_liftOperation 106 = .ok (.invokestatic 92, 3) := by decide +kernel
theorem dX0_liftOperation_109 : decode cX0_liftOperation 109 = .ok (.invokevirtual 58, 3) := by decide +kernel
theorem dX0_liftOperation_112 : decode cX0_liftOperation 112 = .ok (.ireturn, 1) := by decide +kernel
theorem dX0_liftJoin_0 : decode cX0_liftJoin 0 = .ok (.iconst 0, 1) := by decide +kernel
theorem dX0_liftJoin_1 : decode cX0_liftJoin 1 = .ok (.istore 4, 2) := by decide +kernel
theorem dX0_liftJoin_3 : decode cX0_liftJoin 3 = .ok (.iconst 3, 1) := by decide +kernel
theorem dX0_liftJoin_4 : decode cX0_liftJoin 4 = .ok (.iload_n 3, 1) := by decide +kernel
theorem dX0_liftJoin_5 : decode cX0_liftJoin 5 = .ok (.imul, 1) := by decide +kernel
theorem dX0_liftJoin_6 : decode cX0_liftJoin 6 = .ok (.istore 5, 2) := by decide +kernel
theorem dX0_liftJoin_8 : decode cX0_liftJoin 8 = .ok (.iload 5, 2) := by decide +kernel
theorem dX0_liftJoin_10 : decode cX0_liftJoin 10 = .ok (.iconst 3, 1) := by decide +kernel
theorem dX0_liftJoin_11 : decode cX0_liftJoin 11 = .ok (.iload_n 3, 1) := by decide +kernel
theorem dX0_liftJoin_12 : decode cX0_liftJoin 12 = .ok (.imul, 1) := by decide +kernel
theorem dX0_liftJoin_13 : decode cX0_liftJoin 13 = .ok (.aload_n 1, 1) := by decide +kernel
theorem dX0_liftJoin_14 : decode cX0_liftJoin 14 = .ok (.getfield 96, 3) := by decide +kernel
theorem dX0_liftJoin_17 : decode cX0_liftJoin 17 = .ok (.iload_n 3, 1) := by decide +kernel
theorem dX0_liftJoin_18 : decode cX0_liftJoin 18 = .ok (.iaload, 1) := by decide +kernel
theorem dX0_liftJoin_19 : decode cX0_liftJoin 19 = .ok (.iadd, 1) := by decide +kernel
theorem dX0_liftJoin_20 : decode cX0_liftJoin 20 = .ok (.if_icmp .ge 63, 3) := by decide +kernel
theorem dX0_liftJoin_23 : decode cX0_liftJoin 23 = .ok (.aload_n 1, 1) := by decide +kernel
theorem dX0_liftJoin_24 : decode cX0_liftJoin 24 = .ok (.getfield 99, 3) := by decide +kernel
theorem dX0_liftJoin_27 : decode cX0_liftJoin 27 = .ok (.iload 5, 2) := by decide +kernel
theorem dX0_liftJoin_29 : decode cX0_liftJoin 29 = .ok (.iaload, 1) := by decide +kernel
theorem dX0_liftJoin_30 : decode cX0_liftJoin 30 = .ok (.istore 6, 2) := by decide +kernel
theorem dX0_liftJoin_32 : decode cX0_liftJoin 32 = .ok (.aload_n 0, 1) := by decide +kernel
theorem dX0_liftJoin_33 : decode cX0_liftJoin 33 = .ok (.aload_n 2, 1) := by decide +kernel
theorem dX0_liftJoin_34 : decode cX0_liftJoin 34 = .ok (.aload_n 1, 1) := by decide +kernel
theorem dX0_liftJoin_35 : decode cX0_liftJoin 35 = .ok (.getfield 102, 3) := by decide +kernel
theorem dX0_liftJoin_38 : decode cX0_liftJoin 38 = .ok (.iload 5, 2) := by decide +kernel
theorem dX0_liftJoin_40 : decode cX0_liftJoin 40 = .ok (.iaload, 1) := by decide +kernel
theorem dX0_liftJoin_41 : decode cX0_liftJoin 41 = .ok (.aload_n 1, 1) := by decide +kernel
theorem dX0_liftJoin_42 : decode cX0_liftJoin 42 = .ok (.getfield 105, 3) := by decide +kernel
theorem dX0_liftJoin_45 : decode cX0_liftJoin 45 = .ok (.iload_n 3, 1) := by decide +kernel
theorem dX0_liftJoin_46 : decode cX0_liftJoin 46 = .ok (.iaload, 1) := by decide +kernel
theorem dX0_liftJoin_47 : decode cX0_liftJoin 47 = .ok (.invokevirtual 108, 3) := by decide +kernel
theorem dX0_liftJoin_50 : decode cX0_liftJoin 50 = .ok (.ifCond .eq 27, 3) := by decide +kernel
theorem dX0_liftJoin_53 : decode cX0_liftJoin 53 = .ok (.iload 4, 2) := by decide +kernel
theorem dX0_liftJoin_55 : decode cX0_liftJoin 55 = .ok (.aload_n 0, 1) := by decide +kernel
theorem dX0_liftJoin_56 : decode cX0_liftJoin 56 = .ok (.iload_n 3, 1) := by decide +kernel
theorem dX0_liftJoin_57 : decode cX0_liftJoin 57 = .ok (.aload_n 0, 1) := by decide +kernel
theorem dX0_liftJoin_58 : decode cX0_liftJoin 58 = .ok (.getfield 9, 3) := by decide +kernel
theorem dX0_liftJoin_61 : decode cX0_liftJoin 61 = .ok (.iload 6, 2) := by decide +kernel
theorem dX0_liftJoin_63 : decode cX0_liftJoin 63 = .ok (.iaload, 1) := by decide +kernel
theorem dX0_liftJoin_64 : decode cX0_liftJoin 64 = .ok (.aload_n 0, 1) := by decide +kernel
theorem dX0_liftJoin_65 : decode cX0_liftJoin 65 = .ok (.getfield 15, 3) := by decide +kernel
theorem dX0_liftJoin_68 : decode cX0_liftJoin 68 = .ok (.iload 6, 2) := by decide +kernel
theorem dX0_liftJoin_70 : decode cX0_liftJoin 70 = .ok (.iaload, 1) := by decide +kernel
theorem dX0_liftJoin_71 : decode cX0_liftJoin 71 = .ok (.invokevirtual 58, 3) := by decide +kernel
theorem dX0_liftJoin_74 : decode cX0_liftJoin 74 = .ok (.ior, 1) := by decide +kernel
theorem dX0_liftJoin_75 : decode cX0_liftJoin 75 = .ok (.istore 4, 2) := by decide +kernel
theorem dX0_liftJoin_77 : decode cX0_liftJoin 77 = .ok (.iinc 5 1, 3) := by decide +kernel
theorem dX0_liftJoin_80 : decode cX0_liftJoin 80 = .ok (.goto (-72), 3) := by decide +kernel
theorem dX0_liftJoin_83 : decode cX0_liftJoin 83 = .ok (.iload 4, 2) := by decide +kernel
theorem dX0_liftJoin_85 : decode cX0_liftJoin 85 = .ok (.ireturn, 1) := by decide +kernel
theorem dX0_lift_0 : decode cX0_lift 0 = .ok (.aload_n 0, 1) := by decide +kernel
theorem dX0_lift_1 : decode cX0_lift 1 = .ok (.getfield 9, 3) := by decide +kernel
theorem dX0_lift_4 : decode cX0_lift 4 = .ok (.iload_n 1, 1) := by decide +kernel
theorem dX0_lift_5 : decode cX0_lift 5 = .ok (.iaload, 1) := by decide +kernel
theorem dX0_lift_6 : decode cX0_lift 6 = .ok (.iconst 1, 1) := by decide +kernel
theorem dX0_lift_7 : decode cX0_lift 7 = .ok (.if_icmp .ne 22, 3) := by decide +kernel
theorem dX0_lift_10 : decode cX0_lift 10 = .ok (.iload_n 2, 1) := by decide +kernel
theorem dX0_lift_11 : decode cX0_lift 11 = .ok (.iconst 1, 1) := by decide +kernel
theorem dX0_lift_12 : decode cX0_lift 12 = .ok (.if_icmp .ne 17, 3) := by decide +kernel
theorem dX0_lift_15 : decode cX0_lift 15 = .ok (.aload_n 0, 1) := by decide +kernel
theorem dX0_lift_16 : decode cX0_lift 16 = .ok (.getfield 15, 3) := by decide +kernel
theorem dX0_lift_19 : decode cX0_lift 19 = .ok (.iload_n 1, 1) := by decide +kernel
theorem dX0_lift_20 : decode cX0_lift 20 = .ok (.iaload, 1) := by decide +kernel
theorem dX0_lift_21 : decode cX0_lift 21 = .ok (.iload_n 3, 1) := by decide +kernel
theorem dX0_lift_22 : decode cX0_lift 22 = .ok (.if_icmp .eq 7, 3) := by decide +kernel
theorem dX0_lift_25 : decode cX0_lift 25 = .ok (.iconst 1, 1) := by decide +kernel
theorem dX0_lift_26 : decode cX0_lift 26 = .ok (.goto 4, 3) := by decide +kernel
theorem dX0_lift_29 : decode cX0_lift 29 = .ok (.iconst 0, 1) := by decide +kernel
theorem dX0_lift_30 : decode cX0_lift 30 = .ok (.istore 4, 2) := by decide +kernel
theorem dX0_lift_32 : decode cX0_lift 32 = .ok (.iload_n 2, 1) := by decide +kernel
theorem dX0_lift_33 : decode cX0_lift 33 = .ok (.aload_n 0, 1) := by decide +kernel
theorem dX0_lift_34 : decode cX0_lift 34 = .ok (.getfield 9, 3) := by decide +kernel
theorem dX0_lift_37 : decode cX0_lift 37 = .ok (.iload_n 1, 1) := by decide +kernel
theorem dX0_lift_38 : decode cX0_lift 38 = .ok (.iaload, 1) := by decide +kernel
theorem dX0_lift_39 : decode cX0_lift 39 = .ok (.if_icmp .gt 10, 3) := by decide +kernel
theorem dX0_lift_42 : decode cX0_lift 42 = .ok (.iload 4, 2) := by decide +kernel
theorem dX0_lift_44 : decode cX0_lift 44 = .ok (.ifCond .ne 5, 3) := by decide +kernel
theorem dX0_lift_47 : decode cX0_lift 47 = .ok (.iconst 0, 1) := by decide +kernel
theorem dX0_lift_48 : decode cX0_lift 48 = .ok (.ireturn, 1) := by decide +kernel
theorem dX0_lift_49 : decode cX0_lift 49 = .ok (.aload_n 0, 1) := by decide +kernel
theorem dX0_lift_50 : decode cX0_lift 50 = .ok (.getfield 9, 3) := by decide +kernel
theorem dX0_lift_53 : decode cX0_lift 53 = .ok (.iload_n 1, 1) := by decide +kernel
theorem dX0_lift_54 : decode cX0_lift 54 = .ok (.iload 4, 2) := by decide +kernel
theorem dX0_lift_56 : decode cX0_lift 56 = .ok (.ifCond .eq 7, 3) := by decide +kernel
theorem dX0_lift_59 : decode cX0_lift 59 = .ok (.iconst 2, 1) := by decide +kernel
theorem dX0_lift_60 : decode cX0_lift 60 = .ok (.goto 4, 3) := by decide +kernel
theorem dX0_lift_63 : decode cX0_lift 63 = .ok (.iload_n 2, 1) := by decide +kernel
theorem dX0_lift_64 : decode cX0_lift 64 = .ok (.iastore, 1) := by decide +kernel
theorem dX0_lift_65 : decode cX0_lift 65 = .ok (.aload_n 0, 1) := by decide +kernel
theorem dX0_lift_66 : decode cX0_lift 66 = .ok (.getfield 15, 3) := by decide +kernel
theorem dX0_lift_69 : decode cX0_lift 69 = .ok (.iload_n 1, 1) := by decide +kernel
theorem dX0_lift_70 : decode cX0_lift 70 = .ok (.iload_n 3, 1) := by decide +kernel
theorem dX0_lift_71 : decode cX0_lift 71 = .ok (.iastore, 1) := by decide +kernel
theorem dX0_lift_72 : decode cX0_lift 72 = .ok (.iconst 1, 1) := by decide +kernel
theorem dX0_lift_73 : decode cX0_lift 73 = .ok (.ireturn, 1) := by decide +kernel
theorem dX0_openEdges_0 : decode cX0_openEdges 0 = .ok (.iconst 0, 1) := by decide +kernel
theorem dX0_openEdges_1 : decode cX0_openEdges 1 = .ok (.istore 5, 2) := by decide +kernel
theorem dX0_openEdges_3 : decode cX0_openEdges 3 = .ok (.iconst 0, 1) := by decide +kernel
theorem dX0_openEdges_4 : decode cX0_openEdges 4 = .ok (.istore 6, 2) := by decide +kernel
theorem dX0_openEdges_6 : decode cX0_openEdges 6 = .ok (.iload 6, 2) := by decide +kernel
theorem dX0_openEdges_8 : decode cX0_openEdges 8 = .ok (.iconst 2, 1) := by decide +kernel
theorem dX0_openEdges_9 : decode cX0_openEdges 9 = .ok (.if_icmp .ge 83, 3) := by decide +kernel
theorem dX0_openEdges_12 : decode cX0_openEdges 12 = .ok (.iconst 2, 1) := by decide +kernel
theorem dX0_openEdges_13 : decode cX0_openEdges 13 = .ok (.iload_n 3, 1) := by decide +kernel
theorem dX0_openEdges_14 : decode cX0_openEdges 14 = .ok (.imul, 1) := by decide +kernel
theorem dX0_openEdges_15 : decode cX0_openEdges 15 = .ok (.iload 6, 2) := by decide +kernel
theorem dX0_openEdges_17 : decode cX0_openEdges 17 = .ok (.iadd, 1) := by decide +kernel
theorem dX0_openEdges_18 : decode cX0_openEdges 18 = .ok (.istore 7, 2) := by decide +kernel
theorem dX0_openEdges_20 : decode cX0_openEdges 20 = .ok (.aload_n 2, 1) := by decide +kernel
theorem dX0_openEdges_21 : decode cX0_openEdges 21 = .ok (.getfield 112, 3) := by decide +kernel
theorem dX0_openEdges_24 : decode cX0_openEdges 24 = .ok (.iload 7, 2) := by decide +kernel
theorem dX0_openEdges_26 : decode cX0_openEdges 26 = .ok (.iaload, 1) := by decide +kernel
theorem dX0_openEdges_27 : decode cX0_openEdges 27 = .ok (.bipush (-9), 2) := by decide +kernel
theorem dX0_openEdges_29 : decode cX0_openEdges 29 = .ok (.if_icmp .eq 57, 3) := by decide +kernel
theorem dX0_openEdges_32 : decode cX0_openEdges 32 = .ok (.aload_n 0, 1) := by decide +kernel
theorem dX0_openEdges_33 : decode cX0_openEdges 33 = .ok (.getfield 21, 3) := by decide +kernel
theorem dX0_openEdges_36 : decode cX0_openEdges 36 = .ok (.iload 7, 2) := by decide +kernel
theorem dX0_openEdges_38 : decode cX0_openEdges 38 = .ok (.iaload, 1) := by decide +kernel
theorem dX0_openEdges_39 : decode cX0_openEdges 39 = .ok (.iconst 1, 1) := by decide +kernel
theorem dX0_openEdges_40 : decode cX0_openEdges 40 = .ok (.if_icmp .eq 46, 3) := by decide +kernel
theorem dX0_openEdges_43 : decode cX0_openEdges 43 = .ok (.iload 4, 2) := by decide +kernel
theorem dX0_openEdges_45 : decode cX0_openEdges 45 = .ok (.ifCond .ne 17, 3) := by decide +kernel
theorem dX0_openEdges_48 : decode cX0_openEdges 48 = .ok (.aload_n 0, 1) := by decide +kernel
theorem dX0_openEdges_49 : decode cX0_openEdges 49 = .ok (.aload_n 1, 1) := by decide +kernel
theorem dX0_openEdges_50 : decode cX0_openEdges 50 = .ok (.iload_n 3, 1) := by decide +kernel
theorem dX0_openEdges_51 : decode cX0_openEdges 51 = .ok (.iload 6, 2) := by decide +kernel
theorem dX0_openEdges_53 : decode cX0_openEdges 53 = .ok (.invokevirtual 115, 3) := by decide +kernel
theorem dX0_openEdges_56 : decode cX0_openEdges 56 = .ok (.ifCond .ne 6, 3) := by decide +kernel
theorem dX0_openEdges_59 : decode cX0_openEdges 59 = .ok (.goto 27, 3) := by decide +kernel
theorem dX0_openEdges_62 : decode cX0_openEdges 62 = .ok (.aload_n 0, 1) := by decide +kernel
theorem dX0_openEdges_63 : decode cX0_openEdges 63 = .ok (.getfield 21, 3) := by decide +kernel
theorem dX0_openEdges_66 : decode cX0_openEdges 66 = .ok (.iload 7, 2) := by decide +kernel
theorem dX0_openEdges_68 : decode cX0_openEdges 68 = .ok (.iconst 1, 1) := by decide +kernel
theorem dX0_openEdges_69 : decode cX0_openEdges 69 = .ok (.iastore, 1) := by decide +kernel
theorem dX0_openEdges_70 : decode cX0_openEdges 70 = .ok (.aload_n 0, 1) := by decide +kernel
theorem dX0_openEdges_71 : decode cX0_openEdges 71 = .ok (.getfield 18, 3) := by decide +kernel
theorem dX0_openEdges_74 : decode cX0_openEdges 74 = .ok (.aload_n 2, 1) := by decide +kernel
theorem dX0_openEdges_75 : decode cX0_openEdges 75 = .ok (.getfield 112, 3) := by decide +kernel
theorem dX0_openEdges_78 : decode cX0_openEdges 78 = .ok (.iload 7, 2) := by decide +kernel
theorem dX0_openEdges_80 : decode cX0_openEdges 80 = .ok (.iaload, 1) := by decide +kernel
theorem dX0_openEdges_81 : decode cX0_openEdges 81 = .ok (.iconst 1, 1) := by decide +kernel
theorem dX0_openEdges_82 : decode cX0_openEdges 82 = .ok (.iastore, 1) := by decide +kernel
theorem dX0_openEdges_83 : decode cX0_openEdges 83 = .ok (.iconst 1, 1) := by decide +kernel
theorem dX0_openEdges_84 : decode cX0_openEdges 84 = .ok (.istore 5, 2) := by decide +kernel
theorem dX0_openEdges_86 : decode cX0_openEdges 86 = .ok (.iinc 6 1, 3) := by decide +kernel
theorem dX0_openEdges_89 : decode cX0_openEdges 89 = .ok (.goto (-83), 3) := by decide +kernel
theorem dX0_openEdges_92 : decode cX0_openEdges 92 = .ok (.iload 5, 2) := by decide +kernel
theorem dX0_openEdges_94 : decode cX0_openEdges 94 = .ok (.ireturn, 1) := by decide +kernel
theorem dX0_goes_0 : decode cX0_goes 0 = .ok (.aload_n 1, 1) := by decide +kernel
theorem dX0_goes_1 : decode cX0_goes 1 = .ok (.getfield 119, 3) := by decide +kernel
theorem dX0_goes_4 : decode cX0_goes 4 = .ok (.iload_n 2, 1) := by decide +kernel
theorem dX0_goes_5 : decode cX0_goes 5 = .ok (.iaload, 1) := by decide +kernel
theorem dX0_goes_6 : decode cX0_goes 6 = .ok (.iconst 1, 1) := by decide +kernel
theorem dX0_goes_7 : decode cX0_goes 7 = .ok (.if_icmp .eq 5, 3) := by decide +kernel
theorem dX0_goes_10 : decode cX0_goes 10 = .ok (.iconst 1, 1) := by decide +kernel
theorem dX0_goes_11 : decode cX0_goes 11 = .ok (.ireturn, 1) := by decide +kernel
theorem dX0_goes_12 : decode cX0_goes 12 = .ok (.aload_n 1, 1) := by decide +kernel
theorem dX0_goes_13 : decode cX0_goes 13 = .ok (.getfield 122, 3) := by decide +kernel
theorem dX0_goes_16 : decode cX0_goes 16 = .ok (.iload_n 2, 1) := by decide +kernel
theorem dX0_goes_17 : decode cX0_goes 17 = .ok (.iaload, 1) := by decide +kernel
theorem dX0_goes_18 : decode cX0_goes 18 = .ok (.istore 4, 2) := by decide +kernel
theorem dX0_goes_20 : decode cX0_goes 20 = .ok (.aload_n 0, 1) := by decide +kernel
theorem dX0_goes_21 : decode cX0_goes 21 = .ok (.getfield 9, 3) := by decide +kernel
theorem dX0_goes_24 : decode cX0_goes 24 = .ok (.iload 4, 2) := by decide +kernel
theorem dX0_goes_26 : decode cX0_goes 26 = .ok (.iaload, 1) := by decide +kernel
theorem dX0_goes_27 : decode cX0_goes 27 = .ok (.iconst 2, 1) := by decide +kernel
theorem dX0_goes_28 : decode cX0_goes 28 = .ok (.if_icmp .eq 28, 3) := by decide +kernel
theorem dX0_goes_31 : decode cX0_goes 31 = .ok (.aload_n 0, 1) := by decide +kernel
theorem dX0_goes_32 : decode cX0_goes 32 = .ok (.getfield 9, 3) := by decide +kernel
theorem dX0_goes_35 : decode cX0_goes 35 = .ok (.iload 4, 2) := by decide +kernel
theorem dX0_goes_37 : decode cX0_goes 37 = .ok (.iaload, 1) := by decide +kernel
theorem dX0_goes_38 : decode cX0_goes 38 = .ok (.iconst 1, 1) := by decide +kernel
theorem dX0_goes_39 : decode cX0_goes 39 = .ok (.if_icmp .ne 21, 3) := by decide +kernel
theorem dX0_goes_42 : decode cX0_goes 42 = .ok (.aload_n 0, 1) := by decide +kernel
theorem dX0_goes_43 : decode cX0_goes 43 = .ok (.getfield 15, 3) := by decide +kernel
theorem dX0_goes_46 : decode cX0_goes 46 = .ok (.iload 4, 2) := by decide +kernel
theorem dX0_goes_48 : decode cX0_goes 48 = .ok (.iaload, 1) := by decide +kernel
theorem dX0_goes_49 : decode cX0_goes 49 = .ok (.invokestatic 125, 3) := by decide +kernel
theorem dX0_goes_52 : decode cX0_goes 52 = .ok (.iload_n 3, 1) := by decide +kernel
theorem dX0_goes_53 : decode cX0_goes 53 = .ok (.if_icmp .ne 7, 3) := by decide +kernel
theorem dX0_goes_56 : decode cX0_goes 56 = .ok (.iconst 1, 1) := by decide +kernel
theorem dX0_goes_57 : decode cX0_goes 57 = .ok (.goto 4, 3) := by decide +kernel
theorem dX0_goes_60 : decode cX0_goes 60 = .ok (.iconst 0, 1) := by decide +kernel
theorem dX0_goes_61 : decode cX0_goes 61 = .ok (.ireturn, 1) := by decide +kernel
theorem dX0_isOpen_0 : decode cX0_isOpen 0 = .ok (.iconst 2, 1) := by decide +kernel
theorem dX0_isOpen_1 : decode cX0_isOpen 1 = .ok (.iload_n 2, 1) := by decide +kernel
theorem dX0_isOpen_2 : decode cX0_isOpen 2 = .ok (.imul, 1) := by decide +kernel
theorem dX0_isOpen_3 : decode cX0_isOpen 3 = .ok (.istore 4, 2) := by decide +kernel
theorem dX0_isOpen_5 : decode cX0_isOpen 5 = .ok (.iload 4, 2) := by decide +kernel
theorem dX0_isOpen_7 : decode cX0_isOpen 7 = .ok (.iconst 2, 1) := by decide +kernel
theorem dX0_isOpen_8 : decode cX0_isOpen 8 = .ok (.iload_n 2, 1) := by decide +kernel
theorem dX0_isOpen_9 : decode cX0_isOpen 9 = .ok (.imul, 1) := by decide +kernel
theorem dX0_isOpen_10 : decode cX0_isOpen 10 = .ok (.iconst 2, 1) := by decide +kernel
theorem dX0_isOpen_11 : decode cX0_isOpen 11 = .ok (.iadd, 1) := by decide +kernel
theorem dX0_isOpen_12 : decode cX0_isOpen 12 = .ok (.if_icmp .ge 33, 3) := by decide +kernel
theorem dX0_isOpen_15 : decode cX0_isOpen 15 = .ok (.aload_n 0, 1) := by decide +kernel
theorem dX0_isOpen_16 : decode cX0_isOpen 16 = .ok (.getfield 21, 3) := by decide +kernel
theorem dX0_isOpen_19 : decode cX0_isOpen 19 = .ok (.iload 4, 2) := by decide +kernel
theorem dX0_isOpen_21 : decode cX0_isOpen 21 = .ok (.iaload, 1) := by decide +kernel
theorem dX0_isOpen_22 : decode cX0_isOpen 22 = .ok (.iconst 1, 1) := by decide +kernel
theorem dX0_isOpen_23 : decode cX0_isOpen 23 = .ok (.if_icmp .ne 16, 3) := by decide +kernel
theorem dX0_isOpen_26 : decode cX0_isOpen 26 = .ok (.aload_n 1, 1) := by decide +kernel
theorem dX0_isOpen_27 : decode cX0_isOpen 27 = .ok (.getfield 112, 3) := by decide +kernel
theorem dX0_isOpen_30 : decode cX0_isOpen 30 = .ok (.iload 4, 2) := by decide +kernel
theorem dX0_isOpen_32 : decode cX0_isOpen 32 = .ok (.iaload, 1) := by decide +kernel
theorem dX0_isOpen_33 : decode cX0_isOpen 33 = .ok (.iload_n 3, 1) := by decide +kernel
theorem dX0_isOpen_34 : decode cX0_isOpen 34 = .ok (.if_icmp .ne 5, 3) := by decide +kernel
theorem dX0_isOpen_37 : decode cX0_isOpen 37 = .ok (.iconst 1, 1) := by decide +kernel
theorem dX0_isOpen_38 : decode cX0_isOpen 38 = .ok (.ireturn, 1) := by decide +kernel
theorem dX0_isOpen_39 : decode cX0_isOpen 39 = .ok (.iinc 4 1, 3) := by decide +kernel
theorem dX0_isOpen_42 : decode cX0_isOpen 42 = .ok (.goto (-37), 3) := by decide +kernel
theorem dX0_isOpen_45 : decode cX0_isOpen 45 = .ok (.iconst 0, 1) := by decide +kernel
theorem dX0_isOpen_46 : decode cX0_isOpen 46 = .ok (.ireturn, 1) := by decide +kernel
theorem dX0_namesThatAre_0 : decode cX0_namesThatAre 0 = .ok (.iconst 0, 1) := by decide +kernel
theorem dX0_namesThatAre_1 : decode cX0_namesThatAre 1 = .ok (.istore_n 3, 1) := by decide +kernel
theorem dX0_namesThatAre_2 : decode cX0_namesThatAre 2 = .ok (.iconst 0, 1) := by decide +kernel
theorem dX0_namesThatAre_3 : decode cX0_namesThatAre 3 = .ok (.istore 4, 2) := by decide +kernel
theorem dX0_namesThatAre_5 : decode cX0_namesThatAre 5 = .ok (.iload 4, 2) := by decide +kernel
theorem dX0_namesThatAre_7 : decode cX0_namesThatAre 7 = .ok (.aload_n 2, 1) := by decide +kernel
theorem dX0_namesThatAre_8 : decode cX0_namesThatAre 8 = .ok (.getfield 128, 3) := by decide +kernel
theorem dX0_namesThatAre_11 : decode cX0_namesThatAre 11 = .ok (.if_icmp .ge 28, 3) := by decide +kernel
theorem dX0_namesThatAre_14 : decode cX0_namesThatAre 14 = .ok (.iload_n 3, 1) := by decide +kernel
theorem dX0_namesThatAre_15 : decode cX0_namesThatAre 15 = .ok (.aload_n 0, 1) := by decide +kernel
theorem dX0_namesThatAre_16 : decode cX0_namesThatAre 16 = .ok (.getfield 9, 3) := by decide +kernel
theorem dX0_namesThatAre_19 : decode cX0_namesThatAre 19 = .ok (.iload 4, 2) := by decide +kernel
theorem dX0_namesThatAre_21 : decode cX0_namesThatAre 21 = .ok (.iaload, 1) := by decide +kernel
theorem dX0_namesThatAre_22 : decode cX0_namesThatAre 22 = .ok (.iload_n 1, 1) := by decide +kernel
theorem dX0_namesThatAre_23 : decode cX0_namesThatAre 23 = .ok (.if_icmp .ne 7, 3) := by decide +kernel
theorem dX0_namesThatAre_26 : decode cX0_namesThatAre 26 = .ok (.iconst 1, 1) := by decide +kernel
theorem dX0_namesThatAre_27 : decode cX0_namesThatAre 27 = .ok (.goto 4, 3) := by decide +kernel
theorem dX0_namesThatAre_30 : decode cX0_namesThatAre 30 = .ok (.iconst 0, 1) := by decide +kernel
theorem dX0_namesThatAre_31 : decode cX0_namesThatAre 31 = .ok (.iadd, 1) := by decide +kernel
theorem dX0_namesThatAre_32 : decode cX0_namesThatAre 32 = .ok (.istore_n 3, 1) := by decide +kernel
theorem dX0_namesThatAre_33 : decode cX0_namesThatAre 33 = .ok (.iinc 4 1, 3) := by decide +kernel
theorem dX0_namesThatAre_36 : decode cX0_namesThatAre 36 = .ok (.goto (-31), 3) := by decide +kernel
theorem dX0_namesThatAre_39 : decode cX0_namesThatAre 39 = .ok (.iload_n 3, 1) := by decide +kernel
theorem dX0_namesThatAre_40 : decode cX0_namesThatAre 40 = .ok (.ireturn, 1) := by decide +kernel
theorem dX0_liveBlocks_0 : decode cX0_liveBlocks 0 = .ok (.iconst 0, 1) := by decide +kernel
theorem dX0_liveBlocks_1 : decode cX0_liveBlocks 1 = .ok (.istore_n 2, 1) := by decide +kernel
theorem dX0_liveBlocks_2 : decode cX0_liveBlocks 2 = .ok (.iconst 0, 1) := by decide +kernel
theorem dX0_liveBlocks_3 : decode cX0_liveBlocks 3 = .ok (.istore_n 3, 1) := by decide +kernel
theorem dX0_liveBlocks_4 : decode cX0_liveBlocks 4 = .ok (.iload_n 3, 1) := by decide +kernel
theorem dX0_liveBlocks_5 : decode cX0_liveBlocks 5 = .ok (.aload_n 1, 1) := by decide +kernel
theorem dX0_liveBlocks_6 : decode cX0_liveBlocks 6 = .ok (.getfield 30, 3) := by decide +kernel
theorem dX0_liveBlocks_9 : decode cX0_liveBlocks 9 = .ok (.if_icmp .ge 18, 3) := by decide +kernel
theorem dX0_liveBlocks_12 : decode cX0_liveBlocks 12 = .ok (.iload_n 2, 1) := by decide +kernel
theorem dX0_liveBlocks_13 : decode cX0_liveBlocks 13 = .ok (.aload_n 0, 1) := by decide +kernel
theorem dX0_liveBlocks_14 : decode cX0_liveBlocks 14 = .ok (.getfield 18, 3) := by decide +kernel
theorem dX0_liveBlocks_17 : decode cX0_liveBlocks 17 = .ok (.iload_n 3, 1) := by decide +kernel
theorem dX0_liveBlocks_18 : decode cX0_liveBlocks 18 = .ok (.iaload, 1) := by decide +kernel
theorem dX0_liveBlocks_19 : decode cX0_liveBlocks 19 = .ok (.iadd, 1) := by decide +kernel
theorem dX0_liveBlocks_20 : decode cX0_liveBlocks 20 = .ok (.istore_n 2, 1) := by decide +kernel
theorem dX0_liveBlocks_21 : decode cX0_liveBlocks 21 = .ok (.iinc 3 1, 3) := by decide +kernel
theorem dX0_liveBlocks_24 : decode cX0_liveBlocks 24 = .ok (.goto (-20), 3) := by decide +kernel
theorem dX0_liveBlocks_27 : decode cX0_liveBlocks 27 = .ok (.iload_n 2, 1) := by decide +kernel
theorem dX0_liveBlocks_28 : decode cX0_liveBlocks 28 = .ok (.ireturn, 1) := by decide +kernel
theorem dX0_liveEdges_0 : decode cX0_liveEdges 0 = .ok (.iconst 0, 1) := by decide +kernel
theorem dX0_liveEdges_1 : decode cX0_liveEdges 1 = .ok (.istore_n 1, 1) := by decide +kernel
theorem dX0_liveEdges_2 : decode cX0_liveEdges 2 = .ok (.iconst 0, 1) := by decide +kernel
theorem dX0_liveEdges_3 : decode cX0_liveEdges 3 = .ok (.istore_n 2, 1) := by decide +kernel
theorem dX0_liveEdges_4 : decode cX0_liveEdges 4 = .ok (.iload_n 2, 1) := by decide +kernel
theorem dX0_liveEdges_5 : decode cX0_liveEdges 5 = .ok (.bipush 16, 2) := by decide +kernel
theorem dX0_liveEdges_7 : decode cX0_liveEdges 7 = .ok (.if_icmp .ge 18, 3) := by decide +kernel
theorem dX0_liveEdges_10 : decode cX0_liveEdges 10 = .ok (.iload_n 1, 1) := by decide +kernel
theorem dX0_liveEdges_11 : decode cX0_liveEdges 11 = .ok (.aload_n 0, 1) := by decide +kernel
theorem dX0_liveEdges_12 : decode cX0_liveEdges 12 = .ok (.getfield 21, 3) := by decide +kernel
theorem dX0_liveEdges_15 : decode cX0_liveEdges 15 = .ok (.iload_n 2, 1) := by decide +kernel
theorem dX0_liveEdges_16 : decode cX0_liveEdges 16 = .ok (.iaload, 1) := by decide +kernel
theorem dX0_liveEdges_17 : decode cX0_liveEdges 17 = .ok (.iadd, 1) := by decide +kernel
theorem dX0_liveEdges_18 : decode cX0_liveEdges 18 = .ok (.istore_n 1, 1) := by decide +kernel
theorem dX0_liveEdges_19 : decode cX0_liveEdges 19 = .ok (.iinc 2 1, 3) := by decide +kernel
theorem dX0_liveEdges_22 : decode cX0_liveEdges 22 = .ok (.goto (-18), 3) := by decide +kernel
theorem dX0_liveEdges_25 : decode cX0_liveEdges 25 = .ok (.iload_n 1, 1) := by decide +kernel
theorem dX0_liveEdges_26 : decode cX0_liveEdges 26 = .ok (.ireturn, 1) := by decide +kernel
theorem dX0_foldedNames_0 : decode cX0_foldedNames 0 = .ok (.iconst 0, 1) := by decide +kernel
theorem dX0_foldedNames_1 : decode cX0_foldedNames 1 = .ok (.istore_n 2, 1) := by decide +kernel
theorem dX0_foldedNames_2 : decode cX0_foldedNames 2 = .ok (.iconst 0, 1) := by decide +kernel
theorem dX0_foldedNames_3 : decode cX0_foldedNames 3 = .ok (.istore_n 3, 1) := by decide +kernel
theorem dX0_foldedNames_4 : decode cX0_foldedNames 4 = .ok (.iload_n 3, 1) := by decide +kernel
theorem dX0_foldedNames_5 : decode cX0_foldedNames 5 = .ok (.aload_n 1, 1) := by decide +kernel
theorem dX0_foldedNames_6 : decode cX0_foldedNames 6 = .ok (.getfield 128, 3) := by decide +kernel
theorem dX0_foldedNames_9 : decode cX0_foldedNames 9 = .ok (.if_icmp .ge 36, 3) := by decide +kernel
theorem dX0_foldedNames_12 : decode cX0_foldedNames 12 = .ok (.iload_n 2, 1) := by decide +kernel
theorem dX0_foldedNames_13 : decode cX0_foldedNames 13 = .ok (.aload_n 0, 1) := by decide +kernel
theorem dX0_foldedNames_14 : decode cX0_foldedNames 14 = .ok (.getfield 9, 3) := by decide +kernel
theorem dX0_foldedNames_17 : decode cX0_foldedNames 17 = .ok (.iload_n 3, 1) := by decide +kernel
theorem dX0_foldedNames_18 : decode cX0_foldedNames 18 = .ok (.iaload, 1) := by decide +kernel
theorem dX0_foldedNames_19 : decode cX0_foldedNames 19 = .ok (.iconst 1, 1) := by decide +kernel
theorem dX0_foldedNames_20 : decode cX0_foldedNames 20 = .ok (.if_icmp .ne 16, 3) := by decide +kernel
theorem dX0_foldedNames_23 : decode cX0_foldedNames 23 = .ok (.aload_n 1, 1) := by decide +kernel
theorem dX0_foldedNames_24 : decode cX0_foldedNames 24 = .ok (.getfield 50, 3) := by decide +kernel
theorem dX0_foldedNames_27 : decode cX0_foldedNames 27 = .ok (.iload_n 3, 1) := by decide +kernel
theorem dX0_foldedNames_28 : decode cX0_foldedNames 28 = .ok (.iaload, 1) := by decide +kernel
theorem dX0_foldedNames_29 : decode cX0_foldedNames 29 = .ok (.ifCond .eq 7, 3) := by decide +kernel
theorem dX0_foldedNames_32 : decode cX0_foldedNames 32 = .ok (.iconst 1, 1) := by decide +kernel
theorem dX0_foldedNames_33 : decode cX0_foldedNames 33 = .ok (.goto 4, 3) := by decide +kernel
theorem dX0_foldedNames_36 : decode cX0_foldedNames 36 = .ok (.iconst 0, 1) := by decide +kernel
theorem dX0_foldedNames_37 : decode cX0_foldedNames 37 = .ok (.iadd, 1) := by decide +kernel
theorem dX0_foldedNames_38 : decode cX0_foldedNames 38 = .ok (.istore_n 2, 1) := by decide +kernel
theorem dX0_foldedNames_39 : decode cX0_foldedNames 39 = .ok (.iinc 3 1, 3) := by decide +kernel
theorem dX0_foldedNames_42 : decode cX0_foldedNames 42 = .ok (.goto (-38), 3) := by decide +kernel
theorem dX0_foldedNames_45 : decode cX0_foldedNames 45 = .ok (.iload_n 2, 1) := by decide +kernel
theorem dX0_foldedNames_46 : decode cX0_foldedNames 46 = .ok (.ireturn, 1) := by decide +kernel
theorem dX0_foldedEnds_0 : decode cX0_foldedEnds 0 = .ok (.iconst 0, 1) := by decide +kernel
theorem dX0_foldedEnds_1 : decode cX0_foldedEnds 1 = .ok (.istore_n 2, 1) := by decide +kernel
theorem dX0_foldedEnds_2 : decode cX0_foldedEnds 2 = .ok (.iconst 0, 1) := by decide +kernel
theorem dX0_foldedEnds_3 : decode cX0_foldedEnds 3 = .ok (.istore_n 3, 1) := by decide +kernel
theorem dX0_foldedEnds_4 : decode cX0_foldedEnds 4 = .ok (.iload_n 3, 1) := by decide +kernel
theorem dX0_foldedEnds_5 : decode cX0_foldedEnds 5 = .ok (.aload_n 1, 1) := by decide +kernel
theorem dX0_foldedEnds_6 : decode cX0_foldedEnds 6 = .ok (.getfield 30, 3) := by decide +kernel
theorem dX0_foldedEnds_9 : decode cX0_foldedEnds 9 = .ok (.if_icmp .ge 70, 3) := by decide +kernel
theorem dX0_foldedEnds_12 : decode cX0_foldedEnds 12 = .ok (.aload_n 0, 1) := by decide +kernel
theorem dX0_foldedEnds_13 : decode cX0_foldedEnds 13 = .ok (.getfield 21, 3) := by decide +kernel
theorem dX0_foldedEnds_16 : decode cX0_foldedEnds 16 = .ok (.iconst 2, 1) := by decide +kernel
theorem dX0_foldedEnds_17 : decode cX0_foldedEnds 17 = .ok (.iload_n 3, 1) := by decide +kernel
theorem dX0_foldedEnds_18 : decode cX0_foldedEnds 18 = .ok (.imul, 1) := by decide +kernel
theorem dX0_foldedEnds_19 : decode cX0_foldedEnds 19 = .ok (.iaload, 1) := by decide +kernel
theorem dX0_foldedEnds_20 : decode cX0_foldedEnds 20 = .ok (.aload_n 0, 1) := by decide +kernel
theorem dX0_foldedEnds_21 : decode cX0_foldedEnds 21 = .ok (.getfield 21, 3) := by decide +kernel
theorem dX0_foldedEnds_24 : decode cX0_foldedEnds 24 = .ok (.iconst 2, 1) := by decide +kernel
theorem dX0_foldedEnds_25 : decode cX0_foldedEnds 25 = .ok (.iload_n 3, 1) := by decide +kernel
theorem dX0_foldedEnds_26 : decode cX0_foldedEnds 26 = .ok (.imul, 1) := by decide +kernel
theorem dX0_foldedEnds_27 : decode cX0_foldedEnds 27 = .ok (.iconst 1, 1) := by decide +kernel
theorem dX0_foldedEnds_28 : decode cX0_foldedEnds 28 = .ok (.iadd, 1) := by decide +kernel
theorem dX0_foldedEnds_29 : decode cX0_foldedEnds 29 = .ok (.iaload, 1) := by decide +kernel
theorem dX0_foldedEnds_30 : decode cX0_foldedEnds 30 = .ok (.if_icmp .eq 7, 3) := by decide +kernel
theorem dX0_foldedEnds_33 : decode cX0_foldedEnds 33 = .ok (.iconst 1, 1) := by decide +kernel
theorem dX0_foldedEnds_34 : decode cX0_foldedEnds 34 = .ok (.goto 4, 3) := by decide +kernel
theorem dX0_foldedEnds_37 : decode cX0_foldedEnds 37 = .ok (.iconst 0, 1) := by decide +kernel
theorem dX0_foldedEnds_38 : decode cX0_foldedEnds 38 = .ok (.istore 4, 2) := by decide +kernel
theorem dX0_foldedEnds_40 : decode cX0_foldedEnds 40 = .ok (.iload_n 2, 1) := by decide +kernel
theorem dX0_foldedEnds_41 : decode cX0_foldedEnds 41 = .ok (.aload_n 0, 1) := by decide +kernel
theorem dX0_foldedEnds_42 : decode cX0_foldedEnds 42 = .ok (.getfield 18, 3) := by decide +kernel
theorem dX0_foldedEnds_45 : decode cX0_foldedEnds 45 = .ok (.iload_n 3, 1) := by decide +kernel
theorem dX0_foldedEnds_46 : decode cX0_foldedEnds 46 = .ok (.iaload, 1) := by decide +kernel
theorem dX0_foldedEnds_47 : decode cX0_foldedEnds 47 = .ok (.iconst 1, 1) := by decide +kernel
theorem dX0_foldedEnds_48 : decode cX0_foldedEnds 48 = .ok (.if_icmp .ne 22, 3) := by decide +kernel
theorem dX0_foldedEnds_51 : decode cX0_foldedEnds 51 = .ok (.aload_n 1, 1) := by decide +kernel
theorem dX0_foldedEnds_52 : decode cX0_foldedEnds 52 = .ok (.getfield 119, 3) := by decide +kernel
theorem dX0_foldedEnds_55 : decode cX0_foldedEnds 55 = .ok (.iload_n 3, 1) := by decide +kernel
theorem dX0_foldedEnds_56 : decode cX0_foldedEnds 56 = .ok (.iaload, 1) := by decide +kernel
theorem dX0_foldedEnds_57 : decode cX0_foldedEnds 57 = .ok (.iconst 1, 1) := by decide +kernel
theorem dX0_foldedEnds_58 : decode cX0_foldedEnds 58 = .ok (.if_icmp .ne 12, 3) := by decide +kernel
theorem dX0_foldedEnds_61 : decode cX0_foldedEnds 61 = .ok (.iload 4, 2) := by decide +kernel
theorem dX0_foldedEnds_63 : decode cX0_foldedEnds 63 = .ok (.ifCond .eq 7, 3) := by decide +kernel
theorem dX0_foldedEnds_66 : decode cX0_foldedEnds 66 = .ok (.iconst 1, 1) := by decide +kernel
theorem dX0_foldedEnds_67 : decode cX0_foldedEnds 67 = .ok (.goto 4, 3) := by decide +kernel
theorem dX0_foldedEnds_70 : decode cX0_foldedEnds 70 = .ok (.iconst 0, 1) := by decide +kernel
theorem dX0_foldedEnds_71 : decode cX0_foldedEnds 71 = .ok (.iadd, 1) := by decide +kernel
theorem dX0_foldedEnds_72 : decode cX0_foldedEnds 72 = .ok (.istore_n 2, 1) := by decide +kernel
theorem dX0_foldedEnds_73 : decode cX0_foldedEnds 73 = .ok (.iinc 3 1, 3) := by decide +kernel
theorem dX0_foldedEnds_76 : decode cX0_foldedEnds 76 = .ok (.goto (-72), 3) := by decide +kernel
theorem dX0_foldedEnds_79 : decode cX0_foldedEnds 79 = .ok (.iload_n 2, 1) := by decide +kernel
theorem dX0_foldedEnds_80 : decode cX0_foldedEnds 80 = .ok (.ireturn, 1) := by decide +kernel
theorem dX0_stayingNames_0 : decode cX0_stayingNames 0 = .ok (.iconst 0, 1) := by decide +kernel
theorem dX0_stayingNames_1 : decode cX0_stayingNames 1 = .ok (.istore_n 2, 1) := by decide +kernel
theorem dX0_stayingNames_2 : decode cX0_stayingNames 2 = .ok (.iconst 0, 1) := by decide +kernel
theorem dX0_stayingNames_3 : decode cX0_stayingNames 3 = .ok (.istore_n 3, 1) := by decide +kernel
theorem dX0_stayingNames_4 : decode cX0_stayingNames 4 = .ok (.iload_n 3, 1) := by decide +kernel
theorem dX0_stayingNames_5 : decode cX0_stayingNames 5 = .ok (.aload_n 1, 1) := by decide +kernel
theorem dX0_stayingNames_6 : decode cX0_stayingNames 6 = .ok (.getfield 128, 3) := by decide +kernel
theorem dX0_stayingNames_9 : decode cX0_stayingNames 9 = .ok (.if_icmp .ge 63, 3) := by decide +kernel
theorem dX0_stayingNames_12 : decode cX0_stayingNames 12 = .ok (.aload_n 0, 1) := by decide +kernel
theorem dX0_stayingNames_13 : decode cX0_stayingNames 13 = .ok (.getfield 18, 3) := by decide +kernel
theorem dX0_stayingNames_16 : decode cX0_stayingNames 16 = .ok (.aload_n 1, 1) := by decide +kernel
theorem dX0_stayingNames_17 : decode cX0_stayingNames 17 = .ok (.getfield 105, 3) := by decide +kernel
theorem dX0_stayingNames_20 : decode cX0_stayingNames 20 = .ok (.iload_n 3, 1) := by decide +kernel
theorem dX0_stayingNames_21 : decode cX0_stayingNames 21 = .ok (.iaload, 1) := by decide +kernel
theorem dX0_stayingNames_22 : decode cX0_stayingNames 22 = .ok (.iaload, 1) := by decide +kernel
theorem dX0_stayingNames_23 : decode cX0_stayingNames 23 = .ok (.iconst 1, 1) := by decide +kernel
theorem dX0_stayingNames_24 : decode cX0_stayingNames 24 = .ok (.if_icmp .ne 26, 3) := by decide +kernel
theorem dX0_stayingNames_27 : decode cX0_stayingNames 27 = .ok (.aload_n 0, 1) := by decide +kernel
theorem dX0_stayingNames_28 : decode cX0_stayingNames 28 = .ok (.getfield 9, 3) := by decide +kernel
theorem dX0_stayingNames_31 : decode cX0_stayingNames 31 = .ok (.iload_n 3, 1) := by decide +kernel
theorem dX0_stayingNames_32 : decode cX0_stayingNames 32 = .ok (.iaload, 1) := by decide +kernel
theorem dX0_stayingNames_33 : decode cX0_stayingNames 33 = .ok (.iconst 1, 1) := by decide +kernel
theorem dX0_stayingNames_34 : decode cX0_stayingNames 34 = .ok (.if_icmp .eq 16, 3) := by decide +kernel
theorem dX0_stayingNames_37 : decode cX0_stayingNames 37 = .ok (.aload_n 1, 1) := by decide +kernel
theorem dX0_stayingNames_38 : decode cX0_stayingNames 38 = .ok (.getfield 50, 3) := by decide +kernel
theorem dX0_stayingNames_41 : decode cX0_stayingNames 41 = .ok (.iload_n 3, 1) := by decide +kernel
theorem dX0_stayingNames_42 : decode cX0_stayingNames 42 = .ok (.iaload, 1) := by decide +kernel
theorem dX0_stayingNames_43 : decode cX0_stayingNames 43 = .ok (.ifCond .eq 7, 3) := by decide +kernel
theorem dX0_stayingNames_46 : decode cX0_stayingNames 46 = .ok (.iconst 1, 1) := by decide +kernel
theorem dX0_stayingNames_47 : decode cX0_stayingNames 47 = .ok (.goto 4, 3) := by decide +kernel
theorem dX0_stayingNames_50 : decode cX0_stayingNames 50 = .ok (.iconst 0, 1) := by decide +kernel
theorem dX0_stayingNames_51 : decode cX0_stayingNames 51 = .ok (.istore 4, 2) := by decide +kernel
theorem dX0_stayingNames_53 : decode cX0_stayingNames 53 = .ok (.iload_n 2, 1) := by decide +kernel
theorem dX0_stayingNames_54 : decode cX0_stayingNames 54 = .ok (.iload 4, 2) := by decide +kernel
theorem dX0_stayingNames_56 : decode cX0_stayingNames 56 = .ok (.ifCond .eq 7, 3) := by decide +kernel
theorem dX0_stayingNames_59 : decode cX0_stayingNames 59 = .ok (.iconst 1, 1) := by decide +kernel
theorem dX0_stayingNames_60 : decode cX0_stayingNames 60 = .ok (.goto 4, 3) := by decide +kernel
theorem dX0_stayingNames_63 : decode cX0_stayingNames 63 = .ok (.iconst 0, 1) := by decide +kernel
theorem dX0_stayingNames_64 : decode cX0_stayingNames 64 = .ok (.iadd, 1) := by decide +kernel
theorem dX0_stayingNames_65 : decode cX0_stayingNames 65 = .ok (.istore_n 2, 1) := by decide +kernel
theorem dX0_stayingNames_66 : decode cX0_stayingNames 66 = .ok (.iinc 3 1, 3) := by decide +kernel
theorem dX0_stayingNames_69 : decode cX0_stayingNames 69 = .ok (.goto (-65), 3) := by decide +kernel
theorem dX0_stayingNames_72 : decode cX0_stayingNames 72 = .ok (.iload_n 2, 1) := by decide +kernel
theorem dX0_stayingNames_73 : decode cX0_stayingNames 73 = .ok (.ireturn, 1) := by decide +kernel
theorem dX0_gainOver_0 : decode cX0_gainOver 0 = .ok (.iconst 0, 1) := by decide +kernel
theorem dX0_gainOver_1 : decode cX0_gainOver 1 = .ok (.istore_n 3, 1) := by decide +kernel
theorem dX0_gainOver_2 : decode cX0_gainOver 2 = .ok (.iconst 0, 1) := by decide +kernel
theorem dX0_gainOver_3 : decode cX0_gainOver 3 = .ok (.istore 4, 2) := by decide +kernel
theorem dX0_gainOver_5 : decode cX0_gainOver 5 = .ok (.iload 4, 2) := by decide +kernel
theorem dX0_gainOver_7 : decode cX0_gainOver 7 = .ok (.aload_n 2, 1) := by decide +kernel
theorem dX0_gainOver_8 : decode cX0_gainOver 8 = .ok (.getfield 128, 3) := by decide +kernel
theorem dX0_gainOver_11 : decode cX0_gainOver 11 = .ok (.if_icmp .ge 39, 3) := by decide +kernel
theorem dX0_gainOver_14 : decode cX0_gainOver 14 = .ok (.iload_n 3, 1) := by decide +kernel
theorem dX0_gainOver_15 : decode cX0_gainOver 15 = .ok (.aload_n 0, 1) := by decide +kernel
theorem dX0_gainOver_16 : decode cX0_gainOver 16 = .ok (.getfield 9, 3) := by decide +kernel
theorem dX0_gainOver_19 : decode cX0_gainOver 19 = .ok (.iload 4, 2) := by decide +kernel
theorem dX0_gainOver_21 : decode cX0_gainOver 21 = .ok (.iaload, 1) := by decide +kernel
theorem dX0_gainOver_22 : decode cX0_gainOver 22 = .ok (.iconst 2, 1) := by decide +kernel
theorem dX0_gainOver_23 : decode cX0_gainOver 23 = .ok (.if_icmp .eq 18, 3) := by decide +kernel
theorem dX0_gainOver_26 : decode cX0_gainOver 26 = .ok (.aload_n 1, 1) := by decide +kernel
theorem dX0_gainOver_27 : decode cX0_gainOver 27 = .ok (.getfield 9, 3) := by decide +kernel
theorem dX0_gainOver_30 : decode cX0_gainOver 30 = .ok (.iload 4, 2) := by decide +kernel
theorem dX0_gainOver_32 : decode cX0_gainOver 32 = .ok (.iaload, 1) := by decide +kernel
theorem dX0_gainOver_33 : decode cX0_gainOver 33 = .ok (.iconst 2, 1) := by decide +kernel
theorem dX0_gainOver_34 : decode cX0_gainOver 34 = .ok (.if_icmp .ne 7, 3) := by decide +kernel
theorem dX0_gainOver_37 : decode cX0_gainOver 37 = .ok (.iconst 1, 1) := by decide +kernel
theorem dX0_gainOver_38 : decode cX0_gainOver 38 = .ok (.goto 4, 3) := by decide +kernel
theorem dX0_gainOver_41 : decode cX0_gainOver 41 = .ok (.iconst 0, 1) := by decide +kernel
theorem dX0_gainOver_42 : decode cX0_gainOver 42 = .ok (.iadd, 1) := by decide +kernel
theorem dX0_gainOver_43 : decode cX0_gainOver 43 = .ok (.istore_n 3, 1) := by decide +kernel
theorem dX0_gainOver_44 : decode cX0_gainOver 44 = .ok (.iinc 4 1, 3) := by decide +kernel
theorem dX0_gainOver_47 : decode cX0_gainOver 47 = .ok (.goto (-42), 3) := by decide +kernel
theorem dX0_gainOver_50 : decode cX0_gainOver 50 = .ok (.iload_n 3, 1) := by decide +kernel
theorem dX0_gainOver_51 : decode cX0_gainOver 51 = .ok (.ireturn, 1) := by decide +kernel
theorem dX1_init_0 : decode cX1_init 0 = .ok (.aload_n 0, 1) := by decide +kernel
theorem dX1_init_1 : decode cX1_init 1 = .ok (.invokespecial 3, 3) := by decide +kernel
theorem dX1_init_4 : decode cX1_init 4 = .ok (.aload_n 0, 1) := by decide +kernel
theorem dX1_init_5 : decode cX1_init 5 = .ok (.iconst 0, 1) := by decide +kernel
theorem dX1_init_6 : decode cX1_init 6 = .ok (.putfield 9, 3) := by decide +kernel
theorem dX1_init_9 : decode cX1_init 9 = .ok (.aload_n 0, 1) := by decide +kernel
theorem dX1_init_10 : decode cX1_init 10 = .ok (.bipush 10, 2) := by decide +kernel
theorem dX1_init_12 : decode cX1_init 12 = .ok (.newarray .int, 2) := by decide +kernel
theorem dX1_init_14 : decode cX1_init 14 = .ok (.putfield 15, 3) := by decide +kernel
theorem dX1_init_17 : decode cX1_init 17 = .ok (.aload_n 0, 1) := by decide +kernel
theorem dX1_init_18 : decode cX1_init 18 = .ok (.bipush 10, 2) := by decide +kernel
theorem dX1_init_20 : decode cX1_init 20 = .ok (.newarray .int, 2) := by decide +kernel
theorem dX1_init_22 : decode cX1_init 22 = .ok (.putfield 19, 3) := by decide +kernel
theorem dX1_init_25 : decode cX1_init 25 = .ok (.aload_n 0, 1) := by decide +kernel
theorem dX1_init_26 : decode cX1_init 26 = .ok (.bipush 10, 2) := by decide +kernel
theorem dX1_init_28 : decode cX1_init 28 = .ok (.newarray .int, 2) := by decide +kernel
theorem dX1_init_30 : decode cX1_init 30 = .ok (.putfield 22, 3) := by decide +kernel
theorem dX1_init_33 : decode cX1_init 33 = .ok (.aload_n 0, 1) := by decide +kernel
theorem dX1_init_34 : decode cX1_init 34 = .ok (.bipush 10, 2) := by decide +kernel
theorem dX1_init_36 : decode cX1_init 36 = .ok (.newarray .int, 2) := by decide +kernel
theorem dX1_init_38 : decode cX1_init 38 = .ok (.putfield 25, 3) := by decide +kernel
theorem dX1_init_41 : decode cX1_init 41 = .ok (.return_, 1) := by decide +kernel
theorem dX1_note_0 : decode cX1_note 0 = .ok (.aload_n 0, 1) := by decide +kernel
theorem dX1_note_1 : decode cX1_note 1 = .ok (.getfield 9, 3) := by decide +kernel
theorem dX1_note_4 : decode cX1_note 4 = .ok (.bipush 10, 2) := by decide +kernel
theorem dX1_note_6 : decode cX1_note 6 = .ok (.if_icmp .lt 7, 3) := by decide +kernel
theorem dX1_note_9 : decode cX1_note 9 = .ok (.aload_n 0, 1) := by decide +kernel
theorem dX1_note_10 : decode cX1_note 10 = .ok (.invokevirtual 28, 3) := by decide +kernel
theorem dX1_note_13 : decode cX1_note 13 = .ok (.aload_n 0, 1) := by decide +kernel
theorem dX1_note_14 : decode cX1_note 14 = .ok (.getfield 15, 3) := by decide +kernel
theorem dX1_note_17 : decode cX1_note 17 = .ok (.aload_n 0, 1) := by decide +kernel
theorem dX1_note_18 : decode cX1_note 18 = .ok (.getfield 9, 3) := by decide +kernel
theorem dX1_note_21 : decode cX1_note 21 = .ok (.iload_n 1, 1) := by decide +kernel
theorem dX1_note_22 : decode cX1_note 22 = .ok (.iastore, 1) := by decide +kernel
theorem dX1_note_23 : decode cX1_note 23 = .ok (.aload_n 0, 1) := by decide +kernel
theorem dX1_note_24 : decode cX1_note 24 = .ok (.getfield 19, 3) := by decide +kernel
theorem dX1_note_27 : decode cX1_note 27 = .ok (.aload_n 0, 1) := by decide +kernel
theorem dX1_note_28 : decode cX1_note 28 = .ok (.getfield 9, 3) := by decide +kernel
theorem dX1_note_31 : decode cX1_note 31 = .ok (.iload_n 2, 1) := by decide +kernel
theorem dX1_note_32 : decode cX1_note 32 = .ok (.iastore, 1) := by decide +kernel
theorem dX1_note_33 : decode cX1_note 33 = .ok (.aload_n 0, 1) := by decide +kernel
theorem dX1_note_34 : decode cX1_note 34 = .ok (.getfield 22, 3) := by decide +kernel
theorem dX1_note_37 : decode cX1_note 37 = .ok (.aload_n 0, 1) := by decide +kernel
theorem dX1_note_38 : decode cX1_note 38 = .ok (.getfield 9, 3) := by decide +kernel
theorem dX1_note_41 : decode cX1_note 41 = .ok (.aload_n 3, 1) := by decide +kernel
theorem dX1_note_42 : decode cX1_note 42 = .ok (.getfield 31, 3) := by decide +kernel
theorem dX1_note_45 : decode cX1_note 45 = .ok (.iload_n 2, 1) := by decide +kernel
theorem dX1_note_46 : decode cX1_note 46 = .ok (.iaload, 1) := by decide +kernel
theorem dX1_note_47 : decode cX1_note 47 = .ok (.iastore, 1) := by decide +kernel
theorem dX1_note_48 : decode cX1_note 48 = .ok (.iload_n 1, 1) := by decide +kernel
theorem dX1_note_49 : decode cX1_note 49 = .ok (.tableswitch 81 0 2 #[27, 45, 63], 27) := by decide +kernel
theorem dX1_note_76 : decode cX1_note 76 = .ok (.aload_n 0, 1) := by decide +kernel
theorem dX1_note_77 : decode cX1_note 77 = .ok (.getfield 25, 3) := by decide +kernel
theorem dX1_note_80 : decode cX1_note 80 = .ok (.aload_n 0, 1) := by decide +kernel
theorem dX1_note_81 : decode cX1_note 81 = .ok (.getfield 9, 3) := by decide +kernel
theorem dX1_note_84 : decode cX1_note 84 = .ok (.aload_n 3, 1) := by decide +kernel
theorem dX1_note_85 : decode cX1_note 85 = .ok (.getfield 36, 3) := by decide +kernel
theorem dX1_note_88 : decode cX1_note 88 = .ok (.iload_n 2, 1) := by decide +kernel
theorem dX1_note_89 : decode cX1_note 89 = .ok (.iaload, 1) := by decide +kernel
theorem dX1_note_90 : decode cX1_note 90 = .ok (.iastore, 1) := by decide +kernel
theorem dX1_note_91 : decode cX1_note 91 = .ok (.goto 49, 3) := by decide +kernel
theorem dX1_note_94 : decode cX1_note 94 = .ok (.aload_n 0, 1) := by decide +kernel
theorem dX1_note_95 : decode cX1_note 95 = .ok (.getfield 25, 3) := by decide +kernel
theorem dX1_note_98 : decode cX1_note 98 = .ok (.aload_n 0, 1) := by decide +kernel
theorem dX1_note_99 : decode cX1_note 99 = .ok (.getfield 9, 3) := by decide +kernel
theorem dX1_note_102 : decode cX1_note 102 = .ok (.aload_n 3, 1) := by decide +kernel
theorem dX1_note_103 : decode cX1_note 103 = .ok (.getfield 39, 3) := by decide +kernel
theorem dX1_note_106 : decode cX1_note 106 = .ok (.iload_n 2, 1) := by decide +kernel
theorem dX1_note_107 : decode cX1_note 107 = .ok (.iaload, 1) := by decide +kernel
theorem dX1_note_108 : decode cX1_note 108 = .ok (.iastore, 1) := by decide +kernel
theorem dX1_note_109 : decode cX1_note 109 = .ok (.goto 31, 3) := by decide +kernel
theorem dX1_note_112 : decode cX1_note 112 = .ok (.aload_n 0, 1) := by decide +kernel
theorem dX1_note_113 : decode cX1_note 113 = .ok (.getfield 25, 3) := by decide +kernel
theorem dX1_note_116 : decode cX1_note 116 = .ok (.aload_n 0, 1) := by decide +kernel
theorem dX1_note_117 : decode cX1_note 117 = .ok (.getfield 9, 3) := by decide +kernel
theorem dX1_note_120 : decode cX1_note 120 = .ok (.aload_n 3, 1) := by decide +kernel
theorem dX1_note_121 : decode cX1_note 121 = .ok (.getfield 42, 3) := by decide +kernel
theorem dX1_note_124 : decode cX1_note 124 = .ok (.iload_n 2, 1) := by decide +kernel
theorem dX1_note_125 : decode cX1_note 125 = .ok (.iaload, 1) := by decide +kernel
theorem dX1_note_126 : decode cX1_note 126 = .ok (.iastore, 1) := by decide +kernel
theorem dX1_note_127 : decode cX1_note 127 = .ok (.goto 13, 3) := by decide +kernel
theorem dX1_note_130 : decode cX1_note 130 = .ok (.aload_n 0, 1) := by decide +kernel
theorem dX1_note_131 : decode cX1_note 131 = .ok (.getfield 25, 3) := by decide +kernel
theorem dX1_note_134 : decode cX1_note 134 = .ok (.aload_n 0, 1) := by decide +kernel
theorem dX1_note_135 : decode cX1_note 135 = .ok (.getfield 9, 3) := by decide +kernel
theorem dX1_note_138 : decode cX1_note 138 = .ok (.iconst 0, 1) := by decide +kernel
theorem dX1_note_139 : decode cX1_note 139 = .ok (.iastore, 1) := by decide +kernel
theorem dX1_note_140 : decode cX1_note 140 = .ok (.aload_n 0, 1) := by decide +kernel
theorem dX1_note_141 : decode cX1_note 141 = .ok (.dup, 1) := by decide +kernel
theorem dX1_note_142 : decode cX1_note 142 = .ok (.getfield 9, 3) := by decide +kernel
theorem dX1_note_145 : decode cX1_note 145 = .ok (.iconst 1, 1) := by decide +kernel
theorem dX1_note_146 : decode cX1_note 146 = .ok (.iadd, 1) := by decide +kernel
theorem dX1_note_147 : decode cX1_note 147 = .ok (.putfield 9, 3) := by decide +kernel
theorem dX1_note_150 : decode cX1_note 150 = .ok (.return_, 1) := by decide +kernel
theorem dX1_dropOldest_0 : decode cX1_dropOldest 0 = .ok (.iconst 1, 1) := by decide +kernel
theorem dX1_dropOldest_1 : decode cX1_dropOldest 1 = .ok (.istore_n 1, 1) := by decide +kernel
theorem dX1_dropOldest_2 : decode cX1_dropOldest 2 = .ok (.iload_n 1, 1) := by decide +kernel
theorem dX1_dropOldest_3 : decode cX1_dropOldest 3 = .ok (.bipush 10, 2) := by decide +kernel
theorem dX1_dropOldest_5 : decode cX1_dropOldest 5 = .ok (.if_icmp .ge 65, 3) := by decide +kernel
theorem dX1_dropOldest_8 : decode cX1_dropOldest 8 = .ok (.aload_n 0, 1) := by decide +kernel
theorem dX1_dropOldest_9 : decode cX1_dropOldest 9 = .ok (.getfield 15, 3) := by decide +kernel
theorem dX1_dropOldest_12 : decode cX1_dropOldest 12 = .ok (.iload_n 1, 1) := by decide +kernel
theorem dX1_dropOldest_13 : decode cX1_dropOldest 13 = .ok (.iconst 1, 1) := by decide +kernel
theorem dX1_dropOldest_14 : decode cX1_dropOldest 14 = .ok (.isub, 1) := by decide +kernel
theorem dX1_dropOldest_15 : decode cX1_dropOldest 15 = .ok (.aload_n 0, 1) := by decide +kernel
theorem dX1_dropOldest_16 : decode cX1_dropOldest 16 = .ok (.getfield 15, 3) := by decide +kernel
theorem dX1_dropOldest_19 : decode cX1_dropOldest 19 = .ok (.iload_n 1, 1) := by decide +kernel
theorem dX1_dropOldest_20 : decode cX1_dropOldest 20 = .ok (.iaload, 1) := by decide +kernel
theorem dX1_dropOldest_21 : decode cX1_dropOldest 21 = .ok (.iastore, 1) := by decide +kernel
theorem dX1_dropOldest_22 : decode cX1_dropOldest 22 = .ok (.aload_n 0, 1) := by decide +kernel
theorem dX1_dropOldest_23 : decode cX1_dropOldest 23 = .ok (.getfield 19, 3) := by decide +kernel
theorem dX1_dropOldest_26 : decode cX1_dropOldest 26 = .ok (.iload_n 1, 1) := by decide +kernel
theorem dX1_dropOldest_27 : decode cX1_dropOldest 27 = .ok (.iconst 1, 1) := by decide +kernel
theorem dX1_dropOldest_28 : decode cX1_dropOldest 28 = .ok (.isub, 1) := by decide +kernel
theorem dX1_dropOldest_29 : decode cX1_dropOldest 29 = .ok (.aload_n 0, 1) := by decide +kernel
theorem dX1_dropOldest_30 : decode cX1_dropOldest 30 = .ok (.getfield 19, 3) := by decide +kernel
theorem dX1_dropOldest_33 : decode cX1_dropOldest 33 = .ok (.iload_n 1, 1) := by decide +kernel
theorem dX1_dropOldest_34 : decode cX1_dropOldest 34 = .ok (.iaload, 1) := by decide +kernel
theorem dX1_dropOldest_35 : decode cX1_dropOldest 35 = .ok (.iastore, 1) := by decide +kernel
theorem dX1_dropOldest_36 : decode cX1_dropOldest 36 = .ok (.aload_n 0, 1) := by decide +kernel
theorem dX1_dropOldest_37 : decode cX1_dropOldest 37 = .ok (.getfield 22, 3) := by decide +kernel
theorem dX1_dropOldest_40 : decode cX1_dropOldest 40 = .ok (.iload_n 1, 1) := by decide +kernel
theorem dX1_dropOldest_41 : decode cX1_dropOldest 41 = .ok (.iconst 1, 1) := by decide +kernel
theorem dX1_dropOldest_42 : decode cX1_dropOldest 42 = .ok (.isub, 1) := by decide +kernel
theorem dX1_dropOldest_43 : decode cX1_dropOldest 43 = .ok (.aload_n 0, 1) := by decide +kernel
theorem dX1_dropOldest_44 : decode cX1_dropOldest 44 = .ok (.getfield 22, 3) := by decide +kernel
theorem dX1_dropOldest_47 : decode cX1_dropOldest 47 = .ok (.iload_n 1, 1) := by decide +kernel
theorem dX1_dropOldest_48 : decode cX1_dropOldest 48 = .ok (.iaload, 1) := by decide +kernel
theorem dX1_dropOldest_49 : decode cX1_dropOldest 49 = .ok (.iastore, 1) := by decide +kernel
theorem dX1_dropOldest_50 : decode cX1_dropOldest 50 = .ok (.aload_n 0, 1) := by decide +kernel
theorem dX1_dropOldest_51 : decode cX1_dropOldest 51 = .ok (.getfield 25, 3) := by decide +kernel
theorem dX1_dropOldest_54 : decode cX1_dropOldest 54 = .ok (.iload_n 1, 1) := by decide +kernel
theorem dX1_dropOldest_55 : decode cX1_dropOldest 55 = .ok (.iconst 1, 1) := by decide +kernel
theorem dX1_dropOldest_56 : decode cX1_dropOldest 56 = .ok (.isub, 1) := by decide +kernel
theorem dX1_dropOldest_57 : decode cX1_dropOldest 57 = .ok (.aload_n 0, 1) := by decide +kernel
theorem dX1_dropOldest_58 : decode cX1_dropOldest 58 = .ok (.getfield 25, 3) := by decide +kernel
theorem dX1_dropOldest_61 : decode cX1_dropOldest 61 = .ok (.iload_n 1, 1) := by decide +kernel
theorem dX1_dropOldest_62 : decode cX1_dropOldest 62 = .ok (.iaload, 1) := by decide +kernel
theorem dX1_dropOldest_63 : decode cX1_dropOldest 63 = .ok (.iastore, 1) := by decide +kernel
theorem dX1_dropOldest_64 : decode cX1_dropOldest 64 = .ok (.iinc 1 1, 3) := by decide +kernel
theorem dX1_dropOldest_67 : decode cX1_dropOldest 67 = .ok (.goto (-65), 3) := by decide +kernel
theorem dX1_dropOldest_70 : decode cX1_dropOldest 70 = .ok (.aload_n 0, 1) := by decide +kernel
theorem dX1_dropOldest_71 : decode cX1_dropOldest 71 = .ok (.bipush 9, 2) := by decide +kernel
theorem dX1_dropOldest_73 : decode cX1_dropOldest 73 = .ok (.putfield 9, 3) := by decide +kernel
theorem dX1_dropOldest_76 : decode cX1_dropOldest 76 = .ok (.return_, 1) := by decide +kernel
theorem dX1_takeBack_0 : decode cX1_takeBack 0 = .ok (.aload_n 0, 1) := by decide +kernel
theorem dX1_takeBack_1 : decode cX1_takeBack 1 = .ok (.getfield 9, 3) := by decide +kernel
theorem dX1_takeBack_4 : decode cX1_takeBack 4 = .ok (.ifCond .gt 4, 3) := by decide +kernel
theorem dX1_takeBack_7 : decode cX1_takeBack 7 = .ok (.return_, 1) := by decide +kernel
theorem dX1_takeBack_8 : decode cX1_takeBack 8 = .ok (.aload_n 0, 1) := by decide +kernel
theorem dX1_takeBack_9 : decode cX1_takeBack 9 = .ok (.dup, 1) := by decide +kernel
theorem dX1_takeBack_10 : decode cX1_takeBack 10 = .ok (.getfield 9, 3) := by decide +kernel
theorem dX1_takeBack_13 : decode cX1_takeBack 13 = .ok (.iconst 1, 1) := by decide +kernel
theorem dX1_takeBack_14 : decode cX1_takeBack 14 = .ok (.isub, 1) := by decide +kernel
theorem dX1_takeBack_15 : decode cX1_takeBack 15 = .ok (.putfield 9, 3) := by decide +kernel
theorem dX1_takeBack_18 : decode cX1_takeBack 18 = .ok (.aload_n 0, 1) := by decide +kernel
theorem dX1_takeBack_19 : decode cX1_takeBack 19 = .ok (.getfield 19, 3) := by decide +kernel
theorem dX1_takeBack_22 : decode cX1_takeBack 22 = .ok (.aload_n 0, 1) := by decide +kernel
theorem dX1_takeBack_23 : decode cX1_takeBack 23 = .ok (.getfield 9, 3) := by decide +kernel
theorem dX1_takeBack_26 : decode cX1_takeBack 26 = .ok (.iaload, 1) := by decide +kernel
theorem dX1_takeBack_27 : decode cX1_takeBack 27 = .ok (.istore_n 2, 1) := by decide +kernel
theorem dX1_takeBack_28 : decode cX1_takeBack 28 = .ok (.aload_n 0, 1) := by decide +kernel
theorem dX1_takeBack_29 : decode cX1_takeBack 29 = .ok (.getfield 15, 3) := by decide +kernel
theorem dX1_takeBack_32 : decode cX1_takeBack 32 = .ok (.aload_n 0, 1) := by decide +kernel
theorem dX1_takeBack_33 : decode cX1_takeBack 33 = .ok (.getfield 9, 3) := by decide +kernel
theorem dX1_takeBack_36 : decode cX1_takeBack 36 = .ok (.iaload, 1) := by decide +kernel
theorem dX1_takeBack_37 : decode cX1_takeBack 37 = .ok (.tableswitch 96 0 2 #[27, 60, 78], 27) := by decide +kernel
theorem dX1_takeBack_64 : decode cX1_takeBack 64 = .ok (.aload_n 1, 1) := by decide +kernel
theorem dX1_takeBack_65 : decode cX1_takeBack 65 = .ok (.getfield 31, 3) := by decide +kernel
theorem dX1_takeBack_68 : decode cX1_takeBack 68 = .ok (.iload_n 2, 1) := by decide +kernel
theorem dX1_takeBack_69 : decode cX1_takeBack 69 = .ok (.aload_n 0, 1) := by decide +kernel
theorem dX1_takeBack_70 : decode cX1_takeBack 70 = .ok (.getfield 22, 3) := by decide +kernel
theorem dX1_takeBack_73 : decode cX1_takeBack 73 = .ok (.aload_n 0, 1) := by decide +kernel
theorem dX1_takeBack_74 : decode cX1_takeBack 74 = .ok (.getfield 9, 3) := by decide +kernel
theorem dX1_takeBack_77 : decode cX1_takeBack 77 = .ok (.iaload, 1) := by decide +kernel
theorem dX1_takeBack_78 : decode cX1_takeBack 78 = .ok (.iastore, 1) := by decide +kernel
theorem dX1_takeBack_79 : decode cX1_takeBack 79 = .ok (.aload_n 1, 1) := by decide +kernel
theorem dX1_takeBack_80 : decode cX1_takeBack 80 = .ok (.getfield 36, 3) := by decide +kernel
theorem dX1_takeBack_83 : decode cX1_takeBack 83 = .ok (.iload_n 2, 1) := by decide +kernel
theorem dX1_takeBack_84 : decode cX1_takeBack 84 = .ok (.aload_n 0, 1) := by decide +kernel
theorem dX1_takeBack_85 : decode cX1_takeBack 85 = .ok (.getfield 25, 3) := by decide +kernel
theorem dX1_takeBack_88 : decode cX1_takeBack 88 = .ok (.aload_n 0, 1) := by decide +kernel
theorem dX1_takeBack_89 : decode cX1_takeBack 89 = .ok (.getfield 9, 3) := by decide +kernel
theorem dX1_takeBack_92 : decode cX1_takeBack 92 = .ok (.iaload, 1) := by decide +kernel
theorem dX1_takeBack_93 : decode cX1_takeBack 93 = .ok (.iastore, 1) := by decide +kernel
theorem dX1_takeBack_94 : decode cX1_takeBack 94 = .ok (.goto 44, 3) := by decide +kernel
theorem dX1_takeBack_97 : decode cX1_takeBack 97 = .ok (.aload_n 1, 1) := by decide +kernel
theorem dX1_takeBack_98 : decode cX1_takeBack 98 = .ok (.getfield 39, 3) := by decide +kernel
theorem dX1_takeBack_101 : decode cX1_takeBack 101 = .ok (.iload_n 2, 1) := by decide +kernel
theorem dX1_takeBack_102 : decode cX1_takeBack 102 = .ok (.aload_n 0, 1) := by decide +kernel
theorem dX1_takeBack_103 : decode cX1_takeBack 103 = .ok (.getfield 25, 3) := by decide +kernel
theorem dX1_takeBack_106 : decode cX1_takeBack 106 = .ok (.aload_n 0, 1) := by decide +kernel
theorem dX1_takeBack_107 : decode cX1_takeBack 107 = .ok (.getfield 9, 3) := by decide +kernel
theorem dX1_takeBack_110 : decode cX1_takeBack 110 = .ok (.iaload, 1) := by decide +kernel
theorem dX1_takeBack_111 : decode cX1_takeBack 111 = .ok (.iastore, 1) := by decide +kernel
theorem dX1_takeBack_112 : decode cX1_takeBack 112 = .ok (.goto 26, 3) := by decide +kernel
theorem dX1_takeBack_115 : decode cX1_takeBack 115 = .ok (.aload_n 1, 1) := by decide +kernel
theorem dX1_takeBack_116 : decode cX1_takeBack 116 = .ok (.getfield 42, 3) := by decide +kernel
theorem dX1_takeBack_119 : decode cX1_takeBack 119 = .ok (.iload_n 2, 1) := by decide +kernel
theorem dX1_takeBack_120 : decode cX1_takeBack 120 = .ok (.aload_n 0, 1) := by decide +kernel
theorem dX1_takeBack_121 : decode cX1_takeBack 121 = .ok (.getfield 25, 3) := by decide +kernel
theorem dX1_takeBack_124 : decode cX1_takeBack 124 = .ok (.aload_n 0, 1) := by decide +kernel
theorem dX1_takeBack_125 : decode cX1_takeBack 125 = .ok (.getfield 9, 3) := by decide +kernel
theorem dX1_takeBack_128 : decode cX1_takeBack 128 = .ok (.iaload, 1) := by decide +kernel
theorem dX1_takeBack_129 : decode cX1_takeBack 129 = .ok (.iastore, 1) := by decide +kernel
theorem dX1_takeBack_130 : decode cX1_takeBack 130 = .ok (.goto 8, 3) := by decide +kernel
theorem dX1_takeBack_133 : decode cX1_takeBack 133 = .ok (.aload_n 1, 1) := by decide +kernel
theorem dX1_takeBack_134 : decode cX1_takeBack 134 = .ok (.iload_n 2, 1) := by decide +kernel
theorem dX1_takeBack_135 : decode cX1_takeBack 135 = .ok (.invokevirtual 45, 3) := by decide +kernel
theorem dX1_takeBack_138 : decode cX1_takeBack 138 = .ok (.return_, 1) := by decide +kernel
theorem dX2_init_0 : decode cX2_init 0 = .ok (.aload_n 0, 1) := by decide +kernel
theorem dX2_init_1 : decode cX2_init 1 = .ok (.invokespecial 3, 3) := by decide +kernel
theorem dX2_init_4 : decode cX2_init 4 = .ok (.aload_n 0, 1) := by decide +kernel
theorem dX2_init_5 : decode cX2_init 5 = .ok (.bipush 24, 2) := by decide +kernel
theorem dX2_init_7 : decode cX2_init 7 = .ok (.newarray .int, 2) := by decide +kernel
theorem dX2_init_9 : decode cX2_init 9 = .ok (.putfield 9, 3) := by decide +kernel
theorem dX2_init_12 : decode cX2_init 12 = .ok (.aload_n 0, 1) := by decide +kernel
theorem dX2_init_13 : decode cX2_init 13 = .ok (.bipush 24, 2) := by decide +kernel
theorem dX2_init_15 : decode cX2_init 15 = .ok (.newarray .int, 2) := by decide +kernel
theorem dX2_init_17 : decode cX2_init 17 = .ok (.putfield 15, 3) := by decide +kernel
theorem dX2_init_20 : decode cX2_init 20 = .ok (.aload_n 0, 1) := by decide +kernel
theorem dX2_init_21 : decode cX2_init 21 = .ok (.bipush 24, 2) := by decide +kernel
theorem dX2_init_23 : decode cX2_init 23 = .ok (.newarray .int, 2) := by decide +kernel
theorem dX2_init_25 : decode cX2_init 25 = .ok (.putfield 18, 3) := by decide +kernel
theorem dX2_init_28 : decode cX2_init 28 = .ok (.aload_n 0, 1) := by decide +kernel
theorem dX2_init_29 : decode cX2_init 29 = .ok (.bipush 24, 2) := by decide +kernel
theorem dX2_init_31 : decode cX2_init 31 = .ok (.newarray .int, 2) := by decide +kernel
theorem dX2_init_33 : decode cX2_init 33 = .ok (.putfield 21, 3) := by decide +kernel
theorem dX2_init_36 : decode cX2_init 36 = .ok (.aload_n 0, 1) := by decide +kernel
theorem dX2_init_37 : decode cX2_init 37 = .ok (.bipush 16, 2) := by decide +kernel
theorem dX2_init_39 : decode cX2_init 39 = .ok (.newarray .int, 2) := by decide +kernel
theorem dX2_init_41 : decode cX2_init 41 = .ok (.putfield 24, 3) := by decide +kernel
theorem dX2_init_44 : decode cX2_init 44 = .ok (.return_, 1) := by decide +kernel
theorem dX2_becomesAsTold_0 : decode cX2_becomesAsTold 0 = .ok (.aload_n 0, 1) := by decide +kernel
theorem dX2_becomesAsTold_1 : decode cX2_becomesAsTold 1 = .ok (.getfield 9, 3) := by decide +kernel
theorem dX2_becomesAsTold_4 : decode cX2_becomesAsTold 4 = .ok (.iconst 0, 1) := by decide +kernel
theorem dX2_becomesAsTold_5 : decode cX2_becomesAsTold 5 = .ok (.invokestatic 27, 3) := by decide +kernel
theorem dX2_becomesAsTold_8 : decode cX2_becomesAsTold 8 = .ok (.aload_n 0, 1) := by decide +kernel
theorem dX2_becomesAsTold_9 : decode cX2_becomesAsTold 9 = .ok (.getfield 15, 3) := by decide +kernel
theorem dX2_becomesAsTold_12 : decode cX2_becomesAsTold 12 = .ok (.iconst 0, 1) := by decide +kernel
theorem dX2_becomesAsTold_13 : decode cX2_becomesAsTold 13 = .ok (.invokestatic 27, 3) := by decide +kernel
theorem dX2_becomesAsTold_16 : decode cX2_becomesAsTold 16 = .ok (.aload_n 0, 1) := by decide +kernel
theorem dX2_becomesAsTold_17 : decode cX2_becomesAsTold 17 = .ok (.getfield 18, 3) := by decide +kernel
theorem dX2_becomesAsTold_20 : decode cX2_becomesAsTold 20 = .ok (.iconst 0, 1) := by decide +kernel
theorem dX2_becomesAsTold_21 : decode cX2_becomesAsTold 21 = .ok (.invokestatic 27, 3) := by decide +kernel
theorem dX2_becomesAsTold_24 : decode cX2_becomesAsTold 24 = .ok (.aload_n 1, 1) := by decide +kernel
theorem dX2_becomesAsTold_25 : decode cX2_becomesAsTold 25 = .ok (.getfield 33, 3) := by decide +kernel
theorem dX2_becomesAsTold_28 : decode cX2_becomesAsTold 28 = .ok (.iconst 0, 1) := by decide +kernel
theorem dX2_becomesAsTold_29 : decode cX2_becomesAsTold 29 = .ok (.aload_n 0, 1) := by decide +kernel
theorem dX2_becomesAsTold_30 : decode cX2_becomesAsTold 30 = .ok (.getfield 21, 3) := by decide +kernel
theorem dX2_becomesAsTold_33 : decode cX2_becomesAsTold 33 = .ok (.iconst 0, 1) := by decide +kernel
theorem dX2_becomesAsTold_34 : decode cX2_becomesAsTold 34 = .ok (.bipush 24, 2) := by decide +kernel
theorem dX2_becomesAsTold_36 : decode cX2_becomesAsTold 36 = .ok (.invokestatic 36, 3) := by decide +kernel
theorem dX2_becomesAsTold_39 : decode cX2_becomesAsTold 39 = .ok (.aload_n 1, 1) := by decide +kernel
theorem dX2_becomesAsTold_40 : decode cX2_becomesAsTold 40 = .ok (.getfield 42, 3) := by decide +kernel
theorem dX2_becomesAsTold_43 : decode cX2_becomesAsTold 43 = .ok (.iconst 0, 1) := by decide +kernel
theorem dX2_becomesAsTold_44 : decode cX2_becomesAsTold 44 = .ok (.aload_n 0, 1) := by decide +kernel
theorem dX2_becomesAsTold_45 : decode cX2_becomesAsTold 45 = .ok (.getfield 24, 3) := by decide +kernel
theorem dX2_becomesAsTold_48 : decode cX2_becomesAsTold 48 = .ok (.iconst 0, 1) := by decide +kernel
theorem dX2_becomesAsTold_49 : decode cX2_becomesAsTold 49 = .ok (.bipush 16, 2) := by decide +kernel
theorem dX2_becomesAsTold_51 : decode cX2_becomesAsTold 51 = .ok (.invokestatic 36, 3) := by decide +kernel
theorem dX2_becomesAsTold_54 : decode cX2_becomesAsTold 54 = .ok (.return_, 1) := by decide +kernel
theorem dX2_copy_0 : decode cX2_copy 0 = .ok (.aload_n 1, 1) := by decide +kernel
theorem dX2_copy_1 : decode cX2_copy 1 = .ok (.getfield 9, 3) := by decide +kernel
theorem dX2_copy_4 : decode cX2_copy 4 = .ok (.iconst 0, 1) := by decide +kernel
theorem dX2_copy_5 : decode cX2_copy 5 = .ok (.aload_n 0, 1) := by decide +kernel
theorem dX2_copy_6 : decode cX2_copy 6 = .ok (.getfield 9, 3) := by decide +kernel
theorem dX2_copy_9 : decode cX2_copy 9 = .ok (.iconst 0, 1) := by decide +kernel
theorem dX2_copy_10 : decode cX2_copy 10 = .ok (.bipush 24, 2) := by decide +kernel
theorem dX2_copy_12 : decode cX2_copy 12 = .ok (.invokestatic 36, 3) := by decide +kernel
theorem dX2_copy_15 : decode cX2_copy 15 = .ok (.aload_n 1, 1) := by decide +kernel
theorem dX2_copy_16 : decode cX2_copy 16 = .ok (.getfield 15, 3) := by decide +kernel
theorem dX2_copy_19 : decode cX2_copy 19 = .ok (.iconst 0, 1) := by decide +kernel
theorem dX2_copy_20 : decode cX2_copy 20 = .ok (.aload_n 0, 1) := by decide +kernel
theorem dX2_copy_21 : decode cX2_copy 21 = .ok (.getfield 15, 3) := by decide +kernel
theorem dX2_copy_24 : decode cX2_copy 24 = .ok (.iconst 0, 1) := by decide +kernel
theorem dX2_copy_25 : decode cX2_copy 25 = .ok (.bipush 24, 2) := by decide +kernel
theorem dX2_copy_27 : decode cX2_copy 27 = .ok (.invokestatic 36, 3) := by decide +kernel
theorem dX2_copy_30 : decode cX2_copy 30 = .ok (.aload_n 1, 1) := by decide +kernel
theorem dX2_copy_31 : decode cX2_copy 31 = .ok (.getfield 18, 3) := by decide +kernel
theorem dX2_copy_34 : decode cX2_copy 34 = .ok (.iconst 0, 1) := by decide +kernel
theorem dX2_copy_35 : decode cX2_copy 35 = .ok (.aload_n 0, 1) := by decide +kernel
theorem dX2_copy_36 : decode cX2_copy 36 = .ok (.getfield 18, 3) := by decide +kernel
theorem dX2_copy_39 : decode cX2_copy 39 = .ok (.iconst 0, 1) := by decide +kernel
theorem dX2_copy_40 : decode cX2_copy 40 = .ok (.bipush 24, 2) := by decide +kernel
theorem dX2_copy_42 : decode cX2_copy 42 = .ok (.invokestatic 36, 3) := by decide +kernel
theorem dX2_copy_45 : decode cX2_copy 45 = .ok (.aload_n 1, 1) := by decide +kernel
theorem dX2_copy_46 : decode cX2_copy 46 = .ok (.getfield 21, 3) := by decide +kernel
theorem dX2_copy_49 : decode cX2_copy 49 = .ok (.iconst 0, 1) := by decide +kernel
theorem dX2_copy_50 : decode cX2_copy 50 = .ok (.aload_n 0, 1) := by decide +kernel
theorem dX2_copy_51 : decode cX2_copy 51 = .ok (.getfield 21, 3) := by decide +kernel
theorem dX2_copy_54 : decode cX2_copy 54 = .ok (.iconst 0, 1) := by decide +kernel
theorem dX2_copy_55 : decode cX2_copy 55 = .ok (.bipush 24, 2) := by decide +kernel
theorem dX2_copy_57 : decode cX2_copy 57 = .ok (.invokestatic 36, 3) := by decide +kernel
theorem dX2_copy_60 : decode cX2_copy 60 = .ok (.aload_n 1, 1) := by decide +kernel
theorem dX2_copy_61 : decode cX2_copy 61 = .ok (.getfield 24, 3) := by decide +kernel
theorem dX2_copy_64 : decode cX2_copy 64 = .ok (.iconst 0, 1) := by decide +kernel
theorem dX2_copy_65 : decode cX2_copy 65 = .ok (.aload_n 0, 1) := by decide +kernel
theorem dX2_copy_66 : decode cX2_copy 66 = .ok (.getfield 24, 3) := by decide +kernel
theorem dX2_copy_69 : decode cX2_copy 69 = .ok (.iconst 0, 1) := by decide +kernel
theorem dX2_copy_70 : decode cX2_copy 70 = .ok (.bipush 16, 2) := by decide +kernel
theorem dX2_copy_72 : decode cX2_copy 72 = .ok (.invokestatic 36, 3) := by decide +kernel
theorem dX2_copy_75 : decode cX2_copy 75 = .ok (.return_, 1) := by decide +kernel
theorem dX2_turn_0 : decode cX2_turn 0 = .ok (.aload_n 0, 1) := by decide +kernel
theorem dX2_turn_1 : decode cX2_turn 1 = .ok (.getfield 24, 3) := by decide +kernel
theorem dX2_turn_4 : decode cX2_turn 4 = .ok (.iconst 2, 1) := by decide +kernel
theorem dX2_turn_5 : decode cX2_turn 5 = .ok (.iload_n 1, 1) := by decide +kernel
theorem dX2_turn_6 : decode cX2_turn 6 = .ok (.imul, 1) := by decide +kernel
theorem dX2_turn_7 : decode cX2_turn 7 = .ok (.iaload, 1) := by decide +kernel
theorem dX2_turn_8 : decode cX2_turn 8 = .ok (.istore_n 2, 1) := by decide +kernel
theorem dX2_turn_9 : decode cX2_turn 9 = .ok (.aload_n 0, 1) := by decide +kernel
theorem dX2_turn_10 : decode cX2_turn 10 = .ok (.getfield 24, 3) := by decide +kernel
theorem dX2_turn_13 : decode cX2_turn 13 = .ok (.iconst 2, 1) := by decide +kernel
theorem dX2_turn_14 : decode cX2_turn 14 = .ok (.iload_n 1, 1) := by decide +kernel
theorem dX2_turn_15 : decode cX2_turn 15 = .ok (.imul, 1) := by decide +kernel
theorem dX2_turn_16 : decode cX2_turn 16 = .ok (.aload_n 0, 1) := by decide +kernel
theorem dX2_turn_17 : decode cX2_turn 17 = .ok (.getfield 24, 3) := by decide +kernel
theorem dX2_turn_20 : decode cX2_turn 20 = .ok (.iconst 2, 1) := by decide +kernel
theorem dX2_turn_21 : decode cX2_turn 21 = .ok (.iload_n 1, 1) := by decide +kernel
theorem dX2_turn_22 : decode cX2_turn 22 = .ok (.imul, 1) := by decide +kernel
theorem dX2_turn_23 : decode cX2_turn 23 = .ok (.iconst 1, 1) := by decide +kernel
theorem dX2_turn_24 : decode cX2_turn 24 = .ok (.iadd, 1) := by decide +kernel
theorem dX2_turn_25 : decode cX2_turn 25 = .ok (.iaload, 1) := by decide +kernel
theorem dX2_turn_26 : decode cX2_turn 26 = .ok (.iastore, 1) := by decide +kernel
theorem dX2_turn_27 : decode cX2_turn 27 = .ok (.aload_n 0, 1) := by decide +kernel
theorem dX2_turn_28 : decode cX2_turn 28 = .ok (.getfield 24, 3) := by decide +kernel
theorem dX2_turn_31 : decode cX2_turn 31 = .ok (.iconst 2, 1) := by decide +kernel
theorem dX2_turn_32 : decode cX2_turn 32 = .ok (.iload_n 1, 1) := by decide +kernel
theorem dX2_turn_33 : decode cX2_turn 33 = .ok (.imul, 1) := by decide +kernel
theorem dX2_turn_34 : decode cX2_turn 34 = .ok (.iconst 1, 1) := by decide +kernel
theorem dX2_turn_35 : decode cX2_turn 35 = .ok (.iadd, 1) := by decide +kernel
theorem dX2_turn_36 : decode cX2_turn 36 = .ok (.iload_n 2, 1) := by decide +kernel
theorem dX2_turn_37 : decode cX2_turn 37 = .ok (.iastore, 1) := by decide +kernel
theorem dX2_turn_38 : decode cX2_turn 38 = .ok (.return_, 1) := by decide +kernel
theorem dX2_inputOf_0 : decode cX2_inputOf 0 = .ok (.aload_n 0, 1) := by decide +kernel
theorem dX2_inputOf_1 : decode cX2_inputOf 1 = .ok (.getfield 9, 3) := by decide +kernel
theorem dX2_inputOf_4 : decode cX2_inputOf 4 = .ok (.iload_n 1, 1) := by decide +kernel
theorem dX2_inputOf_5 : decode cX2_inputOf 5 = .ok (.iaload, 1) := by decide +kernel
theorem dX2_inputOf_6 : decode cX2_inputOf 6 = .ok (.iconst 1, 1) := by decide +kernel
theorem dX2_inputOf_7 : decode cX2_inputOf 7 = .ok (.if_icmp .ne 12, 3) := by decide +kernel
theorem dX2_inputOf_10 : decode cX2_inputOf 10 = .ok (.aload_n 0, 1) := by decide +kernel
theorem dX2_inputOf_11 : decode cX2_inputOf 11 = .ok (.getfield 15, 3) := by decide +kernel
theorem dX2_inputOf_14 : decode cX2_inputOf 14 = .ok (.iload_n 1, 1) := by decide +kernel
theorem dX2_inputOf_15 : decode cX2_inputOf 15 = .ok (.iaload, 1) := by decide +kernel
theorem dX2_inputOf_16 : decode cX2_inputOf 16 = .ok (.goto 9, 3) := by decide +kernel
theorem dX2_inputOf_19 : decode cX2_inputOf 19 = .ok (.aload_n 0, 1) := by decide +kernel
theorem dX2_inputOf_20 : decode cX2_inputOf 20 = .ok (.getfield 18, 3) := by decide +kernel
theorem dX2_inputOf_23 : decode cX2_inputOf 23 = .ok (.iload_n 1, 1) := by decide +kernel
theorem dX2_inputOf_24 : decode cX2_inputOf 24 = .ok (.iaload, 1) := by decide +kernel
theorem dX2_inputOf_25 : decode cX2_inputOf 25 = .ok (.ireturn, 1) := by decide +kernel
theorem dX3_faultOf_0 : decode cX3_faultOf 0 = .ok (.aload_n 1, 1) := by decide +kernel
theorem dX3_faultOf_1 : decode cX3_faultOf 1 = .ok (.invokevirtual 9, 3) := by decide +kernel
theorem dX3_faultOf_4 : decode cX3_faultOf 4 = .ok (.aload_n 0, 1) := by decide +kernel
theorem dX3_faultOf_5 : decode cX3_faultOf 5 = .ok (.invokevirtual 14, 3) := by decide +kernel
theorem dX3_faultOf_8 : decode cX3_faultOf 8 = .ok (.iconst 0, 1) := by decide +kernel
theorem dX3_faultOf_9 : decode cX3_faultOf 9 = .ok (.istore_n 2, 1) := by decide +kernel
theorem dX3_faultOf_10 : decode cX3_faultOf 10 = .ok (.iload_n 2, 1) := by decide +kernel
theorem dX3_faultOf_11 : decode cX3_faultOf 11 = .ok (.sipush 150, 3) := by decide +kernel
theorem dX3_faultOf_14 : decode cX3_faultOf 14 = .ok (.if_icmp .ge 21, 3) := by decide +kernel
theorem dX3_faultOf_17 : decode cX3_faultOf 17 = .ok (.aload_n 0, 1) := by decide +kernel
theorem dX3_faultOf_18 : decode cX3_faultOf 18 = .ok (.invokevirtual 19, 3) := by decide +kernel
theorem dX3_faultOf_21 : decode cX3_faultOf 21 = .ok (.ifCond .eq 14, 3) := by decide +kernel
theorem dX3_faultOf_24 : decode cX3_faultOf 24 = .ok (.aload_n 0, 1) := by decide +kernel
theorem dX3_faultOf_25 : decode cX3_faultOf 25 = .ok (.aload_n 1, 1) := by decide +kernel
theorem dX3_faultOf_26 : decode cX3_faultOf 26 = .ok (.invokestatic 23, 3) := by decide +kernel
theorem dX3_faultOf_29 : decode cX3_faultOf 29 = .ok (.iinc 2 1, 3) := by decide +kernel
theorem dX3_faultOf_32 : decode cX3_faultOf 32 = .ok (.goto (-22), 3) := by decide +kernel
theorem dX3_faultOf_35 : decode cX3_faultOf 35 = .ok (.aload_n 0, 1) := by decide +kernel
theorem dX3_faultOf_36 : decode cX3_faultOf 36 = .ok (.getfield 29, 3) := by decide +kernel
theorem dX3_faultOf_39 : decode cX3_faultOf 39 = .ok (.ifCond .ne 21, 3) := by decide +kernel
theorem dX3_faultOf_42 : decode cX3_faultOf 42 = .ok (.aload_n 1, 1) := by decide +kernel
theorem dX3_faultOf_43 : decode cX3_faultOf 43 = .ok (.invokevirtual 33, 3) := by decide +kernel
theorem dX3_faultOf_46 : decode cX3_faultOf 46 = .ok (.ifCond .eq 14, 3) := by decide +kernel
theorem dX3_faultOf_49 : decode cX3_faultOf 49 = .ok (.aload_n 1, 1) := by decide +kernel
theorem dX3_faultOf_50 : decode cX3_faultOf 50 = .ok (.invokevirtual 36, 3) := by decide +kernel
theorem dX3_faultOf_53 : decode cX3_faultOf 53 = .ok (.ifCond .eq 7, 3) := by decide +kernel
theorem dX3_faultOf_56 : decode cX3_faultOf 56 = .ok (.iconst 1, 1) := by decide +kernel
theorem dX3_faultOf_57 : decode cX3_faultOf 57 = .ok (.goto 4, 3) := by decide +kernel
theorem dX3_faultOf_60 : decode cX3_faultOf 60 = .ok (.iconst 0, 1) := by decide +kernel
theorem dX3_faultOf_61 : decode cX3_faultOf 61 = .ok (.istore_n 2, 1) := by decide +kernel
theorem dX3_faultOf_62 : decode cX3_faultOf 62 = .ok (.iload_n 2, 1) := by decide +kernel
theorem dX3_faultOf_63 : decode cX3_faultOf 63 = .ok (.ifCond .eq 7, 3) := by decide +kernel
theorem dX3_faultOf_66 : decode cX3_faultOf 66 = .ok (.iconst (-1), 1) := by decide +kernel
theorem dX3_faultOf_67 : decode cX3_faultOf 67 = .ok (.goto 7, 3) := by decide +kernel
theorem dX3_faultOf_70 : decode cX3_faultOf 70 = .ok (.aload_n 0, 1) := by decide +kernel
theorem dX3_faultOf_71 : decode cX3_faultOf 71 = .ok (.getfield 39, 3) := by decide +kernel
theorem dX3_faultOf_74 : decode cX3_faultOf 74 = .ok (.ireturn, 1) := by decide +kernel
theorem dX3_readItem_0 : decode cX3_readItem 0 = .ok (.aload_n 0, 1) := by decide +kernel
theorem dX3_readItem_1 : decode cX3_readItem 1 = .ok (.getfield 43, 3) := by decide +kernel
theorem dX3_readItem_4 : decode cX3_readItem 4 = .ok (.iconst 1, 1) := by decide +kernel
theorem dX3_readItem_5 : decode cX3_readItem 5 = .ok (.if_icmp .ne 10, 3) := by decide +kernel
theorem dX3_readItem_8 : decode cX3_readItem 8 = .ok (.aload_n 0, 1) := by decide +kernel
theorem dX3_readItem_9 : decode cX3_readItem 9 = .ok (.getfield 46, 3) := by decide +kernel
theorem dX3_readItem_12 : decode cX3_readItem 12 = .ok (.goto 4, 3) := by decide +kernel
theorem dX3_readItem_15 : decode cX3_readItem 15 = .ok (.iconst 0, 1) := by decide +kernel
theorem dX3_readItem_16 : decode cX3_readItem 16 = .ok (.istore_n 2, 1) := by decide +kernel
theorem dX3_readItem_17 : decode cX3_readItem 17 = .ok (.aload_n 1, 1) := by decide +kernel
theorem dX3_readItem_18 : decode cX3_readItem 18 = .ok (.iload_n 2, 1) := by decide +kernel
theorem dX3_readItem_19 : decode cX3_readItem 19 = .ok (.invokevirtual 49, 3) := by decide +kernel
theorem dX3_readItem_22 : decode cX3_readItem 22 = .ok (.ifCond .ne 9, 3) := by decide +kernel
theorem dX3_readItem_25 : decode cX3_readItem 25 = .ok (.aload_n 0, 1) := by decide +kernel
theorem dX3_readItem_26 : decode cX3_readItem 26 = .ok (.iconst 1, 1) := by decide +kernel
theorem dX3_readItem_27 : decode cX3_readItem 27 = .ok (.putfield 29, 3) := by decide +kernel
theorem dX3_readItem_30 : decode cX3_readItem 30 = .ok (.return_, 1) := by decide +kernel
theorem dX3_readItem_31 : decode cX3_readItem 31 = .ok (.aload_n 0, 1) := by decide +kernel
theorem dX3_readItem_32 : decode cX3_readItem 32 = .ok (.invokevirtual 53, 3) := by decide +kernel
theorem dX3_readItem_35 : decode cX3_readItem 35 = .ok (.iload_n 2, 1) := by decide +kernel
theorem dX3_readItem_36 : decode cX3_readItem 36 = .ok (.tableswitch 136 98 113 #[80, 136, 136, 136, 136, 120, 136, 87, 112, 96, 136, 136, 136, 104, 136, 128], 80) := by decide +kernel
theorem dX3_readItem_116 : decode cX3_readItem 116 = .ok (.aload_n 1, 1) := by decide +kernel
theorem dX3_readItem_117 : decode cX3_readItem 117 = .ok (.invokevirtual 56, 3) := by decide +kernel
theorem dX3_readItem_120 : decode cX3_readItem 120 = .ok (.goto 57, 3) := by decide +kernel
theorem dX3_readItem_123 : decode cX3_readItem 123 = .ok (.aload_n 1, 1) := by decide +kernel
theorem dX3_readItem_124 : decode cX3_readItem 124 = .ok (.iconst 1, 1) := by decide +kernel
theorem dX3_readItem_125 : decode cX3_readItem 125 = .ok (.invokevirtual 59, 3) := by decide +kernel
theorem dX3_readItem_128 : decode cX3_readItem 128 = .ok (.pop, 1) := by decide +kernel
theorem dX3_readItem_129 : decode cX3_readItem 129 = .ok (.goto 48, 3) := by decide +kernel
theorem dX3_readItem_132 : decode cX3_readItem 132 = .ok (.aload_n 0, 1) := by decide +kernel
theorem dX3_readItem_133 : decode cX3_readItem 133 = .ok (.aload_n 1, 1) := by decide +kernel
theorem dX3_readItem_134 : decode cX3_readItem 134 = .ok (.invokestatic 63, 3) := by decide +kernel
theorem dX3_readItem_137 : decode cX3_readItem 137 = .ok (.goto 40, 3) := by decide +kernel
theorem dX3_readItem_140 : decode cX3_readItem 140 = .ok (.aload_n 0, 1) := by decide +kernel
theorem dX3_readItem_141 : decode cX3_readItem 141 = .ok (.aload_n 1, 1) := by decide +kernel
theorem dX3_readItem_142 : decode cX3_readItem 142 = .ok (.invokestatic 66, 3) := by decide +kernel
theorem dX3_readItem_145 : decode cX3_readItem 145 = .ok (.goto 32, 3) := by decide +kernel
theorem dX3_readItem_148 : decode cX3_readItem 148 = .ok (.aload_n 0, 1) := by decide +kernel
theorem dX3_readItem_149 : decode cX3_readItem 149 = .ok (.aload_n 1, 1) := by decide +kernel
theorem dX3_readItem_150 : decode cX3_readItem 150 = .ok (.invokestatic 69, 3) := by decide +kernel
theorem dX3_readItem_153 : decode cX3_readItem 153 = .ok (.goto 24, 3) := by decide +kernel
theorem dX3_readItem_156 : decode cX3_readItem 156 = .ok (.aload_n 0, 1) := by decide +kernel
theorem dX3_readItem_157 : decode cX3_readItem 157 = .ok (.aload_n 1, 1) := by decide +kernel
theorem dX3_readItem_158 : decode cX3_readItem 158 = .ok (.invokestatic 72, 3) := by decide +kernel
theorem dX3_readItem_161 : decode cX3_readItem 161 = .ok (.goto 16, 3) := by decide +kernel
theorem dX3_readItem_164 : decode cX3_readItem 164 = .ok (.aload_n 0, 1) := by decide +kernel
theorem dX3_readItem_165 : decode cX3_readItem 165 = .ok (.aload_n 1, 1) := by decide +kernel
theorem dX3_readItem_166 : decode cX3_readItem 166 = .ok (.invokestatic 75, 3) := by decide +kernel
theorem dX3_readItem_169 : decode cX3_readItem 169 = .ok (.goto 8, 3) := by decide +kernel
theorem dX3_readItem_172 : decode cX3_readItem 172 = .ok (.aload_n 0, 1) := by decide +kernel
theorem dX3_readItem_173 : decode cX3_readItem 173 = .ok (.aload_n 1, 1) := by decide +kernel
theorem dX3_readItem_174 : decode cX3_readItem 174 = .ok (.invokestatic 78, 3) := by decide +kernel
theorem dX3_readItem_177 : decode cX3_readItem 177 = .ok (.aload_n 0, 1) := by decide +kernel
theorem dX3_readItem_178 : decode cX3_readItem 178 = .ok (.iconst 4, 1) := by decide +kernel
theorem dX3_readItem_179 : decode cX3_readItem 179 = .ok (.sipush 1000, 3) := by decide +kernel
theorem dX3_readItem_182 : decode cX3_readItem 182 = .ok (.invokevirtual 81, 3) := by decide +kernel
theorem dX3_readItem_185 : decode cX3_readItem 185 = .ok (.pop, 1) := by decide +kernel
theorem dX3_readItem_186 : decode cX3_readItem 186 = .ok (.return_, 1) := by decide +kernel
theorem dX3_readNumber_0 : decode cX3_readNumber 0 = .ok (.aload_n 1, 1) := by decide +kernel
theorem dX3_readNumber_1 : decode cX3_readNumber 1 = .ok (.iconst 0, 1) := by decide +kernel
theorem dX3_readNumber_2 : decode cX3_readNumber 2 = .ok (.invokevirtual 59, 3) := by decide +kernel
theorem dX3_readNumber_5 : decode cX3_readNumber 5 = .ok (.istore_n 2, 1) := by decide +kernel
theorem dX3_readNumber_6 : decode cX3_readNumber 6 = .ok (.aload_n 1, 1) := by decide +kernel
theorem dX3_readNumber_7 : decode cX3_readNumber 7 = .ok (.getfield 85, 3) := by decide +kernel
theorem dX3_readNumber_10 : decode cX3_readNumber 10 = .ok (.iload_n 2, 1) := by decide +kernel
theorem dX3_readNumber_11 : decode cX3_readNumber 11 = .ok (.aload_n 0, 1) := by decide +kernel
theorem dX3_readNumber_12 : decode cX3_readNumber 12 = .ok (.iconst 2, 1) := by decide +kernel
theorem dX3_readNumber_13 : decode cX3_readNumber 13 = .ok (.sipush 1000, 3) := by decide +kernel
theorem dX3_readNumber_16 : decode cX3_readNumber 16 = .ok (.invokevirtual 81, 3) := by decide +kernel
theorem dX3_readNumber_19 : decode cX3_readNumber 19 = .ok (.iastore, 1) := by decide +kernel
theorem dX3_readNumber_20 : decode cX3_readNumber 20 = .ok (.return_, 1) := by decide +kernel
theorem dX3_readOperation_0 : decode cX3_readOperation 0 = .ok (.aload_n 1, 1) := by decide +kernel
theorem dX3_readOperation_1 : decode cX3_readOperation 1 = .ok (.iconst 2, 1) := by decide +kernel
theorem dX3_readOperation_2 : decode cX3_readOperation 2 = .ok (.invokevirtual 59, 3) := by decide +kernel
theorem dX3_readOperation_5 : decode cX3_readOperation 5 = .ok (.istore_n 2, 1) := by decide +kernel
theorem dX3_readOperation_6 : decode cX3_readOperation 6 = .ok (.aload_n 1, 1) := by decide +kernel
theorem dX3_readOperation_7 : decode cX3_readOperation 7 = .ok (.getfield 89, 3) := by decide +kernel
theorem dX3_readOperation_10 : decode cX3_readOperation 10 = .ok (.iload_n 2, 1) := by decide +kernel
theorem dX3_readOperation_11 : decode cX3_readOperation 11 = .ok (.aload_n 0, 1) := by decide +kernel
theorem dX3_readOperation_12 : decode cX3_readOperation 12 = .ok (.iconst 2, 1) := by decide +kernel
theorem dX3_readOperation_13 : decode cX3_readOperation 13 = .ok (.bipush 24, 2) := by decide +kernel
theorem dX3_readOperation_15 : decode cX3_readOperation 15 = .ok (.invokevirtual 81, 3) := by decide +kernel
theorem dX3_readOperation_18 : decode cX3_readOperation 18 = .ok (.iastore, 1) := by decide +kernel
theorem dX3_readOperation_19 : decode cX3_readOperation 19 = .ok (.aload_n 1, 1) := by decide +kernel
theorem dX3_readOperation_20 : decode cX3_readOperation 20 = .ok (.getfield 92, 3) := by decide +kernel
theorem dX3_readOperation_23 : decode cX3_readOperation 23 = .ok (.iload_n 2, 1) := by decide +kernel
theorem dX3_readOperation_24 : decode cX3_readOperation 24 = .ok (.aload_n 0, 1) := by decide +kernel
theorem dX3_readOperation_25 : decode cX3_readOperation 25 = .ok (.iconst 3, 1) := by decide +kernel
theorem dX3_readOperation_26 : decode cX3_readOperation 26 = .ok (.sipush 1000, 3) := by decide +kernel
theorem dX3_readOperation_29 : decode cX3_readOperation 29 = .ok (.invokevirtual 81, 3) := by decide +kernel
theorem dX3_readOperation_32 : decode cX3_readOperation 32 = .ok (.iastore, 1) := by decide +kernel
theorem dX3_readOperation_33 : decode cX3_readOperation 33 = .ok (.aload_n 1, 1) := by decide +kernel
theorem dX3_readOperation_34 : decode cX3_readOperation 34 = .ok (.getfield 95, 3) := by decide +kernel
theorem dX3_readOperation_37 : decode cX3_readOperation 37 = .ok (.iload_n 2, 1) := by decide +kernel
theorem dX3_readOperation_38 : decode cX3_readOperation 38 = .ok (.aload_n 0, 1) := by decide +kernel
theorem dX3_readOperation_39 : decode cX3_readOperation 39 = .ok (.iconst 2, 1) := by decide +kernel
theorem dX3_readOperation_40 : decode cX3_readOperation 40 = .ok (.bipush 24, 2) := by decide +kernel
theorem dX3_readOperation_42 : decode cX3_readOperation 42 = .ok (.invokevirtual 81, 3) := by decide +kernel
theorem dX3_readOperation_45 : decode cX3_readOperation 45 = .ok (.iastore, 1) := by decide +kernel
theorem dX3_readOperation_46 : decode cX3_readOperation 46 = .ok (.return_, 1) := by decide +kernel
theorem dX3_readArms_0 : decode cX3_readArms 0 = .ok (.aload_n 1, 1) := by decide +kernel
theorem dX3_readArms_1 : decode cX3_readArms 1 = .ok (.iconst 3, 1) := by decide +kernel
theorem dX3_readArms_2 : decode cX3_readArms 2 = .ok (.invokevirtual 59, 3) := by decide +kernel
theorem dX3_readArms_5 : decode cX3_readArms 5 = .ok (.istore_n 2, 1) := by decide +kernel
theorem dX3_readArms_6 : decode cX3_readArms 6 = .ok (.iconst 0, 1) := by decide +kernel
theorem dX3_readArms_7 : decode cX3_readArms 7 = .ok (.istore_n 3, 1) := by decide +kernel
theorem dX3_readArms_8 : decode cX3_readArms 8 = .ok (.iload_n 3, 1) := by decide +kernel
theorem dX3_readArms_9 : decode cX3_readArms 9 = .ok (.iconst 3, 1) := by decide +kernel
theorem dX3_readArms_10 : decode cX3_readArms 10 = .ok (.if_icmp .ge 73, 3) := by decide +kernel
theorem dX3_readArms_13 : decode cX3_readArms 13 = .ok (.iload_n 3, 1) := by decide +kernel
theorem dX3_readArms_14 : decode cX3_readArms 14 = .ok (.ifCond .eq 11, 3) := by decide +kernel
theorem dX3_readArms_17 : decode cX3_readArms 17 = .ok (.aload_n 0, 1) := by decide +kernel
theorem dX3_readArms_18 : decode cX3_readArms 18 = .ok (.getfield 43, 3) := by decide +kernel
theorem dX3_readArms_21 : decode cX3_readArms 21 = .ok (.iconst 4, 1) := by decide +kernel
theorem dX3_readArms_22 : decode cX3_readArms 22 = .ok (.if_icmp .eq 61, 3) := by decide +kernel
theorem dX3_readArms_25 : decode cX3_readArms 25 = .ok (.aload_n 0, 1) := by decide +kernel
theorem dX3_readArms_26 : decode cX3_readArms 26 = .ok (.getfield 43, 3) := by decide +kernel
theorem dX3_readArms_29 : decode cX3_readArms 29 = .ok (.iconst 2, 1) := by decide +kernel
theorem dX3_readArms_30 : decode cX3_readArms 30 = .ok (.if_icmp .ne 20, 3) := by decide +kernel
theorem dX3_readArms_33 : decode cX3_readArms 33 = .ok (.aload_n 1, 1) := by decide +kernel
theorem dX3_readArms_34 : decode cX3_readArms 34 = .ok (.iload_n 2, 1) := by decide +kernel
theorem dX3_readArms_35 : decode cX3_readArms 35 = .ok (.aload_n 0, 1) := by decide +kernel
theorem dX3_readArms_36 : decode cX3_readArms 36 = .ok (.getfield 46, 3) := by decide +kernel
theorem dX3_readArms_39 : decode cX3_readArms 39 = .ok (.invokevirtual 98, 3) := by decide +kernel
theorem dX3_readArms_42 : decode cX3_readArms 42 = .ok (.ifCond .eq 8, 3) := by decide +kernel
theorem dX3_readArms_45 : decode cX3_readArms 45 = .ok (.aload_n 0, 1) := by decide +kernel
theorem dX3_readArms_46 : decode cX3_readArms 46 = .ok (.iconst 1, 1) := by decide +kernel
theorem dX3_readArms_47 : decode cX3_readArms 47 = .ok (.putfield 29, 3) := by decide +kernel
theorem dX3_readArms_50 : decode cX3_readArms 50 = .ok (.aload_n 0, 1) := by decide +kernel
theorem dX3_readArms_51 : decode cX3_readArms 51 = .ok (.iconst 2, 1) := by decide +kernel
theorem dX3_readArms_52 : decode cX3_readArms 52 = .ok (.bipush 8, 2) := by decide +kernel
theorem dX3_readArms_54 : decode cX3_readArms 54 = .ok (.invokevirtual 81, 3) := by decide +kernel
theorem dX3_readArms_57 : decode cX3_readArms 57 = .ok (.istore 4, 2) := by decide +kernel
theorem dX3_readArms_59 : decode cX3_readArms 59 = .ok (.aload_n 0, 1) := by decide +kernel
theorem dX3_readArms_60 : decode cX3_readArms 60 = .ok (.iconst 2, 1) := by decide +kernel
theorem dX3_readArms_61 : decode cX3_readArms 61 = .ok (.bipush 24, 2) := by decide +kernel
theorem dX3_readArms_63 : decode cX3_readArms 63 = .ok (.invokevirtual 81, 3) := by decide +kernel
theorem dX3_readArms_66 : decode cX3_readArms 66 = .ok (.istore 5, 2) := by decide +kernel
theorem dX3_readArms_68 : decode cX3_readArms 68 = .ok (.aload_n 1, 1) := by decide +kernel
theorem dX3_readArms_69 : decode cX3_readArms 69 = .ok (.iload_n 2, 1) := by decide +kernel
theorem dX3_readArms_70 : decode cX3_readArms 70 = .ok (.iload 4, 2) := by decide +kernel
theorem dX3_readArms_72 : decode cX3_readArms 72 = .ok (.iload 5, 2) := by decide +kernel
theorem dX3_readArms_74 : decode cX3_readArms 74 = .ok (.invokevirtual 102, 3) := by decide +kernel
theorem dX3_readArms_77 : decode cX3_readArms 77 = .ok (.iinc 3 1, 3) := by decide +kernel
theorem dX3_readArms_80 : decode cX3_readArms 80 = .ok (.goto (-72), 3) := by decide +kernel
theorem dX3_readArms_83 : decode cX3_readArms 83 = .ok (.return_, 1) := by decide +kernel
theorem dX3_readGoing_0 : decode cX3_readGoing 0 = .ok (.aload_n 1, 1) := by decide +kernel
theorem dX3_readGoing_1 : decode cX3_readGoing 1 = .ok (.iconst 0, 1) := by decide +kernel
