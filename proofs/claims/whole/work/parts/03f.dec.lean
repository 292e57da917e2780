theorem dX9_takes_19 : decode cX9_takes 19 = .ok (.iconst 0, 1) := by decide +kernel
theorem dX9_takes_20 : decode cX9_takes 20 = .ok (.istore 4, 2) := by decide +kernel
theorem dX9_takes_22 : decode cX9_takes 22 = .ok (.iload 4, 2) := by decide +kernel
theorem dX9_takes_24 : decode cX9_takes 24 = .ok (.aload_n 0, 1) := by decide +kernel
theorem dX9_takes_25 : decode cX9_takes 25 = .ok (.getfield 28, 3) := by decide +kernel
theorem dX9_takes_28 : decode cX9_takes 28 = .ok (.iload_n 3, 1) := by decide +kernel
theorem dX9_takes_29 : decode cX9_takes 29 = .ok (.iaload, 1) := by decide +kernel
theorem dX9_takes_30 : decode cX9_takes 30 = .ok (.if_icmp .ge 46, 3) := by decide +kernel
theorem dX9_takes_33 : decode cX9_takes 33 = .ok (.aload_n 0, 1) := by decide +kernel
theorem dX9_takes_34 : decode cX9_takes 34 = .ok (.getfield 31, 3) := by decide +kernel
theorem dX9_takes_37 : decode cX9_takes 37 = .ok (.iconst 3, 1) := by decide +kernel
theorem dX9_takes_38 : decode cX9_takes 38 = .ok (.iload_n 3, 1) := by decide +kernel
theorem dX9_takes_39 : decode cX9_takes 39 = .ok (.imul, 1) := by decide +kernel
theorem dX9_takes_40 : decode cX9_takes 40 = .ok (.iload 4, 2) := by decide +kernel
theorem dX9_takes_42 : decode cX9_takes 42 = .ok (.iadd, 1) := by decide +kernel
theorem dX9_takes_43 : decode cX9_takes 43 = .ok (.iaload, 1) := by decide +kernel
theorem dX9_takes_44 : decode cX9_takes 44 = .ok (.iload_n 2, 1) := by decide +kernel
theorem dX9_takes_45 : decode cX9_takes 45 = .ok (.if_icmp .ne 25, 3) := by decide +kernel
theorem dX9_takes_48 : decode cX9_takes 48 = .ok (.aload_n 0, 1) := by decide +kernel
theorem dX9_takes_49 : decode cX9_takes 49 = .ok (.getfield 116, 3) := by decide +kernel
theorem dX9_takes_52 : decode cX9_takes 52 = .ok (.iload_n 3, 1) := by decide +kernel
theorem dX9_takes_53 : decode cX9_takes 53 = .ok (.aload_n 0, 1) := by decide +kernel
theorem dX9_takes_54 : decode cX9_takes 54 = .ok (.getfield 113, 3) := by decide +kernel
theorem dX9_takes_57 : decode cX9_takes 57 = .ok (.aload_n 0, 1) := by decide +kernel
theorem dX9_takes_58 : decode cX9_takes 58 = .ok (.getfield 34, 3) := by decide +kernel
theorem dX9_takes_61 : decode cX9_takes 61 = .ok (.iconst 3, 1) := by decide +kernel
theorem dX9_takes_62 : decode cX9_takes 62 = .ok (.iload_n 3, 1) := by decide +kernel
theorem dX9_takes_63 : decode cX9_takes 63 = .ok (.imul, 1) := by decide +kernel
theorem dX9_takes_64 : decode cX9_takes 64 = .ok (.iload 4, 2) := by decide +kernel
theorem dX9_takes_66 : decode cX9_takes 66 = .ok (.iadd, 1) := by decide +kernel
theorem dX9_takes_67 : decode cX9_takes 67 = .ok (.iaload, 1) := by decide +kernel
theorem dX9_takes_68 : decode cX9_takes 68 = .ok (.iaload, 1) := by decide +kernel
theorem dX9_takes_69 : decode cX9_takes 69 = .ok (.iastore, 1) := by decide +kernel
theorem dX9_takes_70 : decode cX9_takes 70 = .ok (.iinc 4 1, 3) := by decide +kernel
theorem dX9_takes_73 : decode cX9_takes 73 = .ok (.goto (-51), 3) := by decide +kernel
theorem dX9_takes_76 : decode cX9_takes 76 = .ok (.iinc 3 1, 3) := by decide +kernel
theorem dX9_takes_79 : decode cX9_takes 79 = .ok (.goto (-72), 3) := by decide +kernel
theorem dX9_takes_82 : decode cX9_takes 82 = .ok (.aload_n 0, 1) := by decide +kernel
theorem dX9_takes_83 : decode cX9_takes 83 = .ok (.getfield 37, 3) := by decide +kernel
theorem dX9_takes_86 : decode cX9_takes 86 = .ok (.iload_n 1, 1) := by decide +kernel
theorem dX9_takes_87 : decode cX9_takes 87 = .ok (.iaload, 1) := by decide +kernel
theorem dX9_takes_88 : decode cX9_takes 88 = .ok (.istore_n 3, 1) := by decide +kernel
theorem dX9_takes_89 : decode cX9_takes 89 = .ok (.iload_n 3, 1) := by decide +kernel
theorem dX9_takes_90 : decode cX9_takes 90 = .ok (.aload_n 0, 1) := by decide +kernel
theorem dX9_takes_91 : decode cX9_takes 91 = .ok (.getfield 37, 3) := by decide +kernel
theorem dX9_takes_94 : decode cX9_takes 94 = .ok (.iload_n 1, 1) := by decide +kernel
theorem dX9_takes_95 : decode cX9_takes 95 = .ok (.iconst 1, 1) := by decide +kernel
theorem dX9_takes_96 : decode cX9_takes 96 = .ok (.iadd, 1) := by decide +kernel
theorem dX9_takes_97 : decode cX9_takes 97 = .ok (.iaload, 1) := by decide +kernel
theorem dX9_takes_98 : decode cX9_takes 98 = .ok (.if_icmp .ge 40, 3) := by decide +kernel
theorem dX9_takes_101 : decode cX9_takes 101 = .ok (.aload_n 0, 1) := by decide +kernel
theorem dX9_takes_102 : decode cX9_takes 102 = .ok (.getfield 113, 3) := by decide +kernel
theorem dX9_takes_105 : decode cX9_takes 105 = .ok (.iload_n 3, 1) := by decide +kernel
theorem dX9_takes_106 : decode cX9_takes 106 = .ok (.aload_n 0, 1) := by decide +kernel
theorem dX9_takes_107 : decode cX9_takes 107 = .ok (.getfield 13, 3) := by decide +kernel
theorem dX9_takes_110 : decode cX9_takes 110 = .ok (.iload_n 3, 1) := by decide +kernel
theorem dX9_takes_111 : decode cX9_takes 111 = .ok (.iaload, 1) := by decide +kernel
theorem dX9_takes_112 : decode cX9_takes 112 = .ok (.iconst 3, 1) := by decide +kernel
theorem dX9_takes_113 : decode cX9_takes 113 = .ok (.if_icmp .ne 12, 3) := by decide +kernel
theorem dX9_takes_116 : decode cX9_takes 116 = .ok (.aload_n 0, 1) := by decide +kernel
theorem dX9_takes_117 : decode cX9_takes 117 = .ok (.getfield 116, 3) := by decide +kernel
theorem dX9_takes_120 : decode cX9_takes 120 = .ok (.iload_n 3, 1) := by decide +kernel
theorem dX9_takes_121 : decode cX9_takes 121 = .ok (.iaload, 1) := by decide +kernel
theorem dX9_takes_122 : decode cX9_takes 122 = .ok (.goto 9, 3) := by decide +kernel
theorem dX9_takes_125 : decode cX9_takes 125 = .ok (.aload_n 0, 1) := by decide +kernel
theorem dX9_takes_126 : decode cX9_takes 126 = .ok (.getfield 113, 3) := by decide +kernel
theorem dX9_takes_129 : decode cX9_takes 129 = .ok (.iload_n 3, 1) := by decide +kernel
theorem dX9_takes_130 : decode cX9_takes 130 = .ok (.iaload, 1) := by decide +kernel
theorem dX9_takes_131 : decode cX9_takes 131 = .ok (.iastore, 1) := by decide +kernel
theorem dX9_takes_132 : decode cX9_takes 132 = .ok (.iinc 3 1, 3) := by decide +kernel
theorem dX9_takes_135 : decode cX9_takes 135 = .ok (.goto (-46), 3) := by decide +kernel
theorem dX9_takes_138 : decode cX9_takes 138 = .ok (.return_, 1) := by decide +kernel
theorem dX9_makes_0 : decode cX9_makes 0 = .ok (.aload_n 0, 1) := by decide +kernel
theorem dX9_makes_1 : decode cX9_makes 1 = .ok (.getfield 37, 3) := by decide +kernel
theorem dX9_makes_4 : decode cX9_makes 4 = .ok (.iload_n 1, 1) := by decide +kernel
theorem dX9_makes_5 : decode cX9_makes 5 = .ok (.iaload, 1) := by decide +kernel
theorem dX9_makes_6 : decode cX9_makes 6 = .ok (.istore_n 2, 1) := by decide +kernel
theorem dX9_makes_7 : decode cX9_makes 7 = .ok (.iload_n 2, 1) := by decide +kernel
theorem dX9_makes_8 : decode cX9_makes 8 = .ok (.aload_n 0, 1) := by decide +kernel
theorem dX9_makes_9 : decode cX9_makes 9 = .ok (.getfield 37, 3) := by decide +kernel
theorem dX9_makes_12 : decode cX9_makes 12 = .ok (.iload_n 1, 1) := by decide +kernel
theorem dX9_makes_13 : decode cX9_makes 13 = .ok (.iconst 1, 1) := by decide +kernel
theorem dX9_makes_14 : decode cX9_makes 14 = .ok (.iadd, 1) := by decide +kernel
theorem dX9_makes_15 : decode cX9_makes 15 = .ok (.iaload, 1) := by decide +kernel
theorem dX9_makes_16 : decode cX9_makes 16 = .ok (.if_icmp .ge 147, 3) := by decide +kernel
theorem dX9_makes_19 : decode cX9_makes 19 = .ok (.aload_n 0, 1) := by decide +kernel
theorem dX9_makes_20 : decode cX9_makes 20 = .ok (.getfield 13, 3) := by decide +kernel
theorem dX9_makes_23 : decode cX9_makes 23 = .ok (.iload_n 2, 1) := by decide +kernel
theorem dX9_makes_24 : decode cX9_makes 24 = .ok (.iaload, 1) := by decide +kernel
theorem dX9_makes_25 : decode cX9_makes 25 = .ok (.iconst 2, 1) := by decide +kernel
theorem dX9_makes_26 : decode cX9_makes 26 = .ok (.if_icmp .ne 55, 3) := by decide +kernel
theorem dX9_makes_29 : decode cX9_makes 29 = .ok (.aload_n 0, 1) := by decide +kernel
theorem dX9_makes_30 : decode cX9_makes 30 = .ok (.aload_n 0, 1) := by decide +kernel
theorem dX9_makes_31 : decode cX9_makes 31 = .ok (.getfield 19, 3) := by decide +kernel
theorem dX9_makes_34 : decode cX9_makes 34 = .ok (.iload_n 2, 1) := by decide +kernel
theorem dX9_makes_35 : decode cX9_makes 35 = .ok (.iaload, 1) := by decide +kernel
theorem dX9_makes_36 : decode cX9_makes 36 = .ok (.aload_n 0, 1) := by decide +kernel
theorem dX9_makes_37 : decode cX9_makes 37 = .ok (.getfield 113, 3) := by decide +kernel
theorem dX9_makes_40 : decode cX9_makes 40 = .ok (.aload_n 0, 1) := by decide +kernel
theorem dX9_makes_41 : decode cX9_makes 41 = .ok (.getfield 22, 3) := by decide +kernel
theorem dX9_makes_44 : decode cX9_makes 44 = .ok (.iload_n 2, 1) := by decide +kernel
theorem dX9_makes_45 : decode cX9_makes 45 = .ok (.iaload, 1) := by decide +kernel
theorem dX9_makes_46 : decode cX9_makes 46 = .ok (.iaload, 1) := by decide +kernel
theorem dX9_makes_47 : decode cX9_makes 47 = .ok (.aload_n 0, 1) := by decide +kernel
theorem dX9_makes_48 : decode cX9_makes 48 = .ok (.getfield 113, 3) := by decide +kernel
theorem dX9_makes_51 : decode cX9_makes 51 = .ok (.aload_n 0, 1) := by decide +kernel
theorem dX9_makes_52 : decode cX9_makes 52 = .ok (.getfield 25, 3) := by decide +kernel
theorem dX9_makes_55 : decode cX9_makes 55 = .ok (.iload_n 2, 1) := by decide +kernel
theorem dX9_makes_56 : decode cX9_makes 56 = .ok (.iaload, 1) := by decide +kernel
theorem dX9_makes_57 : decode cX9_makes 57 = .ok (.iaload, 1) := by decide +kernel
theorem dX9_makes_58 : decode cX9_makes 58 = .ok (.invokevirtual 226, 3) := by decide +kernel
theorem dX9_makes_61 : decode cX9_makes 61 = .ok (.istore_n 3, 1) := by decide +kernel
theorem dX9_makes_62 : decode cX9_makes 62 = .ok (.aload_n 0, 1) := by decide +kernel
theorem dX9_makes_63 : decode cX9_makes 63 = .ok (.getfield 219, 3) := by decide +kernel
theorem dX9_makes_66 : decode cX9_makes 66 = .ok (.ifCond .eq 5, 3) := by decide +kernel
theorem dX9_makes_69 : decode cX9_makes 69 = .ok (.iload_n 2, 1) := by decide +kernel
theorem dX9_makes_70 : decode cX9_makes 70 = .ok (.ireturn, 1) := by decide +kernel
theorem dX9_makes_71 : decode cX9_makes 71 = .ok (.aload_n 0, 1) := by decide +kernel
theorem dX9_makes_72 : decode cX9_makes 72 = .ok (.getfield 113, 3) := by decide +kernel
theorem dX9_makes_75 : decode cX9_makes 75 = .ok (.iload_n 2, 1) := by decide +kernel
theorem dX9_makes_76 : decode cX9_makes 76 = .ok (.iload_n 3, 1) := by decide +kernel
theorem dX9_makes_77 : decode cX9_makes 77 = .ok (.iastore, 1) := by decide +kernel
theorem dX9_makes_78 : decode cX9_makes 78 = .ok (.goto 79, 3) := by decide +kernel
theorem dX9_makes_81 : decode cX9_makes 81 = .ok (.aload_n 0, 1) := by decide +kernel
theorem dX9_makes_82 : decode cX9_makes 82 = .ok (.getfield 13, 3) := by decide +kernel
theorem dX9_makes_85 : decode cX9_makes 85 = .ok (.iload_n 2, 1) := by decide +kernel
theorem dX9_makes_86 : decode cX9_makes 86 = .ok (.iaload, 1) := by decide +kernel
theorem dX9_makes_87 : decode cX9_makes 87 = .ok (.ifCond .ne 21, 3) := by decide +kernel
theorem dX9_makes_90 : decode cX9_makes 90 = .ok (.aload_n 0, 1) := by decide +kernel
theorem dX9_makes_91 : decode cX9_makes 91 = .ok (.getfield 113, 3) := by decide +kernel
theorem dX9_makes_94 : decode cX9_makes 94 = .ok (.iload_n 2, 1) := by decide +kernel
theorem dX9_makes_95 : decode cX9_makes 95 = .ok (.aload_n 0, 1) := by decide +kernel
theorem dX9_makes_96 : decode cX9_makes 96 = .ok (.getfield 49, 3) := by decide +kernel
theorem dX9_makes_99 : decode cX9_makes 99 = .ok (.bipush 72, 2) := by decide +kernel
theorem dX9_makes_101 : decode cX9_makes 101 = .ok (.iload_n 2, 1) := by decide +kernel
theorem dX9_makes_102 : decode cX9_makes 102 = .ok (.iadd, 1) := by decide +kernel
theorem dX9_makes_103 : decode cX9_makes 103 = .ok (.iaload, 1) := by decide +kernel
theorem dX9_makes_104 : decode cX9_makes 104 = .ok (.iastore, 1) := by decide +kernel
theorem dX9_makes_105 : decode cX9_makes 105 = .ok (.goto 52, 3) := by decide +kernel
theorem dX9_makes_108 : decode cX9_makes 108 = .ok (.aload_n 0, 1) := by decide +kernel
theorem dX9_makes_109 : decode cX9_makes 109 = .ok (.getfield 13, 3) := by decide +kernel
theorem dX9_makes_112 : decode cX9_makes 112 = .ok (.iload_n 2, 1) := by decide +kernel
theorem dX9_makes_113 : decode cX9_makes 113 = .ok (.iaload, 1) := by decide +kernel
theorem dX9_makes_114 : decode cX9_makes 114 = .ok (.iconst 1, 1) := by decide +kernel
theorem dX9_makes_115 : decode cX9_makes 115 = .ok (.if_icmp .ne 42, 3) := by decide +kernel
theorem dX9_makes_118 : decode cX9_makes 118 = .ok (.aload_n 0, 1) := by decide +kernel
theorem dX9_makes_119 : decode cX9_makes 119 = .ok (.getfield 113, 3) := by decide +kernel
theorem dX9_makes_122 : decode cX9_makes 122 = .ok (.iload_n 2, 1) := by decide +kernel
theorem dX9_makes_123 : decode cX9_makes 123 = .ok (.aload_n 0, 1) := by decide +kernel
theorem dX9_makes_124 : decode cX9_makes 124 = .ok (.getfield 49, 3) := by decide +kernel
theorem dX9_makes_127 : decode cX9_makes 127 = .ok (.iconst 0, 1) := by decide +kernel
theorem dX9_makes_128 : decode cX9_makes 128 = .ok (.iload_n 2, 1) := by decide +kernel
theorem dX9_makes_129 : decode cX9_makes 129 = .ok (.iadd, 1) := by decide +kernel
theorem dX9_makes_130 : decode cX9_makes 130 = .ok (.iaload, 1) := by decide +kernel
theorem dX9_makes_131 : decode cX9_makes 131 = .ok (.iconst 1, 1) := by decide +kernel
theorem dX9_makes_132 : decode cX9_makes 132 = .ok (.if_icmp .ne 15, 3) := by decide +kernel
theorem dX9_makes_135 : decode cX9_makes 135 = .ok (.aload_n 0, 1) := by decide +kernel
theorem dX9_makes_136 : decode cX9_makes 136 = .ok (.getfield 49, 3) := by decide +kernel
theorem dX9_makes_139 : decode cX9_makes 139 = .ok (.bipush 24, 2) := by decide +kernel
theorem dX9_makes_141 : decode cX9_makes 141 = .ok (.iload_n 2, 1) := by decide +kernel
theorem dX9_makes_142 : decode cX9_makes 142 = .ok (.iadd, 1) := by decide +kernel
theorem dX9_makes_143 : decode cX9_makes 143 = .ok (.iaload, 1) := by decide +kernel
theorem dX9_makes_144 : decode cX9_makes 144 = .ok (.goto 12, 3) := by decide +kernel
theorem dX9_makes_147 : decode cX9_makes 147 = .ok (.aload_n 0, 1) := by decide +kernel
theorem dX9_makes_148 : decode cX9_makes 148 = .ok (.getfield 49, 3) := by decide +kernel
theorem dX9_makes_151 : decode cX9_makes 151 = .ok (.bipush 48, 2) := by decide +kernel
theorem dX9_makes_153 : decode cX9_makes 153 = .ok (.iload_n 2, 1) := by decide +kernel
theorem dX9_makes_154 : decode cX9_makes 154 = .ok (.iadd, 1) := by decide +kernel
theorem dX9_makes_155 : decode cX9_makes 155 = .ok (.iaload, 1) := by decide +kernel
theorem dX9_makes_156 : decode cX9_makes 156 = .ok (.iastore, 1) := by decide +kernel
theorem dX9_makes_157 : decode cX9_makes 157 = .ok (.iinc 2 1, 3) := by decide +kernel
theorem dX9_makes_160 : decode cX9_makes 160 = .ok (.goto (-153), 3) := by decide +kernel
theorem dX9_makes_163 : decode cX9_makes 163 = .ok (.bipush (-9), 2) := by decide +kernel
theorem dX9_makes_165 : decode cX9_makes 165 = .ok (.ireturn, 1) := by decide +kernel
theorem dX9_runs_0 : decode cX9_runs 0 = .ok (.iconst 0, 1) := by decide +kernel
theorem dX9_runs_1 : decode cX9_runs 1 = .ok (.istore_n 1, 1) := by decide +kernel
theorem dX9_runs_2 : decode cX9_runs 2 = .ok (.iload_n 1, 1) := by decide +kernel
theorem dX9_runs_3 : decode cX9_runs 3 = .ok (.bipush 24, 2) := by decide +kernel
theorem dX9_runs_5 : decode cX9_runs 5 = .ok (.if_icmp .ge 16, 3) := by decide +kernel
theorem dX9_runs_8 : decode cX9_runs 8 = .ok (.aload_n 0, 1) := by decide +kernel
theorem dX9_runs_9 : decode cX9_runs 9 = .ok (.getfield 113, 3) := by decide +kernel
theorem dX9_runs_12 : decode cX9_runs 12 = .ok (.iload_n 1, 1) := by decide +kernel
theorem dX9_runs_13 : decode cX9_runs 13 = .ok (.iconst 0, 1) := by decide +kernel
theorem dX9_runs_14 : decode cX9_runs 14 = .ok (.iastore, 1) := by decide +kernel
theorem dX9_runs_15 : decode cX9_runs 15 = .ok (.iinc 1 1, 3) := by decide +kernel
theorem dX9_runs_18 : decode cX9_runs 18 = .ok (.goto (-16), 3) := by decide +kernel
theorem dX9_runs_21 : decode cX9_runs 21 = .ok (.iconst 0, 1) := by decide +kernel
theorem dX9_runs_22 : decode cX9_runs 22 = .ok (.istore_n 1, 1) := by decide +kernel
theorem dX9_runs_23 : decode cX9_runs 23 = .ok (.iload_n 1, 1) := by decide +kernel
theorem dX9_runs_24 : decode cX9_runs 24 = .ok (.bipush 8, 2) := by decide +kernel
theorem dX9_runs_26 : decode cX9_runs 26 = .ok (.if_icmp .ge 16, 3) := by decide +kernel
theorem dX9_runs_29 : decode cX9_runs 29 = .ok (.aload_n 0, 1) := by decide +kernel
theorem dX9_runs_30 : decode cX9_runs 30 = .ok (.getfield 119, 3) := by decide +kernel
theorem dX9_runs_33 : decode cX9_runs 33 = .ok (.iload_n 1, 1) := by decide +kernel
theorem dX9_runs_34 : decode cX9_runs 34 = .ok (.iconst 0, 1) := by decide +kernel
theorem dX9_runs_35 : decode cX9_runs 35 = .ok (.iastore, 1) := by decide +kernel
theorem dX9_runs_36 : decode cX9_runs 36 = .ok (.iinc 1 1, 3) := by decide +kernel
theorem dX9_runs_39 : decode cX9_runs 39 = .ok (.goto (-16), 3) := by decide +kernel
theorem dX9_runs_42 : decode cX9_runs 42 = .ok (.bipush (-9), 2) := by decide +kernel
theorem dX9_runs_44 : decode cX9_runs 44 = .ok (.istore_n 1, 1) := by decide +kernel
theorem dX9_runs_45 : decode cX9_runs 45 = .ok (.iconst 0, 1) := by decide +kernel
theorem dX9_runs_46 : decode cX9_runs 46 = .ok (.istore_n 2, 1) := by decide +kernel
theorem dX9_runs_47 : decode cX9_runs 47 = .ok (.aload_n 0, 1) := by decide +kernel
theorem dX9_runs_48 : decode cX9_runs 48 = .ok (.iconst 0, 1) := by decide +kernel
theorem dX9_runs_49 : decode cX9_runs 49 = .ok (.putfield 272, 3) := by decide +kernel
theorem dX9_runs_52 : decode cX9_runs 52 = .ok (.iconst 0, 1) := by decide +kernel
theorem dX9_runs_53 : decode cX9_runs 53 = .ok (.istore_n 3, 1) := by decide +kernel
theorem dX9_runs_54 : decode cX9_runs 54 = .ok (.iload_n 3, 1) := by decide +kernel
theorem dX9_runs_55 : decode cX9_runs 55 = .ok (.bipush 60, 2) := by decide +kernel
theorem dX9_runs_57 : decode cX9_runs 57 = .ok (.if_icmp .ge 118, 3) := by decide +kernel
theorem dX9_runs_60 : decode cX9_runs 60 = .ok (.aload_n 0, 1) := by decide +kernel
theorem dX9_runs_61 : decode cX9_runs 61 = .ok (.getfield 119, 3) := by decide +kernel
theorem dX9_runs_64 : decode cX9_runs 64 = .ok (.iload_n 2, 1) := by decide +kernel
theorem dX9_runs_65 : decode cX9_runs 65 = .ok (.dup2, 1) := by decide +kernel
theorem dX9_runs_66 : decode cX9_runs 66 = .ok (.iaload, 1) := by decide +kernel
theorem dX9_runs_67 : decode cX9_runs 67 = .ok (.iconst 1, 1) := by decide +kernel
theorem dX9_runs_68 : decode cX9_runs 68 = .ok (.iadd, 1) := by decide +kernel
theorem dX9_runs_69 : decode cX9_runs 69 = .ok (.iastore, 1) := by decide +kernel
theorem dX9_runs_70 : decode cX9_runs 70 = .ok (.aload_n 0, 1) := by decide +kernel
theorem dX9_runs_71 : decode cX9_runs 71 = .ok (.iload_n 2, 1) := by decide +kernel
theorem dX9_runs_72 : decode cX9_runs 72 = .ok (.iload_n 1, 1) := by decide +kernel
theorem dX9_runs_73 : decode cX9_runs 73 = .ok (.invokevirtual 275, 3) := by decide +kernel
theorem dX9_runs_76 : decode cX9_runs 76 = .ok (.aload_n 0, 1) := by decide +kernel
theorem dX9_runs_77 : decode cX9_runs 77 = .ok (.iload_n 2, 1) := by decide +kernel
theorem dX9_runs_78 : decode cX9_runs 78 = .ok (.invokevirtual 279, 3) := by decide +kernel
theorem dX9_runs_81 : decode cX9_runs 81 = .ok (.istore 4, 2) := by decide +kernel
theorem dX9_runs_83 : decode cX9_runs 83 = .ok (.iload 4, 2) := by decide +kernel
theorem dX9_runs_85 : decode cX9_runs 85 = .ok (.bipush (-9), 2) := by decide +kernel
theorem dX9_runs_87 : decode cX9_runs 87 = .ok (.if_icmp .eq 11, 3) := by decide +kernel
theorem dX9_runs_90 : decode cX9_runs 90 = .ok (.aload_n 0, 1) := by decide +kernel
theorem dX9_runs_91 : decode cX9_runs 91 = .ok (.iload 4, 2) := by decide +kernel
theorem dX9_runs_93 : decode cX9_runs 93 = .ok (.putfield 272, 3) := by decide +kernel
theorem dX9_runs_96 : decode cX9_runs 96 = .ok (.iconst 1, 1) := by decide +kernel
theorem dX9_runs_97 : decode cX9_runs 97 = .ok (.ireturn, 1) := by decide +kernel
theorem dX9_runs_98 : decode cX9_runs 98 = .ok (.aload_n 0, 1) := by decide +kernel
theorem dX9_runs_99 : decode cX9_runs 99 = .ok (.getfield 40, 3) := by decide +kernel
theorem dX9_runs_102 : decode cX9_runs 102 = .ok (.iload_n 2, 1) := by decide +kernel
theorem dX9_runs_103 : decode cX9_runs 103 = .ok (.iaload, 1) := by decide +kernel
theorem dX9_runs_104 : decode cX9_runs 104 = .ok (.iconst 2, 1) := by decide +kernel
theorem dX9_runs_105 : decode cX9_runs 105 = .ok (.if_icmp .ne 20, 3) := by decide +kernel
theorem dX9_runs_108 : decode cX9_runs 108 = .ok (.aload_n 0, 1) := by decide +kernel
theorem dX9_runs_109 : decode cX9_runs 109 = .ok (.aload_n 0, 1) := by decide +kernel
theorem dX9_runs_110 : decode cX9_runs 110 = .ok (.getfield 113, 3) := by decide +kernel
theorem dX9_runs_113 : decode cX9_runs 113 = .ok (.aload_n 0, 1) := by decide +kernel
theorem dX9_runs_114 : decode cX9_runs 114 = .ok (.getfield 43, 3) := by decide +kernel
theorem dX9_runs_117 : decode cX9_runs 117 = .ok (.iload_n 2, 1) := by decide +kernel
theorem dX9_runs_118 : decode cX9_runs 118 = .ok (.iaload, 1) := by decide +kernel
theorem dX9_runs_119 : decode cX9_runs 119 = .ok (.iaload, 1) := by decide +kernel
theorem dX9_runs_120 : decode cX9_runs 120 = .ok (.putfield 272, 3) := by decide +kernel
theorem dX9_runs_123 : decode cX9_runs 123 = .ok (.iconst 0, 1) := by decide +kernel
theorem dX9_runs_124 : decode cX9_runs 124 = .ok (.ireturn, 1) := by decide +kernel
theorem dX9_runs_125 : decode cX9_runs 125 = .ok (.iload_n 2, 1) := by decide +kernel
theorem dX9_runs_126 : decode cX9_runs 126 = .ok (.istore_n 1, 1) := by decide +kernel
theorem dX9_runs_127 : decode cX9_runs 127 = .ok (.aload_n 0, 1) := by decide +kernel
theorem dX9_runs_128 : decode cX9_runs 128 = .ok (.getfield 49, 3) := by decide +kernel
theorem dX9_runs_131 : decode cX9_runs 131 = .ok (.bipush 96, 2) := by decide +kernel
theorem dX9_runs_133 : decode cX9_runs 133 = .ok (.iconst 2, 1) := by decide +kernel
theorem dX9_runs_134 : decode cX9_runs 134 = .ok (.iload_n 2, 1) := by decide +kernel
theorem dX9_runs_135 : decode cX9_runs 135 = .ok (.imul, 1) := by decide +kernel
theorem dX9_runs_136 : decode cX9_runs 136 = .ok (.iadd, 1) := by decide +kernel
theorem dX9_runs_137 : decode cX9_runs 137 = .ok (.aload_n 0, 1) := by decide +kernel
theorem dX9_runs_138 : decode cX9_runs 138 = .ok (.getfield 40, 3) := by decide +kernel
theorem dX9_runs_141 : decode cX9_runs 141 = .ok (.iload_n 2, 1) := by decide +kernel
theorem dX9_runs_142 : decode cX9_runs 142 = .ok (.iaload, 1) := by decide +kernel
theorem dX9_runs_143 : decode cX9_runs 143 = .ok (.iconst 1, 1) := by decide +kernel
theorem dX9_runs_144 : decode cX9_runs 144 = .ok (.if_icmp .ne 21, 3) := by decide +kernel
theorem dX9_runs_147 : decode cX9_runs 147 = .ok (.aload_n 0, 1) := by decide +kernel
theorem dX9_runs_148 : decode cX9_runs 148 = .ok (.getfield 113, 3) := by decide +kernel
theorem dX9_runs_151 : decode cX9_runs 151 = .ok (.aload_n 0, 1) := by decide +kernel
theorem dX9_runs_152 : decode cX9_runs 152 = .ok (.getfield 43, 3) := by decide +kernel
theorem dX9_runs_155 : decode cX9_runs 155 = .ok (.iload_n 2, 1) := by decide +kernel
theorem dX9_runs_156 : decode cX9_runs 156 = .ok (.iaload, 1) := by decide +kernel
theorem dX9_runs_157 : decode cX9_runs 157 = .ok (.iaload, 1) := by decide +kernel
theorem dX9_runs_158 : decode cX9_runs 158 = .ok (.ifCond .ne 7, 3) := by decide +kernel
theorem dX9_runs_161 : decode cX9_runs 161 = .ok (.iconst 1, 1) := by decide +kernel
theorem dX9_runs_162 : decode cX9_runs 162 = .ok (.goto 4, 3) := by decide +kernel
theorem dX9_runs_165 : decode cX9_runs 165 = .ok (.iconst 0, 1) := by decide +kernel
theorem dX9_runs_166 : decode cX9_runs 166 = .ok (.iadd, 1) := by decide +kernel
theorem dX9_runs_167 : decode cX9_runs 167 = .ok (.iaload, 1) := by decide +kernel
theorem dX9_runs_168 : decode cX9_runs 168 = .ok (.istore_n 2, 1) := by decide +kernel
theorem dX9_runs_169 : decode cX9_runs 169 = .ok (.iinc 3 1, 3) := by decide +kernel
theorem dX9_runs_172 : decode cX9_runs 172 = .ok (.goto (-118), 3) := by decide +kernel
theorem dX9_runs_175 : decode cX9_runs 175 = .ok (.iconst 2, 1) := by decide +kernel
theorem dX9_runs_176 : decode cX9_runs 176 = .ok (.ireturn, 1) := by decide +kernel
theorem dX9_run_0 : decode cX9_run 0 = .ok (.aload_n 0, 1) := by decide +kernel
theorem dX9_run_1 : decode cX9_run 1 = .ok (.getfield 130, 3) := by decide +kernel
theorem dX9_run_4 : decode cX9_run 4 = .ok (.ifCond .ne 6, 3) := by decide +kernel
theorem dX9_run_7 : decode cX9_run 7 = .ok (.bipush (-2), 2) := by decide +kernel
theorem dX9_run_9 : decode cX9_run 9 = .ok (.ireturn, 1) := by decide +kernel
theorem dX9_run_10 : decode cX9_run 10 = .ok (.aload_n 0, 1) := by decide +kernel
theorem dX9_run_11 : decode cX9_run 11 = .ok (.invokevirtual 282, 3) := by decide +kernel
theorem dX9_run_14 : decode cX9_run 14 = .ok (.istore_n 1, 1) := by decide +kernel
theorem dX9_run_15 : decode cX9_run 15 = .ok (.aload_n 0, 1) := by decide +kernel
theorem dX9_run_16 : decode cX9_run 16 = .ok (.aload_n 0, 1) := by decide +kernel
theorem dX9_run_17 : decode cX9_run 17 = .ok (.getfield 272, 3) := by decide +kernel
theorem dX9_run_20 : decode cX9_run 20 = .ok (.iload_n 1, 1) := by decide +kernel
theorem dX9_run_21 : decode cX9_run 21 = .ok (.invokevirtual 253, 3) := by decide +kernel
theorem dX9_run_24 : decode cX9_run 24 = .ok (.ireturn, 1) := by decide +kernel
theorem dX9_visits_0 : decode cX9_visits 0 = .ok (.aload_n 0, 1) := by decide +kernel
theorem dX9_visits_1 : decode cX9_visits 1 = .ok (.iload_n 1, 1) := by decide +kernel
theorem dX9_visits_2 : decode cX9_visits 2 = .ok (.invokevirtual 257, 3) := by decide +kernel
theorem dX9_visits_5 : decode cX9_visits 5 = .ok (.ifCond .ne 5, 3) := by decide +kernel
theorem dX9_visits_8 : decode cX9_visits 8 = .ok (.iconst (-1), 1) := by decide +kernel
theorem dX9_visits_9 : decode cX9_visits 9 = .ok (.ireturn, 1) := by decide +kernel
theorem dX9_visits_10 : decode cX9_visits 10 = .ok (.aload_n 0, 1) := by decide +kernel
theorem dX9_visits_11 : decode cX9_visits 11 = .ok (.invokevirtual 282, 3) := by decide +kernel
theorem dX9_visits_14 : decode cX9_visits 14 = .ok (.pop, 1) := by decide +kernel
theorem dX9_visits_15 : decode cX9_visits 15 = .ok (.aload_n 0, 1) := by decide +kernel
theorem dX9_visits_16 : decode cX9_visits 16 = .ok (.getfield 119, 3) := by decide +kernel
theorem dX9_visits_19 : decode cX9_visits 19 = .ok (.iload_n 1, 1) := by decide +kernel
theorem dX9_visits_20 : decode cX9_visits 20 = .ok (.iaload, 1) := by decide +kernel
theorem dX9_visits_21 : decode cX9_visits 21 = .ok (.ireturn, 1) := by decide +kernel
theorem dX9_last_0 : decode cX9_last 0 = .ok (.aload_n 0, 1) := by decide +kernel
theorem dX9_last_1 : decode cX9_last 1 = .ok (.iload_n 1, 1) := by decide +kernel
theorem dX9_last_2 : decode cX9_last 2 = .ok (.invokevirtual 246, 3) := by decide +kernel
theorem dX9_last_5 : decode cX9_last 5 = .ok (.ifCond .ne 5, 3) := by decide +kernel
theorem dX9_last_8 : decode cX9_last 8 = .ok (.iconst (-1), 1) := by decide +kernel
theorem dX9_last_9 : decode cX9_last 9 = .ok (.ireturn, 1) := by decide +kernel
theorem dX9_last_10 : decode cX9_last 10 = .ok (.aload_n 0, 1) := by decide +kernel
theorem dX9_last_11 : decode cX9_last 11 = .ok (.invokevirtual 282, 3) := by decide +kernel
theorem dX9_last_14 : decode cX9_last 14 = .ok (.pop, 1) := by decide +kernel
theorem dX9_last_15 : decode cX9_last 15 = .ok (.aload_n 0, 1) := by decide +kernel
theorem dX9_last_16 : decode cX9_last 16 = .ok (.aload_n 0, 1) := by decide +kernel
theorem dX9_last_17 : decode cX9_last 17 = .ok (.getfield 113, 3) := by decide +kernel
theorem dX9_last_20 : decode cX9_last 20 = .ok (.iload_n 1, 1) := by decide +kernel
theorem dX9_last_21 : decode cX9_last 21 = .ok (.iaload, 1) := by decide +kernel
theorem dX9_last_22 : decode cX9_last 22 = .ok (.iconst 1, 1) := by decide +kernel
theorem dX9_last_23 : decode cX9_last 23 = .ok (.invokevirtual 253, 3) := by decide +kernel
theorem dX9_last_26 : decode cX9_last 26 = .ok (.ireturn, 1) := by decide +kernel
theorem dX9_edges_0 : decode cX9_edges 0 = .ok (.iconst 0, 1) := by decide +kernel
theorem dX9_edges_1 : decode cX9_edges 1 = .ok (.istore_n 2, 1) := by decide +kernel
theorem dX9_edges_2 : decode cX9_edges 2 = .ok (.iconst 0, 1) := by decide +kernel
theorem dX9_edges_3 : decode cX9_edges 3 = .ok (.istore_n 3, 1) := by decide +kernel
theorem dX9_edges_4 : decode cX9_edges 4 = .ok (.iload_n 3, 1) := by decide +kernel
theorem dX9_edges_5 : decode cX9_edges 5 = .ok (.aload_n 0, 1) := by decide +kernel
theorem dX9_edges_6 : decode cX9_edges 6 = .ok (.getfield 130, 3) := by decide +kernel
theorem dX9_edges_9 : decode cX9_edges 9 = .ok (.if_icmp .ge 66, 3) := by decide +kernel
theorem dX9_edges_12 : decode cX9_edges 12 = .ok (.iconst 0, 1) := by decide +kernel
theorem dX9_edges_13 : decode cX9_edges 13 = .ok (.istore 4, 2) := by decide +kernel
theorem dX9_edges_15 : decode cX9_edges 15 = .ok (.iload 4, 2) := by decide +kernel
theorem dX9_edges_17 : decode cX9_edges 17 = .ok (.iconst 2, 1) := by decide +kernel
theorem dX9_edges_18 : decode cX9_edges 18 = .ok (.if_icmp .ge 51, 3) := by decide +kernel
theorem dX9_edges_21 : decode cX9_edges 21 = .ok (.iload_n 2, 1) := by decide +kernel
theorem dX9_edges_22 : decode cX9_edges 22 = .ok (.aload_n 0, 1) := by decide +kernel
theorem dX9_edges_23 : decode cX9_edges 23 = .ok (.getfield 49, 3) := by decide +kernel
theorem dX9_edges_26 : decode cX9_edges 26 = .ok (.bipush 96, 2) := by decide +kernel
theorem dX9_edges_28 : decode cX9_edges 28 = .ok (.iconst 2, 1) := by decide +kernel
theorem dX9_edges_29 : decode cX9_edges 29 = .ok (.iload_n 3, 1) := by decide +kernel
theorem dX9_edges_30 : decode cX9_edges 30 = .ok (.imul, 1) := by decide +kernel
theorem dX9_edges_31 : decode cX9_edges 31 = .ok (.iadd, 1) := by decide +kernel
theorem dX9_edges_32 : decode cX9_edges 32 = .ok (.iload 4, 2) := by decide +kernel
theorem dX9_edges_34 : decode cX9_edges 34 = .ok (.iadd, 1) := by decide +kernel
theorem dX9_edges_35 : decode cX9_edges 35 = .ok (.iaload, 1) := by decide +kernel
theorem dX9_edges_36 : decode cX9_edges 36 = .ok (.bipush (-9), 2) := by decide +kernel
theorem dX9_edges_38 : decode cX9_edges 38 = .ok (.if_icmp .eq 22, 3) := by decide +kernel
theorem dX9_edges_41 : decode cX9_edges 41 = .ok (.iload_n 1, 1) := by decide +kernel
theorem dX9_edges_42 : decode cX9_edges 42 = .ok (.ifCond .eq 14, 3) := by decide +kernel
theorem dX9_edges_45 : decode cX9_edges 45 = .ok (.aload_n 0, 1) := by decide +kernel
theorem dX9_edges_46 : decode cX9_edges 46 = .ok (.iload_n 3, 1) := by decide +kernel
theorem dX9_edges_47 : decode cX9_edges 47 = .ok (.iload 4, 2) := by decide +kernel
theorem dX9_edges_49 : decode cX9_edges 49 = .ok (.iconst 0, 1) := by decide +kernel
theorem dX9_edges_50 : decode cX9_edges 50 = .ok (.invokevirtual 222, 3) := by decide +kernel
theorem dX9_edges_53 : decode cX9_edges 53 = .ok (.ifCond .eq 7, 3) := by decide +kernel
theorem dX9_edges_56 : decode cX9_edges 56 = .ok (.iconst 1, 1) := by decide +kernel
theorem dX9_edges_57 : decode cX9_edges 57 = .ok (.goto 4, 3) := by decide +kernel
theorem dX9_edges_60 : decode cX9_edges 60 = .ok (.iconst 0, 1) := by decide +kernel
theorem dX9_edges_61 : decode cX9_edges 61 = .ok (.iadd, 1) := by decide +kernel
theorem dX9_edges_62 : decode cX9_edges 62 = .ok (.istore_n 2, 1) := by decide +kernel
theorem dX9_edges_63 : decode cX9_edges 63 = .ok (.iinc 4 1, 3) := by decide +kernel
theorem dX9_edges_66 : decode cX9_edges 66 = .ok (.goto (-51), 3) := by decide +kernel
theorem dX9_edges_69 : decode cX9_edges 69 = .ok (.iinc 3 1, 3) := by decide +kernel
theorem dX9_edges_72 : decode cX9_edges 72 = .ok (.goto (-68), 3) := by decide +kernel
theorem dX9_edges_75 : decode cX9_edges 75 = .ok (.iload_n 2, 1) := by decide +kernel
theorem dX9_edges_76 : decode cX9_edges 76 = .ok (.ireturn, 1) := by decide +kernel
theorem dX9_folds_0 : decode cX9_folds 0 = .ok (.iconst 0, 1) := by decide +kernel
theorem dX9_folds_1 : decode cX9_folds 1 = .ok (.istore_n 1, 1) := by decide +kernel
theorem dX9_folds_2 : decode cX9_folds 2 = .ok (.iconst 0, 1) := by decide +kernel
theorem dX9_folds_3 : decode cX9_folds 3 = .ok (.istore_n 2, 1) := by decide +kernel
theorem dX9_folds_4 : decode cX9_folds 4 = .ok (.iload_n 2, 1) := by decide +kernel
theorem dX9_folds_5 : decode cX9_folds 5 = .ok (.aload_n 0, 1) := by decide +kernel
theorem dX9_folds_6 : decode cX9_folds 6 = .ok (.getfield 122, 3) := by decide +kernel
theorem dX9_folds_9 : decode cX9_folds 9 = .ok (.if_icmp .ge 36, 3) := by decide +kernel
theorem dX9_folds_12 : decode cX9_folds 12 = .ok (.iload_n 1, 1) := by decide +kernel
theorem dX9_folds_13 : decode cX9_folds 13 = .ok (.aload_n 0, 1) := by decide +kernel
theorem dX9_folds_14 : decode cX9_folds 14 = .ok (.getfield 101, 3) := by decide +kernel
theorem dX9_folds_17 : decode cX9_folds 17 = .ok (.iload_n 2, 1) := by decide +kernel
theorem dX9_folds_18 : decode cX9_folds 18 = .ok (.iaload, 1) := by decide +kernel
theorem dX9_folds_19 : decode cX9_folds 19 = .ok (.iconst 1, 1) := by decide +kernel
theorem dX9_folds_20 : decode cX9_folds 20 = .ok (.if_icmp .ne 16, 3) := by decide +kernel
theorem dX9_folds_23 : decode cX9_folds 23 = .ok (.aload_n 0, 1) := by decide +kernel
theorem dX9_folds_24 : decode cX9_folds 24 = .ok (.getfield 13, 3) := by decide +kernel
theorem dX9_folds_27 : decode cX9_folds 27 = .ok (.iload_n 2, 1) := by decide +kernel
theorem dX9_folds_28 : decode cX9_folds 28 = .ok (.iaload, 1) := by decide +kernel
theorem dX9_folds_29 : decode cX9_folds 29 = .ok (.ifCond .eq 7, 3) := by decide +kernel
theorem dX9_folds_32 : decode cX9_folds 32 = .ok (.iconst 1, 1) := by decide +kernel
theorem dX9_folds_33 : decode cX9_folds 33 = .ok (.goto 4, 3) := by decide +kernel
theorem dX9_folds_36 : decode cX9_folds 36 = .ok (.iconst 0, 1) := by decide +kernel
theorem dX9_folds_37 : decode cX9_folds 37 = .ok (.iadd, 1) := by decide +kernel
theorem dX9_folds_38 : decode cX9_folds 38 = .ok (.istore_n 1, 1) := by decide +kernel
theorem dX9_folds_39 : decode cX9_folds 39 = .ok (.iinc 2 1, 3) := by decide +kernel
theorem dX9_folds_42 : decode cX9_folds 42 = .ok (.goto (-38), 3) := by decide +kernel
theorem dX9_folds_45 : decode cX9_folds 45 = .ok (.iload_n 1, 1) := by decide +kernel
theorem dX9_folds_46 : decode cX9_folds 46 = .ok (.ireturn, 1) := by decide +kernel
theorem dX9_foldedEnds_0 : decode cX9_foldedEnds 0 = .ok (.iconst 0, 1) := by decide +kernel
theorem dX9_foldedEnds_1 : decode cX9_foldedEnds 1 = .ok (.istore_n 1, 1) := by decide +kernel
theorem dX9_foldedEnds_2 : decode cX9_foldedEnds 2 = .ok (.iconst 0, 1) := by decide +kernel
theorem dX9_foldedEnds_3 : decode cX9_foldedEnds 3 = .ok (.istore_n 2, 1) := by decide +kernel
theorem dX9_foldedEnds_4 : decode cX9_foldedEnds 4 = .ok (.iload_n 2, 1) := by decide +kernel
theorem dX9_foldedEnds_5 : decode cX9_foldedEnds 5 = .ok (.aload_n 0, 1) := by decide +kernel
theorem dX9_foldedEnds_6 : decode cX9_foldedEnds 6 = .ok (.getfield 130, 3) := by decide +kernel
theorem dX9_foldedEnds_9 : decode cX9_foldedEnds 9 = .ok (.if_icmp .ge 44, 3) := by decide +kernel
theorem dX9_foldedEnds_12 : decode cX9_foldedEnds 12 = .ok (.iload_n 1, 1) := by decide +kernel
theorem dX9_foldedEnds_13 : decode cX9_foldedEnds 13 = .ok (.aload_n 0, 1) := by decide +kernel
theorem dX9_foldedEnds_14 : decode cX9_foldedEnds 14 = .ok (.getfield 40, 3) := by decide +kernel
theorem dX9_foldedEnds_17 : decode cX9_foldedEnds 17 = .ok (.iload_n 2, 1) := by decide +kernel
theorem dX9_foldedEnds_18 : decode cX9_foldedEnds 18 = .ok (.iaload, 1) := by decide +kernel
theorem dX9_foldedEnds_19 : decode cX9_foldedEnds 19 = .ok (.iconst 1, 1) := by decide +kernel
theorem dX9_foldedEnds_20 : decode cX9_foldedEnds 20 = .ok (.if_icmp .ne 24, 3) := by decide +kernel
theorem dX9_foldedEnds_23 : decode cX9_foldedEnds 23 = .ok (.aload_n 0, 1) := by decide +kernel
theorem dX9_foldedEnds_24 : decode cX9_foldedEnds 24 = .ok (.iload_n 2, 1) := by decide +kernel
theorem dX9_foldedEnds_25 : decode cX9_foldedEnds 25 = .ok (.iconst 0, 1) := by decide +kernel
theorem dX9_foldedEnds_26 : decode cX9_foldedEnds 26 = .ok (.iconst 0, 1) := by decide +kernel
theorem dX9_foldedEnds_27 : decode cX9_foldedEnds 27 = .ok (.invokevirtual 222, 3) := by decide +kernel
theorem dX9_foldedEnds_30 : decode cX9_foldedEnds 30 = .ok (.aload_n 0, 1) := by decide +kernel
theorem dX9_foldedEnds_31 : decode cX9_foldedEnds 31 = .ok (.iload_n 2, 1) := by decide +kernel
theorem dX9_foldedEnds_32 : decode cX9_foldedEnds 32 = .ok (.iconst 1, 1) := by decide +kernel
theorem dX9_foldedEnds_33 : decode cX9_foldedEnds 33 = .ok (.iconst 0, 1) := by decide +kernel
theorem dX9_foldedEnds_34 : decode cX9_foldedEnds 34 = .ok (.invokevirtual 222, 3) := by decide +kernel
theorem dX9_foldedEnds_37 : decode cX9_foldedEnds 37 = .ok (.if_icmp .eq 7, 3) := by decide +kernel
theorem dX9_foldedEnds_40 : decode cX9_foldedEnds 40 = .ok (.iconst 1, 1) := by decide +kernel
theorem dX9_foldedEnds_41 : decode cX9_foldedEnds 41 = .ok (.goto 4, 3) := by decide +kernel
theorem dX9_foldedEnds_44 : decode cX9_foldedEnds 44 = .ok (.iconst 0, 1) := by decide +kernel
theorem dX9_foldedEnds_45 : decode cX9_foldedEnds 45 = .ok (.iadd, 1) := by decide +kernel
theorem dX9_foldedEnds_46 : decode cX9_foldedEnds 46 = .ok (.istore_n 1, 1) := by decide +kernel
theorem dX9_foldedEnds_47 : decode cX9_foldedEnds 47 = .ok (.iinc 2 1, 3) := by decide +kernel
theorem dX9_foldedEnds_50 : decode cX9_foldedEnds 50 = .ok (.goto (-46), 3) := by decide +kernel
theorem dX9_foldedEnds_53 : decode cX9_foldedEnds 53 = .ok (.iload_n 1, 1) := by decide +kernel
theorem dX9_foldedEnds_54 : decode cX9_foldedEnds 54 = .ok (.ireturn, 1) := by decide +kernel
theorem dX9_stays_0 : decode cX9_stays 0 = .ok (.iconst 0, 1) := by decide +kernel
theorem dX9_stays_1 : decode cX9_stays 1 = .ok (.istore_n 1, 1) := by decide +kernel
theorem dX9_stays_2 : decode cX9_stays 2 = .ok (.iconst 0, 1) := by decide +kernel
theorem dX9_stays_3 : decode cX9_stays 3 = .ok (.istore_n 2, 1) := by decide +kernel
theorem dX9_stays_4 : decode cX9_stays 4 = .ok (.iload_n 2, 1) := by decide +kernel
theorem dX9_stays_5 : decode cX9_stays 5 = .ok (.aload_n 0, 1) := by decide +kernel
theorem dX9_stays_6 : decode cX9_stays 6 = .ok (.getfield 122, 3) := by decide +kernel
theorem dX9_stays_9 : decode cX9_stays 9 = .ok (.if_icmp .ge 50, 3) := by decide +kernel
theorem dX9_stays_12 : decode cX9_stays 12 = .ok (.iload_n 1, 1) := by decide +kernel
theorem dX9_stays_13 : decode cX9_stays 13 = .ok (.aload_n 0, 1) := by decide +kernel
theorem dX9_stays_14 : decode cX9_stays 14 = .ok (.getfield 107, 3) := by decide +kernel
theorem dX9_stays_17 : decode cX9_stays 17 = .ok (.aload_n 0, 1) := by decide +kernel
theorem dX9_stays_18 : decode cX9_stays 18 = .ok (.getfield 16, 3) := by decide +kernel
theorem dX9_stays_21 : decode cX9_stays 21 = .ok (.iload_n 2, 1) := by decide +kernel
theorem dX9_stays_22 : decode cX9_stays 22 = .ok (.iaload, 1) := by decide +kernel
theorem dX9_stays_23 : decode cX9_stays 23 = .ok (.baload, 1) := by decide +kernel
theorem dX9_stays_24 : decode cX9_stays 24 = .ok (.ifCond .eq 26, 3) := by decide +kernel
theorem dX9_stays_27 : decode cX9_stays 27 = .ok (.aload_n 0, 1) := by decide +kernel
theorem dX9_stays_28 : decode cX9_stays 28 = .ok (.getfield 13, 3) := by decide +kernel
theorem dX9_stays_31 : decode cX9_stays 31 = .ok (.iload_n 2, 1) := by decide +kernel
theorem dX9_stays_32 : decode cX9_stays 32 = .ok (.iaload, 1) := by decide +kernel
theorem dX9_stays_33 : decode cX9_stays 33 = .ok (.ifCond .eq 17, 3) := by decide +kernel
theorem dX9_stays_36 : decode cX9_stays 36 = .ok (.aload_n 0, 1) := by decide +kernel
theorem dX9_stays_37 : decode cX9_stays 37 = .ok (.getfield 101, 3) := by decide +kernel
theorem dX9_stays_40 : decode cX9_stays 40 = .ok (.iload_n 2, 1) := by decide +kernel
theorem dX9_stays_41 : decode cX9_stays 41 = .ok (.iaload, 1) := by decide +kernel
theorem dX9_stays_42 : decode cX9_stays 42 = .ok (.iconst 1, 1) := by decide +kernel
theorem dX9_stays_43 : decode cX9_stays 43 = .ok (.if_icmp .eq 7, 3) := by decide +kernel
theorem dX9_stays_46 : decode cX9_stays 46 = .ok (.iconst 1, 1) := by decide +kernel
theorem dX9_stays_47 : decode cX9_stays 47 = .ok (.goto 4, 3) := by decide +kernel
theorem dX9_stays_50 : decode cX9_stays 50 = .ok (.iconst 0, 1) := by decide +kernel
theorem dX9_stays_51 : decode cX9_stays 51 = .ok (.iadd, 1) := by decide +kernel
theorem dX9_stays_52 : decode cX9_stays 52 = .ok (.istore_n 1, 1) := by decide +kernel
theorem dX9_stays_53 : decode cX9_stays 53 = .ok (.iinc 2 1, 3) := by decide +kernel
theorem dX9_stays_56 : decode cX9_stays 56 = .ok (.goto (-52), 3) := by decide +kernel
theorem dX9_stays_59 : decode cX9_stays 59 = .ok (.iload_n 1, 1) := by decide +kernel
theorem dX9_stays_60 : decode cX9_stays 60 = .ok (.ireturn, 1) := by decide +kernel
theorem dX9_gain_0 : decode cX9_gain 0 = .ok (.aload_n 0, 1) := by decide +kernel
theorem dX9_gain_1 : decode cX9_gain 1 = .ok (.iconst 1, 1) := by decide +kernel
theorem dX9_gain_2 : decode cX9_gain 2 = .ok (.invokevirtual 249, 3) := by decide +kernel
theorem dX9_gain_5 : decode cX9_gain 5 = .ok (.aload_n 0, 1) := by decide +kernel
theorem dX9_gain_6 : decode cX9_gain 6 = .ok (.getfield 101, 3) := by decide +kernel
theorem dX9_gain_9 : decode cX9_gain 9 = .ok (.iconst 0, 1) := by decide +kernel
theorem dX9_gain_10 : decode cX9_gain 10 = .ok (.aload_n 0, 1) := by decide +kernel
theorem dX9_gain_11 : decode cX9_gain 11 = .ok (.getfield 110, 3) := by decide +kernel
theorem dX9_gain_14 : decode cX9_gain 14 = .ok (.iconst 0, 1) := by decide +kernel
theorem dX9_gain_15 : decode cX9_gain 15 = .ok (.bipush 24, 2) := by decide +kernel
theorem dX9_gain_17 : decode cX9_gain 17 = .ok (.invokestatic 212, 3) := by decide +kernel
theorem dX9_gain_20 : decode cX9_gain 20 = .ok (.aload_n 0, 1) := by decide +kernel
theorem dX9_gain_21 : decode cX9_gain 21 = .ok (.iconst 0, 1) := by decide +kernel
theorem dX9_gain_22 : decode cX9_gain 22 = .ok (.invokevirtual 249, 3) := by decide +kernel
theorem dX9_gain_25 : decode cX9_gain 25 = .ok (.iconst 0, 1) := by decide +kernel
theorem dX9_gain_26 : decode cX9_gain 26 = .ok (.istore_n 1, 1) := by decide +kernel
theorem dX9_gain_27 : decode cX9_gain 27 = .ok (.iconst 0, 1) := by decide +kernel
theorem dX9_gain_28 : decode cX9_gain 28 = .ok (.istore_n 2, 1) := by decide +kernel
theorem dX9_gain_29 : decode cX9_gain 29 = .ok (.iload_n 2, 1) := by decide +kernel
theorem dX9_gain_30 : decode cX9_gain 30 = .ok (.aload_n 0, 1) := by decide +kernel
theorem dX9_gain_31 : decode cX9_gain 31 = .ok (.getfield 122, 3) := by decide +kernel
theorem dX9_gain_34 : decode cX9_gain 34 = .ok (.if_icmp .ge 37, 3) := by decide +kernel
theorem dX9_gain_37 : decode cX9_gain 37 = .ok (.iload_n 1, 1) := by decide +kernel
theorem dX9_gain_38 : decode cX9_gain 38 = .ok (.aload_n 0, 1) := by decide +kernel
theorem dX9_gain_39 : decode cX9_gain 39 = .ok (.getfield 110, 3) := by decide +kernel
theorem dX9_gain_42 : decode cX9_gain 42 = .ok (.iload_n 2, 1) := by decide +kernel
theorem dX9_gain_43 : decode cX9_gain 43 = .ok (.iaload, 1) := by decide +kernel
theorem dX9_gain_44 : decode cX9_gain 44 = .ok (.iconst 2, 1) := by decide +kernel
theorem dX9_gain_45 : decode cX9_gain 45 = .ok (.if_icmp .ne 17, 3) := by decide +kernel
theorem dX9_gain_48 : decode cX9_gain 48 = .ok (.aload_n 0, 1) := by decide +kernel
theorem dX9_gain_49 : decode cX9_gain 49 = .ok (.getfield 101, 3) := by decide +kernel
theorem dX9_gain_52 : decode cX9_gain 52 = .ok (.iload_n 2, 1) := by decide +kernel
theorem dX9_gain_53 : decode cX9_gain 53 = .ok (.iaload, 1) := by decide +kernel
theorem dX9_gain_54 : decode cX9_gain 54 = .ok (.iconst 2, 1) := by decide +kernel
theorem dX9_gain_55 : decode cX9_gain 55 = .ok (.if_icmp .eq 7, 3) := by decide +kernel
theorem dX9_gain_58 : decode cX9_gain 58 = .ok (.iconst 1, 1) := by decide +kernel
theorem dX9_gain_59 : decode cX9_gain 59 = .ok (.goto 4, 3) := by decide +kernel
theorem dX9_gain_62 : decode cX9_gain 62 = .ok (.iconst 0, 1) := by decide +kernel
theorem dX9_gain_63 : decode cX9_gain 63 = .ok (.iadd, 1) := by decide +kernel
theorem dX9_gain_64 : decode cX9_gain 64 = .ok (.istore_n 1, 1) := by decide +kernel
theorem dX9_gain_65 : decode cX9_gain 65 = .ok (.iinc 2 1, 3) := by decide +kernel
theorem dX9_gain_68 : decode cX9_gain 68 = .ok (.goto (-39), 3) := by decide +kernel
theorem dX9_gain_71 : decode cX9_gain 71 = .ok (.iload_n 1, 1) := by decide +kernel
theorem dX9_gain_72 : decode cX9_gain 72 = .ok (.ireturn, 1) := by decide +kernel
theorem dX9_count_0 : decode cX9_count 0 = .ok (.aload_n 0, 1) := by decide +kernel
theorem dX9_count_1 : decode cX9_count 1 = .ok (.iconst 0, 1) := by decide +kernel
theorem dX9_count_2 : decode cX9_count 2 = .ok (.invokevirtual 249, 3) := by decide +kernel
theorem dX9_count_5 : decode cX9_count 5 = .ok (.iload_n 1, 1) := by decide +kernel
theorem dX9_count_6 : decode cX9_count 6 = .ok (.tableswitch 135 0 12 #[66, 71, 76, 82, 87, 93, 99, 105, 110, 115, 120, 125, 130], 66) := by decide +kernel
theorem dX9_count_72 : decode cX9_count 72 = .ok (.aload_n 0, 1) := by decide +kernel
theorem dX9_count_73 : decode cX9_count 73 = .ok (.getfield 122, 3) := by decide +kernel
theorem dX9_count_76 : decode cX9_count 76 = .ok (.ireturn, 1) := by decide +kernel
theorem dX9_count_77 : decode cX9_count 77 = .ok (.aload_n 0, 1) := by decide +kernel
theorem dX9_count_78 : decode cX9_count 78 = .ok (.getfield 130, 3) := by decide +kernel
theorem dX9_count_81 : decode cX9_count 81 = .ok (.ireturn, 1) := by decide +kernel
theorem dX9_count_82 : decode cX9_count 82 = .ok (.aload_n 0, 1) := by decide +kernel
theorem dX9_count_83 : decode cX9_count 83 = .ok (.iconst 0, 1) := by decide +kernel
theorem dX9_count_84 : decode cX9_count 84 = .ok (.invokevirtual 285, 3) := by decide +kernel
theorem dX9_count_87 : decode cX9_count 87 = .ok (.ireturn, 1) := by decide +kernel
theorem dX9_count_88 : decode cX9_count 88 = .ok (.aload_n 0, 1) := by decide +kernel
theorem dX9_count_89 : decode cX9_count 89 = .ok (.invokevirtual 269, 3) := by decide +kernel
theorem dX9_count_92 : decode cX9_count 92 = .ok (.ireturn, 1) := by decide +kernel
theorem dX9_count_93 : decode cX9_count 93 = .ok (.aload_n 0, 1) := by decide +kernel
theorem dX9_count_94 : decode cX9_count 94 = .ok (.iconst 1, 1) := by decide +kernel
theorem dX9_count_95 : decode cX9_count 95 = .ok (.invokevirtual 285, 3) := by decide +kernel
theorem dX9_count_98 : decode cX9_count 98 = .ok (.ireturn, 1) := by decide +kernel
theorem dX9_count_99 : decode cX9_count 99 = .ok (.aload_n 0, 1) := by decide +kernel
theorem dX9_count_100 : decode cX9_count 100 = .ok (.iconst 1, 1) := by decide +kernel
theorem dX9_count_101 : decode cX9_count 101 = .ok (.invokevirtual 266, 3) := by decide +kernel
theorem dX9_count_104 : decode cX9_count 104 = .ok (.ireturn, 1) := by decide +kernel
theorem dX9_count_105 : decode cX9_count 105 = .ok (.aload_n 0, 1) := by decide +kernel
theorem dX9_count_106 : decode cX9_count 106 = .ok (.iconst 0, 1) := by decide +kernel
theorem dX9_count_107 : decode cX9_count 107 = .ok (.invokevirtual 266, 3) := by decide +kernel
theorem dX9_count_110 : decode cX9_count 110 = .ok (.ireturn, 1) := by decide +kernel
theorem dX9_count_111 : decode cX9_count 111 = .ok (.aload_n 0, 1) := by decide +kernel
theorem dX9_count_112 : decode cX9_count 112 = .ok (.invokevirtual 289, 3) := by decide +kernel
theorem dX9_count_115 : decode cX9_count 115 = .ok (.ireturn, 1) := by decide +kernel
theorem dX9_count_116 : decode cX9_count 116 = .ok (.aload_n 0, 1) := by decide +kernel
theorem dX9_count_117 : decode cX9_count 117 = .ok (.invokevirtual 292, 3) := by decide +kernel
theorem dX9_count_120 : decode cX9_count 120 = .ok (.ireturn, 1) := by decide +kernel
theorem dX9_count_121 : decode cX9_count 121 = .ok (.aload_n 0, 1) := by decide +kernel
theorem dX9_count_122 : decode cX9_count 122 = .ok (.invokevirtual 295, 3) := by decide +kernel
theorem dX9_count_125 : decode cX9_count 125 = .ok (.ireturn, 1) := by decide +kernel
theorem dX9_count_126 : decode cX9_count 126 = .ok (.aload_n 0, 1) := by decide +kernel
theorem dX9_count_127 : decode cX9_count 127 = .ok (.invokevirtual 298, 3) := by decide +kernel
theorem dX9_count_130 : decode cX9_count 130 = .ok (.ireturn, 1) := by decide +kernel
theorem dX9_count_131 : decode cX9_count 131 = .ok (.aload_n 0, 1) := by decide +kernel
theorem dX9_count_132 : decode cX9_count 132 = .ok (.getfield 216, 3) := by decide +kernel
theorem dX9_count_135 : decode cX9_count 135 = .ok (.ireturn, 1) := by decide +kernel
theorem dX9_count_136 : decode cX9_count 136 = .ok (.aload_n 0, 1) := by decide +kernel
theorem dX9_count_137 : decode cX9_count 137 = .ok (.getfield 133, 3) := by decide +kernel
theorem dX9_count_140 : decode cX9_count 140 = .ok (.ireturn, 1) := by decide +kernel
theorem dX9_count_141 : decode cX9_count 141 = .ok (.iconst (-1), 1) := by decide +kernel
theorem dX9_count_142 : decode cX9_count 142 = .ok (.ireturn, 1) := by decide +kernel
theorem dX9_best_0 : decode cX9_best 0 = .ok (.iload_n 1, 1) := by decide +kernel
theorem dX9_best_1 : decode cX9_best 1 = .ok (.iconst 0, 1) := by decide +kernel
theorem dX9_best_2 : decode cX9_best 2 = .ok (.iconst 1, 1) := by decide +kernel
theorem dX9_best_3 : decode cX9_best 3 = .ok (.invokestatic 126, 3) := by decide +kernel
theorem dX9_best_6 : decode cX9_best 6 = .ok (.ifCond .ne 5, 3) := by decide +kernel
theorem dX9_best_9 : decode cX9_best 9 = .ok (.iconst (-1), 1) := by decide +kernel
theorem dX9_best_10 : decode cX9_best 10 = .ok (.ireturn, 1) := by decide +kernel
theorem dX9_best_11 : decode cX9_best 11 = .ok (.aload_n 0, 1) := by decide +kernel
theorem dX9_best_12 : decode cX9_best 12 = .ok (.iconst 0, 1) := by decide +kernel
theorem dX9_best_13 : decode cX9_best 13 = .ok (.invokevirtual 249, 3) := by decide +kernel
theorem dX9_best_16 : decode cX9_best 16 = .ok (.aload_n 0, 1) := by decide +kernel
theorem dX9_best_17 : decode cX9_best 17 = .ok (.iconst 2, 1) := by decide +kernel
theorem dX9_best_18 : decode cX9_best 18 = .ok (.invokevirtual 266, 3) := by decide +kernel
theorem dX9_best_21 : decode cX9_best 21 = .ok (.istore_n 2, 1) := by decide +kernel
theorem dX9_best_22 : decode cX9_best 22 = .ok (.bipush (-9), 2) := by decide +kernel
theorem dX9_best_24 : decode cX9_best 24 = .ok (.istore_n 3, 1) := by decide +kernel
theorem dX9_best_25 : decode cX9_best 25 = .ok (.sipush (-1000), 3) := by decide +kernel
theorem dX9_best_28 : decode cX9_best 28 = .ok (.istore 4, 2) := by decide +kernel
theorem dX9_best_30 : decode cX9_best 30 = .ok (.iconst 0, 1) := by decide +kernel
theorem dX9_best_31 : decode cX9_best 31 = .ok (.istore 5, 2) := by decide +kernel
theorem dX9_best_33 : decode cX9_best 33 = .ok (.iload 5, 2) := by decide +kernel
theorem dX9_best_35 : decode cX9_best 35 = .ok (.aload_n 0, 1) := by decide +kernel
theorem dX9_best_36 : decode cX9_best 36 = .ok (.getfield 122, 3) := by decide +kernel
theorem dX9_best_39 : decode cX9_best 39 = .ok (.if_icmp .ge 140, 3) := by decide +kernel
theorem dX9_best_42 : decode cX9_best 42 = .ok (.aload_n 0, 1) := by decide +kernel
theorem dX9_best_43 : decode cX9_best 43 = .ok (.getfield 13, 3) := by decide +kernel
theorem dX9_best_46 : decode cX9_best 46 = .ok (.iload 5, 2) := by decide +kernel
theorem dX9_best_48 : decode cX9_best 48 = .ok (.iaload, 1) := by decide +kernel
theorem dX9_best_49 : decode cX9_best 49 = .ok (.iconst 1, 1) := by decide +kernel
theorem dX9_best_50 : decode cX9_best 50 = .ok (.if_icmp .ne 123, 3) := by decide +kernel
theorem dX9_best_53 : decode cX9_best 53 = .ok (.aload_n 0, 1) := by decide +kernel
theorem dX9_best_54 : decode cX9_best 54 = .ok (.getfield 49, 3) := by decide +kernel
theorem dX9_best_57 : decode cX9_best 57 = .ok (.iconst 0, 1) := by decide +kernel
theorem dX9_best_58 : decode cX9_best 58 = .ok (.iload 5, 2) := by decide +kernel
theorem dX9_best_60 : decode cX9_best 60 = .ok (.iadd, 1) := by decide +kernel
theorem dX9_best_61 : decode cX9_best 61 = .ok (.iaload, 1) := by decide +kernel
theorem dX9_best_62 : decode cX9_best 62 = .ok (.ifCond .ne 111, 3) := by decide +kernel
theorem dX9_best_65 : decode cX9_best 65 = .ok (.aload_n 0, 1) := by decide +kernel
theorem dX9_best_66 : decode cX9_best 66 = .ok (.getfield 49, 3) := by decide +kernel
theorem dX9_best_69 : decode cX9_best 69 = .ok (.bipush 24, 2) := by decide +kernel
theorem dX9_best_71 : decode cX9_best 71 = .ok (.iload 5, 2) := by decide +kernel
theorem dX9_best_73 : decode cX9_best 73 = .ok (.iadd, 1) := by decide +kernel
theorem dX9_best_74 : decode cX9_best 74 = .ok (.iaload, 1) := by decide +kernel
theorem dX9_best_75 : decode cX9_best 75 = .ok (.istore 6, 2) := by decide +kernel
theorem dX9_best_77 : decode cX9_best 77 = .ok (.aload_n 0, 1) := by decide +kernel
theorem dX9_best_78 : decode cX9_best 78 = .ok (.getfield 49, 3) := by decide +kernel
theorem dX9_best_81 : decode cX9_best 81 = .ok (.iconst 0, 1) := by decide +kernel
theorem dX9_best_82 : decode cX9_best 82 = .ok (.iload 5, 2) := by decide +kernel
theorem dX9_best_84 : decode cX9_best 84 = .ok (.iadd, 1) := by decide +kernel
theorem dX9_best_85 : decode cX9_best 85 = .ok (.iconst 1, 1) := by decide +kernel
theorem dX9_best_86 : decode cX9_best 86 = .ok (.iastore, 1) := by decide +kernel
theorem dX9_best_87 : decode cX9_best 87 = .ok (.aload_n 0, 1) := by decide +kernel
theorem dX9_best_88 : decode cX9_best 88 = .ok (.getfield 49, 3) := by decide +kernel
theorem dX9_best_91 : decode cX9_best 91 = .ok (.bipush 24, 2) := by decide +kernel
theorem dX9_best_93 : decode cX9_best 93 = .ok (.iload 5, 2) := by decide +kernel
theorem dX9_best_95 : decode cX9_best 95 = .ok (.iadd, 1) := by decide +kernel
theorem dX9_best_96 : decode cX9_best 96 = .ok (.aload_n 0, 1) := by decide +kernel
theorem dX9_best_97 : decode cX9_best 97 = .ok (.getfield 49, 3) := by decide +kernel
theorem dX9_best_100 : decode cX9_best 100 = .ok (.bipush 48, 2) := by decide +kernel
theorem dX9_best_102 : decode cX9_best 102 = .ok (.iload 5, 2) := by decide +kernel
theorem dX9_best_104 : decode cX9_best 104 = .ok (.iadd, 1) := by decide +kernel
theorem dX9_best_105 : decode cX9_best 105 = .ok (.iaload, 1) := by decide +kernel
theorem dX9_best_106 : decode cX9_best 106 = .ok (.iastore, 1) := by decide +kernel
theorem dX9_best_107 : decode cX9_best 107 = .ok (.aload_n 0, 1) := by decide +kernel
theorem dX9_best_108 : decode cX9_best 108 = .ok (.iconst 0, 1) := by decide +kernel
theorem dX9_best_109 : decode cX9_best 109 = .ok (.invokevirtual 249, 3) := by decide +kernel
theorem dX9_best_112 : decode cX9_best 112 = .ok (.iload_n 2, 1) := by decide +kernel
theorem dX9_best_113 : decode cX9_best 113 = .ok (.aload_n 0, 1) := by decide +kernel
theorem dX9_best_114 : decode cX9_best 114 = .ok (.iconst 2, 1) := by decide +kernel
theorem dX9_best_115 : decode cX9_best 115 = .ok (.invokevirtual 266, 3) := by decide +kernel
theorem dX9_best_118 : decode cX9_best 118 = .ok (.isub, 1) := by decide +kernel
theorem dX9_best_119 : decode cX9_best 119 = .ok (.istore 7, 2) := by decide +kernel
theorem dX9_best_121 : decode cX9_best 121 = .ok (.aload_n 0, 1) := by decide +kernel
theorem dX9_best_122 : decode cX9_best 122 = .ok (.getfield 49, 3) := by decide +kernel
theorem dX9_best_125 : decode cX9_best 125 = .ok (.iconst 0, 1) := by decide +kernel
theorem dX9_best_126 : decode cX9_best 126 = .ok (.iload 5, 2) := by decide +kernel
theorem dX9_best_128 : decode cX9_best 128 = .ok (.iadd, 1) := by decide +kernel
theorem dX9_best_129 : decode cX9_best 129 = .ok (.iconst 0, 1) := by decide +kernel
theorem dX9_best_130 : decode cX9_best 130 = .ok (.iastore, 1) := by decide +kernel
theorem dX9_best_131 : decode cX9_best 131 = .ok (.aload_n 0, 1) := by decide +kernel
theorem dX9_best_132 : decode cX9_best 132 = .ok (.getfield 49, 3) := by decide +kernel
theorem dX9_best_135 : decode cX9_best 135 = .ok (.bipush 24, 2) := by decide +kernel
theorem dX9_best_137 : decode cX9_best 137 = .ok (.iload 5, 2) := by decide +kernel
theorem dX9_best_139 : decode cX9_best 139 = .ok (.iadd, 1) := by decide +kernel
theorem dX9_best_140 : decode cX9_best 140 = .ok (.iload 6, 2) := by decide +kernel
theorem dX9_best_142 : decode cX9_best 142 = .ok (.iastore, 1) := by decide +kernel
theorem dX9_best_143 : decode cX9_best 143 = .ok (.iload 7, 2) := by decide +kernel
theorem dX9_best_145 : decode cX9_best 145 = .ok (.iload 4, 2) := by decide +kernel
theorem dX9_best_147 : decode cX9_best 147 = .ok (.if_icmp .le 8, 3) := by decide +kernel
theorem dX9_best_150 : decode cX9_best 150 = .ok (.iload 5, 2) := by decide +kernel
theorem dX9_best_152 : decode cX9_best 152 = .ok (.goto 4, 3) := by decide +kernel
theorem dX9_best_155 : decode cX9_best 155 = .ok (.iload_n 3, 1) := by decide +kernel
theorem dX9_best_156 : decode cX9_best 156 = .ok (.istore_n 3, 1) := by decide +kernel
theorem dX9_best_157 : decode cX9_best 157 = .ok (.iload 7, 2) := by decide +kernel
theorem dX9_best_159 : decode cX9_best 159 = .ok (.iload 4, 2) := by decide +kernel
theorem dX9_best_161 : decode cX9_best 161 = .ok (.if_icmp .le 8, 3) := by decide +kernel
theorem dX9_best_164 : decode cX9_best 164 = .ok (.iload 7, 2) := by decide +kernel
theorem dX9_best_166 : decode cX9_best 166 = .ok (.goto 5, 3) := by decide +kernel
theorem dX9_best_169 : decode cX9_best 169 = .ok (.iload 4, 2) := by decide +kernel
theorem dX9_best_171 : decode cX9_best 171 = .ok (.istore 4, 2) := by decide +kernel
theorem dX9_best_173 : decode cX9_best 173 = .ok (.iinc 5 1, 3) := by decide +kernel
theorem dX9_best_176 : decode cX9_best 176 = .ok (.goto (-143), 3) := by decide +kernel
theorem dX9_best_179 : decode cX9_best 179 = .ok (.iload_n 3, 1) := by decide +kernel
theorem dX9_best_180 : decode cX9_best 180 = .ok (.bipush (-9), 2) := by decide +kernel
theorem dX9_best_182 : decode cX9_best 182 = .ok (.if_icmp .eq 7, 3) := by decide +kernel
theorem dX9_best_185 : decode cX9_best 185 = .ok (.iload_n 1, 1) := by decide +kernel
theorem dX9_best_186 : decode cX9_best 186 = .ok (.ifCond .ne 7, 3) := by decide +kernel
theorem dX9_best_189 : decode cX9_best 189 = .ok (.iload_n 3, 1) := by decide +kernel
theorem dX9_best_190 : decode cX9_best 190 = .ok (.goto 5, 3) := by decide +kernel
theorem dX9_best_193 : decode cX9_best 193 = .ok (.iload 4, 2) := by decide +kernel
theorem dX9_best_195 : decode cX9_best 195 = .ok (.ireturn, 1) := by decide +kernel
theorem dX9_keep_0 : decode cX9_keep 0 = .ok (.iload_n 1, 1) := by decide +kernel
theorem dX9_keep_1 : decode cX9_keep 1 = .ok (.iconst 0, 1) := by decide +kernel
theorem dX9_keep_2 : decode cX9_keep 2 = .ok (.iconst 1, 1) := by decide +kernel
theorem dX9_keep_3 : decode cX9_keep 3 = .ok (.invokestatic 126, 3) := by decide +kernel
theorem dX9_keep_6 : decode cX9_keep 6 = .ok (.ifCond .ne 5, 3) := by decide +kernel
theorem dX9_keep_9 : decode cX9_keep 9 = .ok (.iconst (-1), 1) := by decide +kernel
theorem dX9_keep_10 : decode cX9_keep 10 = .ok (.ireturn, 1) := by decide +kernel
theorem dX9_keep_11 : decode cX9_keep 11 = .ok (.aload_n 0, 1) := by decide +kernel
theorem dX9_keep_12 : decode cX9_keep 12 = .ok (.getfield 49, 3) := by decide +kernel
theorem dX9_keep_15 : decode cX9_keep 15 = .ok (.iconst 0, 1) := by decide +kernel
theorem dX9_keep_16 : decode cX9_keep 16 = .ok (.aload_n 0, 1) := by decide +kernel
theorem dX9_keep_17 : decode cX9_keep 17 = .ok (.getfield 55, 3) := by decide +kernel
theorem dX9_keep_20 : decode cX9_keep 20 = .ok (.bipush 112, 2) := by decide +kernel
theorem dX9_keep_22 : decode cX9_keep 22 = .ok (.iload_n 1, 1) := by decide +kernel
theorem dX9_keep_23 : decode cX9_keep 23 = .ok (.imul, 1) := by decide +kernel
theorem dX9_keep_24 : decode cX9_keep 24 = .ok (.bipush 112, 2) := by decide +kernel
theorem dX9_keep_26 : decode cX9_keep 26 = .ok (.invokestatic 212, 3) := by decide +kernel
theorem dX9_keep_29 : decode cX9_keep 29 = .ok (.aload_n 0, 1) := by decide +kernel
theorem dX9_keep_30 : decode cX9_keep 30 = .ok (.getfield 58, 3) := by decide +kernel
theorem dX9_keep_33 : decode cX9_keep 33 = .ok (.iload_n 1, 1) := by decide +kernel
theorem dX9_keep_34 : decode cX9_keep 34 = .ok (.iconst 1, 1) := by decide +kernel
theorem dX9_keep_35 : decode cX9_keep 35 = .ok (.bastore, 1) := by decide +kernel
theorem dX9_keep_36 : decode cX9_keep 36 = .ok (.aload_n 0, 1) := by decide +kernel
theorem dX9_keep_37 : decode cX9_keep 37 = .ok (.getfield 122, 3) := by decide +kernel
theorem dX9_keep_40 : decode cX9_keep 40 = .ok (.ireturn, 1) := by decide +kernel
theorem dX9_back_0 : decode cX9_back 0 = .ok (.iload_n 1, 1) := by decide +kernel
theorem dX9_back_1 : decode cX9_back 1 = .ok (.iconst 0, 1) := by decide +kernel
theorem dX9_back_2 : decode cX9_back 2 = .ok (.iconst 1, 1) := by decide +kernel
theorem dX9_back_3 : decode cX9_back 3 = .ok (.invokestatic 126, 3) := by decide +kernel
theorem dX9_back_6 : decode cX9_back 6 = .ok (.ifCond .ne 5, 3) := by decide +kernel
theorem dX9_back_9 : decode cX9_back 9 = .ok (.iconst (-1), 1) := by decide +kernel
theorem dX9_back_10 : decode cX9_back 10 = .ok (.ireturn, 1) := by decide +kernel
theorem dX9_back_11 : decode cX9_back 11 = .ok (.aload_n 0, 1) := by decide +kernel
theorem dX9_back_12 : decode cX9_back 12 = .ok (.getfield 58, 3) := by decide +kernel
theorem dX9_back_15 : decode cX9_back 15 = .ok (.iload_n 1, 1) := by decide +kernel
theorem dX9_back_16 : decode cX9_back 16 = .ok (.baload, 1) := by decide +kernel
theorem dX9_back_17 : decode cX9_back 17 = .ok (.ifCond .ne 6, 3) := by decide +kernel
theorem dX9_back_20 : decode cX9_back 20 = .ok (.bipush (-2), 2) := by decide +kernel
theorem dX9_back_22 : decode cX9_back 22 = .ok (.ireturn, 1) := by decide +kernel
theorem dX9_back_23 : decode cX9_back 23 = .ok (.aload_n 0, 1) := by decide +kernel
theorem dX9_back_24 : decode cX9_back 24 = .ok (.getfield 55, 3) := by decide +kernel
theorem dX9_back_27 : decode cX9_back 27 = .ok (.bipush 112, 2) := by decide +kernel
theorem dX9_back_29 : decode cX9_back 29 = .ok (.iload_n 1, 1) := by decide +kernel
theorem dX9_back_30 : decode cX9_back 30 = .ok (.imul, 1) := by decide +kernel
theorem dX9_back_31 : decode cX9_back 31 = .ok (.aload_n 0, 1) := by decide +kernel
theorem dX9_back_32 : decode cX9_back 32 = .ok (.getfield 49, 3) := by decide +kernel
theorem dX9_back_35 : decode cX9_back 35 = .ok (.iconst 0, 1) := by decide +kernel
theorem dX9_back_36 : decode cX9_back 36 = .ok (.bipush 112, 2) := by decide +kernel
theorem dX9_back_38 : decode cX9_back 38 = .ok (.invokestatic 212, 3) := by decide +kernel
theorem dX9_back_41 : decode cX9_back 41 = .ok (.aload_n 0, 1) := by decide +kernel
theorem dX9_back_42 : decode cX9_back 42 = .ok (.iconst 0, 1) := by decide +kernel
theorem dX9_back_43 : decode cX9_back 43 = .ok (.putfield 216, 3) := by decide +kernel
theorem dX9_back_46 : decode cX9_back 46 = .ok (.aload_n 0, 1) := by decide +kernel
theorem dX9_back_47 : decode cX9_back 47 = .ok (.getfield 122, 3) := by decide +kernel
theorem dX9_back_50 : decode cX9_back 50 = .ok (.ireturn, 1) := by decide +kernel
theorem dX9_asked_0 : decode cX9_asked 0 = .ok (.aload_n 0, 1) := by decide +kernel
theorem dX9_asked_1 : decode cX9_asked 1 = .ok (.getfield 243, 3) := by decide +kernel
theorem dX9_asked_4 : decode cX9_asked 4 = .ok (.ireturn, 1) := by decide +kernel
theorem dJ7_fill_53178_0 : decode cJ7_fill_53178 0 = .ok (.iconst 0, 1) := by decide +kernel
theorem dJ7_fill_53178_1 : decode cJ7_fill_53178 1 = .ok (.istore_n 2, 1) := by decide +kernel
theorem dJ7_fill_53178_2 : decode cJ7_fill_53178 2 = .ok (.aload_n 0, 1) := by decide +kernel
theorem dJ7_fill_53178_3 : decode cJ7_fill_53178 3 = .ok (.arraylength, 1) := by decide +kernel
theorem dJ7_fill_53178_4 : decode cJ7_fill_53178 4 = .ok (.istore_n 3, 1) := by decide +kernel
theorem dJ7_fill_53178_5 : decode cJ7_fill_53178 5 = .ok (.iload_n 2, 1) := by decide +kernel
theorem dJ7_fill_53178_6 : decode cJ7_fill_53178 6 = .ok (.iload_n 3, 1) := by decide +kernel
theorem dJ7_fill_53178_7 : decode cJ7_fill_53178 7 = .ok (.if_icmp .ge 13, 3) := by decide +kernel
theorem dJ7_fill_53178_10 : decode cJ7_fill_53178 10 = .ok (.aload_n 0, 1) := by decide +kernel
theorem dJ7_fill_53178_11 : decode cJ7_fill_53178 11 = .ok (.iload_n 2, 1) := by decide +kernel
theorem dJ7_fill_53178_12 : decode cJ7_fill_53178 12 = .ok (.iload_n 1, 1) := by decide +kernel
theorem dJ7_fill_53178_13 : decode cJ7_fill_53178 13 = .ok (.iastore, 1) := by decide +kernel
theorem dJ7_fill_53178_14 : decode cJ7_fill_53178 14 = .ok (.iinc 2 1, 3) := by decide +kernel
theorem dJ7_fill_53178_17 : decode cJ7_fill_53178 17 = .ok (.goto (-12), 3) := by decide +kernel
theorem dJ7_fill_53178_20 : decode cJ7_fill_53178 20 = .ok (.return_, 1) := by decide +kernel
theorem dL_law_0 : decode cL_law 0 = .ok (.new 7, 3) := by decide +kernel
theorem dL_law_3 : decode cL_law 3 = .ok (.dup, 1) := by decide +kernel
theorem dL_law_4 : decode cL_law 4 = .ok (.invokespecial 9, 3) := by decide +kernel
theorem dL_law_7 : decode cL_law 7 = .ok (.astore_n 1, 1) := by decide +kernel
theorem dL_law_8 : decode cL_law 8 = .ok (.new 10, 3) := by decide +kernel
theorem dL_law_11 : decode cL_law 11 = .ok (.dup, 1) := by decide +kernel
theorem dL_law_12 : decode cL_law 12 = .ok (.invokespecial 12, 3) := by decide +kernel
theorem dL_law_15 : decode cL_law 15 = .ok (.astore_n 2, 1) := by decide +kernel
theorem dL_law_16 : decode cL_law 16 = .ok (.iconst 0, 1) := by decide +kernel
theorem dL_law_17 : decode cL_law 17 = .ok (.istore_n 3, 1) := by decide +kernel
theorem dL_law_18 : decode cL_law 18 = .ok (.iload_n 3, 1) := by decide +kernel
theorem dL_law_19 : decode cL_law 19 = .ok (.aload_n 0, 1) := by decide +kernel
theorem dL_law_20 : decode cL_law 20 = .ok (.arraylength, 1) := by decide +kernel
theorem dL_law_21 : decode cL_law 21 = .ok (.iconst 3, 1) := by decide +kernel
theorem dL_law_22 : decode cL_law 22 = .ok (.isub, 1) := by decide +kernel
theorem dL_law_23 : decode cL_law 23 = .ok (.if_icmp .gt 571, 3) := by decide +kernel
theorem dL_law_26 : decode cL_law 26 = .ok (.aload_n 0, 1) := by decide +kernel
theorem dL_law_27 : decode cL_law 27 = .ok (.iload_n 3, 1) := by decide +kernel
theorem dL_law_28 : decode cL_law 28 = .ok (.iaload, 1) := by decide +kernel
theorem dL_law_29 : decode cL_law 29 = .ok (.bipush 31, 2) := by decide +kernel
theorem dL_law_31 : decode cL_law 31 = .ok (.iand, 1) := by decide +kernel
theorem dL_law_32 : decode cL_law 32 = .ok (.tableswitch 556 0 19 #[96, 119, 132, 145, 178, 201, 234, 267, 290, 323, 356, 379, 392, 405, 428, 451, 474, 497, 520, 543], 96) := by decide +kernel
theorem dL_law_128 : decode cL_law 128 = .ok (.aload_n 1, 1) := by decide +kernel
theorem dL_law_129 : decode cL_law 129 = .ok (.aload_n 0, 1) := by decide +kernel
theorem dL_law_130 : decode cL_law 130 = .ok (.iload_n 3, 1) := by decide +kernel
theorem dL_law_131 : decode cL_law 131 = .ok (.iconst 1, 1) := by decide +kernel
theorem dL_law_132 : decode cL_law 132 = .ok (.iadd, 1) := by decide +kernel
theorem dL_law_133 : decode cL_law 133 = .ok (.iaload, 1) := by decide +kernel
theorem dL_law_134 : decode cL_law 134 = .ok (.invokevirtual 13, 3) := by decide +kernel
theorem dL_law_137 : decode cL_law 137 = .ok (.aload_n 2, 1) := by decide +kernel
theorem dL_law_138 : decode cL_law 138 = .ok (.aload_n 0, 1) := by decide +kernel
theorem dL_law_139 : decode cL_law 139 = .ok (.iload_n 3, 1) := by decide +kernel
theorem dL_law_140 : decode cL_law 140 = .ok (.iconst 1, 1) := by decide +kernel
theorem dL_law_141 : decode cL_law 141 = .ok (.iadd, 1) := by decide +kernel
theorem dL_law_142 : decode cL_law 142 = .ok (.iaload, 1) := by decide +kernel
theorem dL_law_143 : decode cL_law 143 = .ok (.invokevirtual 17, 3) := by decide +kernel
theorem dL_law_146 : decode cL_law 146 = .ok (.if_icmp .eq 442, 3) := by decide +kernel
theorem dL_law_149 : decode cL_law 149 = .ok (.iconst 0, 1) := by decide +kernel
theorem dL_law_150 : decode cL_law 150 = .ok (.ireturn, 1) := by decide +kernel
theorem dL_law_151 : decode cL_law 151 = .ok (.aload_n 1, 1) := by decide +kernel
theorem dL_law_152 : decode cL_law 152 = .ok (.invokevirtual 18, 3) := by decide +kernel
theorem dL_law_155 : decode cL_law 155 = .ok (.aload_n 2, 1) := by decide +kernel
theorem dL_law_156 : decode cL_law 156 = .ok (.invokevirtual 22, 3) := by decide +kernel
theorem dL_law_159 : decode cL_law 159 = .ok (.if_icmp .eq 429, 3) := by decide +kernel
theorem dL_law_162 : decode cL_law 162 = .ok (.iconst 0, 1) := by decide +kernel
theorem dL_law_163 : decode cL_law 163 = .ok (.ireturn, 1) := by decide +kernel
theorem dL_law_164 : decode cL_law 164 = .ok (.aload_n 1, 1) := by decide +kernel
theorem dL_law_165 : decode cL_law 165 = .ok (.invokevirtual 23, 3) := by decide +kernel
theorem dL_law_168 : decode cL_law 168 = .ok (.aload_n 2, 1) := by decide +kernel
theorem dL_law_169 : decode cL_law 169 = .ok (.invokevirtual 26, 3) := by decide +kernel
theorem dL_law_172 : decode cL_law 172 = .ok (.if_icmp .eq 416, 3) := by decide +kernel
theorem dL_law_175 : decode cL_law 175 = .ok (.iconst 0, 1) := by decide +kernel
theorem dL_law_176 : decode cL_law 176 = .ok (.ireturn, 1) := by decide +kernel
theorem dL_law_177 : decode cL_law 177 = .ok (.aload_n 1, 1) := by decide +kernel
theorem dL_law_178 : decode cL_law 178 = .ok (.aload_n 0, 1) := by decide +kernel
theorem dL_law_179 : decode cL_law 179 = .ok (.iload_n 3, 1) := by decide +kernel
theorem dL_law_180 : decode cL_law 180 = .ok (.iconst 1, 1) := by decide +kernel
theorem dL_law_181 : decode cL_law 181 = .ok (.iadd, 1) := by decide +kernel
theorem dL_law_182 : decode cL_law 182 = .ok (.iaload, 1) := by decide +kernel
theorem dL_law_183 : decode cL_law 183 = .ok (.aload_n 0, 1) := by decide +kernel
theorem dL_law_184 : decode cL_law 184 = .ok (.iload_n 3, 1) := by decide +kernel
theorem dL_law_185 : decode cL_law 185 = .ok (.iconst 2, 1) := by decide +kernel
theorem dL_law_186 : decode cL_law 186 = .ok (.iadd, 1) := by decide +kernel
theorem dL_law_187 : decode cL_law 187 = .ok (.iaload, 1) := by decide +kernel
theorem dL_law_188 : decode cL_law 188 = .ok (.invokevirtual 27, 3) := by decide +kernel
theorem dL_law_191 : decode cL_law 191 = .ok (.aload_n 2, 1) := by decide +kernel
theorem dL_law_192 : decode cL_law 192 = .ok (.aload_n 0, 1) := by decide +kernel
theorem dL_law_193 : decode cL_law 193 = .ok (.iload_n 3, 1) := by decide +kernel
theorem dL_law_194 : decode cL_law 194 = .ok (.iconst 1, 1) := by decide +kernel
theorem dL_law_195 : decode cL_law 195 = .ok (.iadd, 1) := by decide +kernel
theorem dL_law_196 : decode cL_law 196 = .ok (.iaload, 1) := by decide +kernel
theorem dL_law_197 : decode cL_law 197 = .ok (.aload_n 0, 1) := by decide +kernel
theorem dL_law_198 : decode cL_law 198 = .ok (.iload_n 3, 1) := by decide +kernel
theorem dL_law_199 : decode cL_law 199 = .ok (.iconst 2, 1) := by decide +kernel
theorem dL_law_200 : decode cL_law 200 = .ok (.iadd, 1) := by decide +kernel
theorem dL_law_201 : decode cL_law 201 = .ok (.iaload, 1) := by decide +kernel
theorem dL_law_202 : decode cL_law 202 = .ok (.invokevirtual 31, 3) := by decide +kernel
theorem dL_law_205 : decode cL_law 205 = .ok (.if_icmp .eq 383, 3) := by decide +kernel
theorem dL_law_208 : decode cL_law 208 = .ok (.iconst 0, 1) := by decide +kernel
theorem dL_law_209 : decode cL_law 209 = .ok (.ireturn, 1) := by decide +kernel
theorem dL_law_210 : decode cL_law 210 = .ok (.aload_n 1, 1) := by decide +kernel
theorem dL_law_211 : decode cL_law 211 = .ok (.aload_n 0, 1) := by decide +kernel
theorem dL_law_212 : decode cL_law 212 = .ok (.iload_n 3, 1) := by decide +kernel
theorem dL_law_213 : decode cL_law 213 = .ok (.iconst 1, 1) := by decide +kernel
theorem dL_law_214 : decode cL_law 214 = .ok (.iadd, 1) := by decide +kernel
theorem dL_law_215 : decode cL_law 215 = .ok (.iaload, 1) := by decide +kernel
theorem dL_law_216 : decode cL_law 216 = .ok (.invokevirtual 32, 3) := by decide +kernel
theorem dL_law_219 : decode cL_law 219 = .ok (.aload_n 2, 1) := by decide +kernel
theorem dL_law_220 : decode cL_law 220 = .ok (.aload_n 0, 1) := by decide +kernel
theorem dL_law_221 : decode cL_law 221 = .ok (.iload_n 3, 1) := by decide +kernel
theorem dL_law_222 : decode cL_law 222 = .ok (.iconst 1, 1) := by decide +kernel
theorem dL_law_223 : decode cL_law 223 = .ok (.iadd, 1) := by decide +kernel
theorem dL_law_224 : decode cL_law 224 = .ok (.iaload, 1) := by decide +kernel
theorem dL_law_225 : decode cL_law 225 = .ok (.invokevirtual 35, 3) := by decide +kernel
theorem dL_law_228 : decode cL_law 228 = .ok (.if_icmp .eq 360, 3) := by decide +kernel
theorem dL_law_231 : decode cL_law 231 = .ok (.iconst 0, 1) := by decide +kernel
theorem dL_law_232 : decode cL_law 232 = .ok (.ireturn, 1) := by decide +kernel
theorem dL_law_233 : decode cL_law 233 = .ok (.aload_n 1, 1) := by decide +kernel
theorem dL_law_234 : decode cL_law 234 = .ok (.aload_n 0, 1) := by decide +kernel
theorem dL_law_235 : decode cL_law 235 = .ok (.iload_n 3, 1) := by decide +kernel
theorem dL_law_236 : decode cL_law 236 = .ok (.iconst 1, 1) := by decide +kernel
theorem dL_law_237 : decode cL_law 237 = .ok (.iadd, 1) := by decide +kernel
theorem dL_law_238 : decode cL_law 238 = .ok (.iaload, 1) := by decide +kernel
theorem dL_law_239 : decode cL_law 239 = .ok (.aload_n 0, 1) := by decide +kernel
theorem dL_law_240 : decode cL_law 240 = .ok (.iload_n 3, 1) := by decide +kernel
theorem dL_law_241 : decode cL_law 241 = .ok (.iconst 2, 1) := by decide +kernel
theorem dL_law_242 : decode cL_law 242 = .ok (.iadd, 1) := by decide +kernel
theorem dL_law_243 : decode cL_law 243 = .ok (.iaload, 1) := by decide +kernel
theorem dL_law_244 : decode cL_law 244 = .ok (.invokevirtual 36, 3) := by decide +kernel
theorem dL_law_247 : decode cL_law 247 = .ok (.aload_n 2, 1) := by decide +kernel
theorem dL_law_248 : decode cL_law 248 = .ok (.aload_n 0, 1) := by decide +kernel
theorem dL_law_249 : decode cL_law 249 = .ok (.iload_n 3, 1) := by decide +kernel
theorem dL_law_250 : decode cL_law 250 = .ok (.iconst 1, 1) := by decide +kernel
theorem dL_law_251 : decode cL_law 251 = .ok (.iadd, 1) := by decide +kernel
theorem dL_law_252 : decode cL_law 252 = .ok (.iaload, 1) := by decide +kernel
theorem dL_law_253 : decode cL_law 253 = .ok (.aload_n 0, 1) := by decide +kernel
theorem dL_law_254 : decode cL_law 254 = .ok (.iload_n 3, 1) := by decide +kernel
theorem dL_law_255 : decode cL_law 255 = .ok (.iconst 2, 1) := by decide +kernel
theorem dL_law_256 : decode cL_law 256 = .ok (.iadd, 1) := by decide +kernel
theorem dL_law_257 : decode cL_law 257 = .ok (.iaload, 1) := by decide +kernel
theorem dL_law_258 : decode cL_law 258 = .ok (.invokevirtual 39, 3) := by decide +kernel
theorem dL_law_261 : decode cL_law 261 = .ok (.if_icmp .eq 327, 3) := by decide +kernel
theorem dL_law_264 : decode cL_law 264 = .ok (.iconst 0, 1) := by decide +kernel
theorem dL_law_265 : decode cL_law 265 = .ok (.ireturn, 1) := by decide +kernel
theorem dL_law_266 : decode cL_law 266 = .ok (.aload_n 1, 1) := by decide +kernel
theorem dL_law_267 : decode cL_law 267 = .ok (.aload_n 0, 1) := by decide +kernel
theorem dL_law_268 : decode cL_law 268 = .ok (.iload_n 3, 1) := by decide +kernel
theorem dL_law_269 : decode cL_law 269 = .ok (.iconst 1, 1) := by decide +kernel
theorem dL_law_270 : decode cL_law 270 = .ok (.iadd, 1) := by decide +kernel
theorem dL_law_271 : decode cL_law 271 = .ok (.iaload, 1) := by decide +kernel
theorem dL_law_272 : decode cL_law 272 = .ok (.aload_n 0, 1) := by decide +kernel
theorem dL_law_273 : decode cL_law 273 = .ok (.iload_n 3, 1) := by decide +kernel
theorem dL_law_274 : decode cL_law 274 = .ok (.iconst 2, 1) := by decide +kernel
theorem dL_law_275 : decode cL_law 275 = .ok (.iadd, 1) := by decide +kernel
theorem dL_law_276 : decode cL_law 276 = .ok (.iaload, 1) := by decide +kernel
theorem dL_law_277 : decode cL_law 277 = .ok (.invokevirtual 40, 3) := by decide +kernel
theorem dL_law_280 : decode cL_law 280 = .ok (.aload_n 2, 1) := by decide +kernel
theorem dL_law_281 : decode cL_law 281 = .ok (.aload_n 0, 1) := by decide +kernel
theorem dL_law_282 : decode cL_law 282 = .ok (.iload_n 3, 1) := by decide +kernel
theorem dL_law_283 : decode cL_law 283 = .ok (.iconst 1, 1) := by decide +kernel
theorem dL_law_284 : decode cL_law 284 = .ok (.iadd, 1) := by decide +kernel
theorem dL_law_285 : decode cL_law 285 = .ok (.iaload, 1) := by decide +kernel
theorem dL_law_286 : decode cL_law 286 = .ok (.aload_n 0, 1) := by decide +kernel
theorem dL_law_287 : decode cL_law 287 = .ok (.iload_n 3, 1) := by decide +kernel
theorem dL_law_288 : decode cL_law 288 = .ok (.iconst 2, 1) := by decide +kernel
theorem dL_law_289 : decode cL_law 289 = .ok (.iadd, 1) := by decide +kernel
theorem dL_law_290 : decode cL_law 290 = .ok (.iaload, 1) := by decide +kernel
theorem dL_law_291 : decode cL_law 291 = .ok (.invokevirtual 43, 3) := by decide +kernel
theorem dL_law_294 : decode cL_law 294 = .ok (.if_icmp .eq 294, 3) := by decide +kernel
theorem dL_law_297 : decode cL_law 297 = .ok (.iconst 0, 1) := by decide +kernel
theorem dL_law_298 : decode cL_law 298 = .ok (.ireturn, 1) := by decide +kernel
theorem dL_law_299 : decode cL_law 299 = .ok (.aload_n 1, 1) := by decide +kernel
theorem dL_law_300 : decode cL_law 300 = .ok (.aload_n 0, 1) := by decide +kernel
theorem dL_law_301 : decode cL_law 301 = .ok (.iload_n 3, 1) := by decide +kernel
theorem dL_law_302 : decode cL_law 302 = .ok (.iconst 1, 1) := by decide +kernel
theorem dL_law_303 : decode cL_law 303 = .ok (.iadd, 1) := by decide +kernel
theorem dL_law_304 : decode cL_law 304 = .ok (.iaload, 1) := by decide +kernel
theorem dL_law_305 : decode cL_law 305 = .ok (.invokevirtual 44, 3) := by decide +kernel
theorem dL_law_308 : decode cL_law 308 = .ok (.aload_n 2, 1) := by decide +kernel
theorem dL_law_309 : decode cL_law 309 = .ok (.aload_n 0, 1) := by decide +kernel
theorem dL_law_310 : decode cL_law 310 = .ok (.iload_n 3, 1) := by decide +kernel
theorem dL_law_311 : decode cL_law 311 = .ok (.iconst 1, 1) := by decide +kernel
theorem dL_law_312 : decode cL_law 312 = .ok (.iadd, 1) := by decide +kernel
theorem dL_law_313 : decode cL_law 313 = .ok (.iaload, 1) := by decide +kernel
theorem dL_law_314 : decode cL_law 314 = .ok (.invokevirtual 47, 3) := by decide +kernel
theorem dL_law_317 : decode cL_law 317 = .ok (.if_icmp .eq 271, 3) := by decide +kernel
theorem dL_law_320 : decode cL_law 320 = .ok (.iconst 0, 1) := by decide +kernel
theorem dL_law_321 : decode cL_law 321 = .ok (.ireturn, 1) := by decide +kernel
theorem dL_law_322 : decode cL_law 322 = .ok (.aload_n 1, 1) := by decide +kernel
theorem dL_law_323 : decode cL_law 323 = .ok (.aload_n 0, 1) := by decide +kernel
theorem dL_law_324 : decode cL_law 324 = .ok (.iload_n 3, 1) := by decide +kernel
theorem dL_law_325 : decode cL_law 325 = .ok (.iconst 1, 1) := by decide +kernel
theorem dL_law_326 : decode cL_law 326 = .ok (.iadd, 1) := by decide +kernel
theorem dL_law_327 : decode cL_law 327 = .ok (.iaload, 1) := by decide +kernel
theorem dL_law_328 : decode cL_law 328 = .ok (.aload_n 0, 1) := by decide +kernel
theorem dL_law_329 : decode cL_law 329 = .ok (.iload_n 3, 1) := by decide +kernel
theorem dL_law_330 : decode cL_law 330 = .ok (.iconst 2, 1) := by decide +kernel
theorem dL_law_331 : decode cL_law 331 = .ok (.iadd, 1) := by decide +kernel
theorem dL_law_332 : decode cL_law 332 = .ok (.iaload, 1) := by decide +kernel
theorem dL_law_333 : decode cL_law 333 = .ok (.invokevirtual 48, 3) := by decide +kernel
theorem dL_law_336 : decode cL_law 336 = .ok (.aload_n 2, 1) := by decide +kernel
theorem dL_law_337 : decode cL_law 337 = .ok (.aload_n 0, 1) := by decide +kernel
theorem dL_law_338 : decode cL_law 338 = .ok (.iload_n 3, 1) := by decide +kernel
theorem dL_law_339 : decode cL_law 339 = .ok (.iconst 1, 1) := by decide +kernel
theorem dL_law_340 : decode cL_law 340 = .ok (.iadd, 1) := by decide +kernel
theorem dL_law_341 : decode cL_law 341 = .ok (.iaload, 1) := by decide +kernel
theorem dL_law_342 : decode cL_law 342 = .ok (.aload_n 0, 1) := by decide +kernel
theorem dL_law_343 : decode cL_law 343 = .ok (.iload_n 3, 1) := by decide +kernel
theorem dL_law_344 : decode cL_law 344 = .ok (.iconst 2, 1) := by decide +kernel
theorem dL_law_345 : decode cL_law 345 = .ok (.iadd, 1) := by decide +kernel
theorem dL_law_346 : decode cL_law 346 = .ok (.iaload, 1) := by decide +kernel
theorem dL_law_347 : decode cL_law 347 = .ok (.invokevirtual 51, 3) := by decide +kernel
theorem dL_law_350 : decode cL_law 350 = .ok (.if_icmp .eq 238, 3) := by decide +kernel
theorem dL_law_353 : decode cL_law 353 = .ok (.iconst 0, 1) := by decide +kernel
theorem dL_law_354 : decode cL_law 354 = .ok (.ireturn, 1) := by decide +kernel
theorem dL_law_355 : decode cL_law 355 = .ok (.aload_n 1, 1) := by decide +kernel
theorem dL_law_356 : decode cL_law 356 = .ok (.aload_n 0, 1) := by decide +kernel
theorem dL_law_357 : decode cL_law 357 = .ok (.iload_n 3, 1) := by decide +kernel
theorem dL_law_358 : decode cL_law 358 = .ok (.iconst 1, 1) := by decide +kernel
theorem dL_law_359 : decode cL_law 359 = .ok (.iadd, 1) := by decide +kernel
theorem dL_law_360 : decode cL_law 360 = .ok (.iaload, 1) := by decide +kernel
theorem dL_law_361 : decode cL_law 361 = .ok (.aload_n 0, 1) := by decide +kernel
theorem dL_law_362 : decode cL_law 362 = .ok (.iload_n 3, 1) := by decide +kernel
theorem dL_law_363 : decode cL_law 363 = .ok (.iconst 2, 1) := by decide +kernel
theorem dL_law_364 : decode cL_law 364 = .ok (.iadd, 1) := by decide +kernel
theorem dL_law_365 : decode cL_law 365 = .ok (.iaload, 1) := by decide +kernel
theorem dL_law_366 : decode cL_law 366 = .ok (.invokevirtual 52, 3) := by decide +kernel
theorem dL_law_369 : decode cL_law 369 = .ok (.aload_n 2, 1) := by decide +kernel
theorem dL_law_370 : decode cL_law 370 = .ok (.aload_n 0, 1) := by decide +kernel
theorem dL_law_371 : decode cL_law 371 = .ok (.iload_n 3, 1) := by decide +kernel
theorem dL_law_372 : decode cL_law 372 = .ok (.iconst 1, 1) := by decide +kernel
theorem dL_law_373 : decode cL_law 373 = .ok (.iadd, 1) := by decide +kernel
theorem dL_law_374 : decode cL_law 374 = .ok (.iaload, 1) := by decide +kernel
theorem dL_law_375 : decode cL_law 375 = .ok (.aload_n 0, 1) := by decide +kernel
theorem dL_law_376 : decode cL_law 376 = .ok (.iload_n 3, 1) := by decide +kernel
theorem dL_law_377 : decode cL_law 377 = .ok (.iconst 2, 1) := by decide +kernel
theorem dL_law_378 : decode cL_law 378 = .ok (.iadd, 1) := by decide +kernel
theorem dL_law_379 : decode cL_law 379 = .ok (.iaload, 1) := by decide +kernel
theorem dL_law_380 : decode cL_law 380 = .ok (.invokevirtual 55, 3) := by decide +kernel
theorem dL_law_383 : decode cL_law 383 = .ok (.if_icmp .eq 205, 3) := by decide +kernel
theorem dL_law_386 : decode cL_law 386 = .ok (.iconst 0, 1) := by decide +kernel
theorem dL_law_387 : decode cL_law 387 = .ok (.ireturn, 1) := by decide +kernel
theorem dL_law_388 : decode cL_law 388 = .ok (.aload_n 1, 1) := by decide +kernel
theorem dL_law_389 : decode cL_law 389 = .ok (.aload_n 0, 1) := by decide +kernel
theorem dL_law_390 : decode cL_law 390 = .ok (.iload_n 3, 1) := by decide +kernel
theorem dL_law_391 : decode cL_law 391 = .ok (.iconst 1, 1) := by decide +kernel
theorem dL_law_392 : decode cL_law 392 = .ok (.iadd, 1) := by decide +kernel
theorem dL_law_393 : decode cL_law 393 = .ok (.iaload, 1) := by decide +kernel
theorem dL_law_394 : decode cL_law 394 = .ok (.invokevirtual 56, 3) := by decide +kernel
theorem dL_law_397 : decode cL_law 397 = .ok (.aload_n 2, 1) := by decide +kernel
theorem dL_law_398 : decode cL_law 398 = .ok (.aload_n 0, 1) := by decide +kernel
theorem dL_law_399 : decode cL_law 399 = .ok (.iload_n 3, 1) := by decide +kernel
theorem dL_law_400 : decode cL_law 400 = .ok (.iconst 1, 1) := by decide +kernel
theorem dL_law_401 : decode cL_law 401 = .ok (.iadd, 1) := by decide +kernel
theorem dL_law_402 : decode cL_law 402 = .ok (.iaload, 1) := by decide +kernel
theorem dL_law_403 : decode cL_law 403 = .ok (.invokevirtual 59, 3) := by decide +kernel
theorem dL_law_406 : decode cL_law 406 = .ok (.if_icmp .eq 182, 3) := by decide +kernel
theorem dL_law_409 : decode cL_law 409 = .ok (.iconst 0, 1) := by decide +kernel
theorem dL_law_410 : decode cL_law 410 = .ok (.ireturn, 1) := by decide +kernel
theorem dL_law_411 : decode cL_law 411 = .ok (.aload_n 1, 1) := by decide +kernel
theorem dL_law_412 : decode cL_law 412 = .ok (.invokevirtual 60, 3) := by decide +kernel
theorem dL_law_415 : decode cL_law 415 = .ok (.aload_n 2, 1) := by decide +kernel
theorem dL_law_416 : decode cL_law 416 = .ok (.invokevirtual 63, 3) := by decide +kernel
theorem dL_law_419 : decode cL_law 419 = .ok (.if_icmp .eq 169, 3) := by decide +kernel
theorem dL_law_422 : decode cL_law 422 = .ok (.iconst 0, 1) := by decide +kernel
theorem dL_law_423 : decode cL_law 423 = .ok (.ireturn, 1) := by decide +kernel
theorem dL_law_424 : decode cL_law 424 = .ok (.aload_n 1, 1) := by decide +kernel
theorem dL_law_425 : decode cL_law 425 = .ok (.invokevirtual 64, 3) := by decide +kernel
theorem dL_law_428 : decode cL_law 428 = .ok (.aload_n 2, 1) := by decide +kernel
theorem dL_law_429 : decode cL_law 429 = .ok (.invokevirtual 67, 3) := by decide +kernel
theorem dL_law_432 : decode cL_law 432 = .ok (.if_icmp .eq 156, 3) := by decide +kernel
theorem dL_law_435 : decode cL_law 435 = .ok (.iconst 0, 1) := by decide +kernel
theorem dL_law_436 : decode cL_law 436 = .ok (.ireturn, 1) := by decide +kernel
theorem dL_law_437 : decode cL_law 437 = .ok (.aload_n 1, 1) := by decide +kernel
theorem dL_law_438 : decode cL_law 438 = .ok (.aload_n 0, 1) := by decide +kernel
theorem dL_law_439 : decode cL_law 439 = .ok (.iload_n 3, 1) := by decide +kernel
theorem dL_law_440 : decode cL_law 440 = .ok (.iconst 1, 1) := by decide +kernel
theorem dL_law_441 : decode cL_law 441 = .ok (.iadd, 1) := by decide +kernel
theorem dL_law_442 : decode cL_law 442 = .ok (.iaload, 1) := by decide +kernel
theorem dL_law_443 : decode cL_law 443 = .ok (.invokevirtual 68, 3) := by decide +kernel
theorem dL_law_446 : decode cL_law 446 = .ok (.aload_n 2, 1) := by decide +kernel
theorem dL_law_447 : decode cL_law 447 = .ok (.aload_n 0, 1) := by decide +kernel
theorem dL_law_448 : decode cL_law 448 = .ok (.iload_n 3, 1) := by decide +kernel
theorem dL_law_449 : decode cL_law 449 = .ok (.iconst 1, 1) := by decide +kernel
theorem dL_law_450 : decode cL_law 450 = .ok (.iadd, 1) := by decide +kernel
theorem dL_law_451 : decode cL_law 451 = .ok (.iaload, 1) := by decide +kernel
theorem dL_law_452 : decode cL_law 452 = .ok (.invokevirtual 71, 3) := by decide +kernel
theorem dL_law_455 : decode cL_law 455 = .ok (.if_icmp .eq 133, 3) := by decide +kernel
theorem dL_law_458 : decode cL_law 458 = .ok (.iconst 0, 1) := by decide +kernel
theorem dL_law_459 : decode cL_law 459 = .ok (.ireturn, 1) := by decide +kernel
theorem dL_law_460 : decode cL_law 460 = .ok (.aload_n 1, 1) := by decide +kernel
theorem dL_law_461 : decode cL_law 461 = .ok (.aload_n 0, 1) := by decide +kernel
theorem dL_law_462 : decode cL_law 462 = .ok (.iload_n 3, 1) := by decide +kernel
theorem dL_law_463 : decode cL_law 463 = .ok (.iconst 1, 1) := by decide +kernel
theorem dL_law_464 : decode cL_law 464 = .ok (.iadd, 1) := by decide +kernel
theorem dL_law_465 : decode cL_law 465 = .ok (.iaload, 1) := by decide +kernel
theorem dL_law_466 : decode cL_law 466 = .ok (.invokevirtual 72, 3) := by decide +kernel
theorem dL_law_469 : decode cL_law 469 = .ok (.aload_n 2, 1) := by decide +kernel
theorem dL_law_470 : decode cL_law 470 = .ok (.aload_n 0, 1) := by decide +kernel
theorem dL_law_471 : decode cL_law 471 = .ok (.iload_n 3, 1) := by decide +kernel
theorem dL_law_472 : decode cL_law 472 = .ok (.iconst 1, 1) := by decide +kernel
theorem dL_law_473 : decode cL_law 473 = .ok (.iadd, 1) := by decide +kernel
theorem dL_law_474 : decode cL_law 474 = .ok (.iaload, 1) := by decide +kernel
theorem dL_law_475 : decode cL_law 475 = .ok (.invokevirtual 75, 3) := by decide +kernel
theorem dL_law_478 : decode cL_law 478 = .ok (.if_icmp .eq 110, 3) := by decide +kernel
theorem dL_law_481 : decode cL_law 481 = .ok (.iconst 0, 1) := by decide +kernel
theorem dL_law_482 : decode cL_law 482 = .ok (.ireturn, 1) := by decide +kernel
theorem dL_law_483 : decode cL_law 483 = .ok (.aload_n 1, 1) := by decide +kernel
theorem dL_law_484 : decode cL_law 484 = .ok (.aload_n 0, 1) := by decide +kernel
theorem dL_law_485 : decode cL_law 485 = .ok (.iload_n 3, 1) := by decide +kernel
theorem dL_law_486 : decode cL_law 486 = .ok (.iconst 1, 1) := by decide +kernel
theorem dL_law_487 : decode cL_law 487 = .ok (.iadd, 1) := by decide +kernel
theorem dL_law_488 : decode cL_law 488 = .ok (.iaload, 1) := by decide +kernel
theorem dL_law_489 : decode cL_law 489 = .ok (.invokevirtual 76, 3) := by decide +kernel
theorem dL_law_492 : decode cL_law 492 = .ok (.aload_n 2, 1) := by decide +kernel
theorem dL_law_493 : decode cL_law 493 = .ok (.aload_n 0, 1) := by decide +kernel
theorem dL_law_494 : decode cL_law 494 = .ok (.iload_n 3, 1) := by decide +kernel
theorem dL_law_495 : decode cL_law 495 = .ok (.iconst 1, 1) := by decide +kernel
theorem dL_law_496 : decode cL_law 496 = .ok (.iadd, 1) := by decide +kernel
theorem dL_law_497 : decode cL_law 497 = .ok (.iaload, 1) := by decide +kernel
theorem dL_law_498 : decode cL_law 498 = .ok (.invokevirtual 79, 3) := by decide +kernel
theorem dL_law_501 : decode cL_law 501 = .ok (.if_icmp .eq 87, 3) := by decide +kernel
theorem dL_law_504 : decode cL_law 504 = .ok (.iconst 0, 1) := by decide +kernel
theorem dL_law_505 : decode cL_law 505 = .ok (.ireturn, 1) := by decide +kernel
theorem dL_law_506 : decode cL_law 506 = .ok (.aload_n 1, 1) := by decide +kernel
theorem dL_law_507 : decode cL_law 507 = .ok (.aload_n 0, 1) := by decide +kernel
theorem dL_law_508 : decode cL_law 508 = .ok (.iload_n 3, 1) := by decide +kernel
theorem dL_law_509 : decode cL_law 509 = .ok (.iconst 1, 1) := by decide +kernel
theorem dL_law_510 : decode cL_law 510 = .ok (.iadd, 1) := by decide +kernel
theorem dL_law_511 : decode cL_law 511 = .ok (.iaload, 1) := by decide +kernel
theorem dL_law_512 : decode cL_law 512 = .ok (.invokevirtual 80, 3) := by decide +kernel
theorem dL_law_515 : decode cL_law 515 = .ok (.aload_n 2, 1) := by decide +kernel
theorem dL_law_516 : decode cL_law 516 = .ok (.aload_n 0, 1) := by decide +kernel
theorem dL_law_517 : decode cL_law 517 = .ok (.iload_n 3, 1) := by decide +kernel
theorem dL_law_518 : decode cL_law 518 = .ok (.iconst 1, 1) := by decide +kernel
theorem dL_law_519 : decode cL_law 519 = .ok (.iadd, 1) := by decide +kernel
theorem dL_law_520 : decode cL_law 520 = .ok (.iaload, 1) := by decide +kernel
theorem dL_law_521 : decode cL_law 521 = .ok (.invokevirtual 83, 3) := by decide +kernel
theorem dL_law_524 : decode cL_law 524 = .ok (.if_icmp .eq 64, 3) := by decide +kernel
theorem dL_law_527 : decode cL_law 527 = .ok (.iconst 0, 1) := by decide +kernel
theorem dL_law_528 : decode cL_law 528 = .ok (.ireturn, 1) := by decide +kernel
theorem dL_law_529 : decode cL_law 529 = .ok (.aload_n 1, 1) := by decide +kernel
theorem dL_law_530 : decode cL_law 530 = .ok (.aload_n 0, 1) := by decide +kernel
theorem dL_law_531 : decode cL_law 531 = .ok (.iload_n 3, 1) := by decide +kernel
theorem dL_law_532 : decode cL_law 532 = .ok (.iconst 1, 1) := by decide +kernel
theorem dL_law_533 : decode cL_law 533 = .ok (.iadd, 1) := by decide +kernel
theorem dL_law_534 : decode cL_law 534 = .ok (.iaload, 1) := by decide +kernel
theorem dL_law_535 : decode cL_law 535 = .ok (.invokevirtual 84, 3) := by decide +kernel
theorem dL_law_538 : decode cL_law 538 = .ok (.aload_n 2, 1) := by decide +kernel
theorem dL_law_539 : decode cL_law 539 = .ok (.aload_n 0, 1) := by decide +kernel
theorem dL_law_540 : decode cL_law 540 = .ok (.iload_n 3, 1) := by decide +kernel
theorem dL_law_541 : decode cL_law 541 = .ok (.iconst 1, 1) := by decide +kernel
theorem dL_law_542 : decode cL_law 542 = .ok (.iadd, 1) := by decide +kernel
theorem dL_law_543 : decode cL_law 543 = .ok (.iaload, 1) := by decide +kernel
theorem dL_law_544 : decode cL_law 544 = .ok (.invokevirtual 87, 3) := by decide +kernel
theorem dL_law_547 : decode cL_law 547 = .ok (.if_icmp .eq 41, 3) := by decide +kernel
theorem dL_law_550 : decode cL_law 550 = .ok (.iconst 0, 1) := by decide +kernel
theorem dL_law_551 : decode cL_law 551 = .ok (.ireturn, 1) := by decide +kernel
theorem dL_law_552 : decode cL_law 552 = .ok (.aload_n 1, 1) := by decide +kernel
theorem dL_law_553 : decode cL_law 553 = .ok (.aload_n 0, 1) := by decide +kernel
theorem dL_law_554 : decode cL_law 554 = .ok (.iload_n 3, 1) := by decide +kernel
theorem dL_law_555 : decode cL_law 555 = .ok (.iconst 1, 1) := by decide +kernel
theorem dL_law_556 : decode cL_law 556 = .ok (.iadd, 1) := by decide +kernel
theorem dL_law_557 : decode cL_law 557 = .ok (.iaload, 1) := by decide +kernel
theorem dL_law_558 : decode cL_law 558 = .ok (.invokevirtual 88, 3) := by decide +kernel
theorem dL_law_561 : decode cL_law 561 = .ok (.aload_n 2, 1) := by decide +kernel
theorem dL_law_562 : decode cL_law 562 = .ok (.aload_n 0, 1) := by decide +kernel
theorem dL_law_563 : decode cL_law 563 = .ok (.iload_n 3, 1) := by decide +kernel
theorem dL_law_564 : decode cL_law 564 = .ok (.iconst 1, 1) := by decide +kernel
theorem dL_law_565 : decode cL_law 565 = .ok (.iadd, 1) := by decide +kernel
theorem dL_law_566 : decode cL_law 566 = .ok (.iaload, 1) := by decide +kernel
theorem dL_law_567 : decode cL_law 567 = .ok (.invokevirtual 91, 3) := by decide +kernel
theorem dL_law_570 : decode cL_law 570 = .ok (.if_icmp .eq 18, 3) := by decide +kernel
theorem dL_law_573 : decode cL_law 573 = .ok (.iconst 0, 1) := by decide +kernel
theorem dL_law_574 : decode cL_law 574 = .ok (.ireturn, 1) := by decide +kernel
theorem dL_law_575 : decode cL_law 575 = .ok (.aload_n 1, 1) := by decide +kernel
theorem dL_law_576 : decode cL_law 576 = .ok (.invokevirtual 92, 3) := by decide +kernel
theorem dL_law_579 : decode cL_law 579 = .ok (.aload_n 2, 1) := by decide +kernel
theorem dL_law_580 : decode cL_law 580 = .ok (.invokevirtual 95, 3) := by decide +kernel
theorem dL_law_583 : decode cL_law 583 = .ok (.if_icmp .eq 5, 3) := by decide +kernel
theorem dL_law_586 : decode cL_law 586 = .ok (.iconst 0, 1) := by decide +kernel
theorem dL_law_587 : decode cL_law 587 = .ok (.ireturn, 1) := by decide +kernel
theorem dL_law_588 : decode cL_law 588 = .ok (.iinc 3 3, 3) := by decide +kernel
theorem dL_law_591 : decode cL_law 591 = .ok (.goto (-573), 3) := by decide +kernel
theorem dL_law_594 : decode cL_law 594 = .ok (.iconst 1, 1) := by decide +kernel
theorem dL_law_595 : decode cL_law 595 = .ok (.ireturn, 1) := by decide +kernel
