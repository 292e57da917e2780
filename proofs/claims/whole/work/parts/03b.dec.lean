theorem dX3_readGoing_2 : decode cX3_readGoing 2 = .ok (.invokevirtual 106, 3) := by decide +kernel
theorem dX3_readGoing_5 : decode cX3_readGoing 5 = .ok (.istore_n 2, 1) := by decide +kernel
theorem dX3_readGoing_6 : decode cX3_readGoing 6 = .ok (.aload_n 1, 1) := by decide +kernel
theorem dX3_readGoing_7 : decode cX3_readGoing 7 = .ok (.getfield 109, 3) := by decide +kernel
theorem dX3_readGoing_10 : decode cX3_readGoing 10 = .ok (.iconst 2, 1) := by decide +kernel
theorem dX3_readGoing_11 : decode cX3_readGoing 11 = .ok (.iload_n 2, 1) := by decide +kernel
theorem dX3_readGoing_12 : decode cX3_readGoing 12 = .ok (.imul, 1) := by decide +kernel
theorem dX3_readGoing_13 : decode cX3_readGoing 13 = .ok (.aload_n 0, 1) := by decide +kernel
theorem dX3_readGoing_14 : decode cX3_readGoing 14 = .ok (.iconst 2, 1) := by decide +kernel
theorem dX3_readGoing_15 : decode cX3_readGoing 15 = .ok (.bipush 8, 2) := by decide +kernel
theorem dX3_readGoing_17 : decode cX3_readGoing 17 = .ok (.invokevirtual 81, 3) := by decide +kernel
theorem dX3_readGoing_20 : decode cX3_readGoing 20 = .ok (.iastore, 1) := by decide +kernel
theorem dX3_readGoing_21 : decode cX3_readGoing 21 = .ok (.return_, 1) := by decide +kernel
theorem dX3_readChoice_0 : decode cX3_readChoice 0 = .ok (.aload_n 1, 1) := by decide +kernel
theorem dX3_readChoice_1 : decode cX3_readChoice 1 = .ok (.iconst 1, 1) := by decide +kernel
theorem dX3_readChoice_2 : decode cX3_readChoice 2 = .ok (.invokevirtual 106, 3) := by decide +kernel
theorem dX3_readChoice_5 : decode cX3_readChoice 5 = .ok (.istore_n 2, 1) := by decide +kernel
theorem dX3_readChoice_6 : decode cX3_readChoice 6 = .ok (.aload_n 1, 1) := by decide +kernel
theorem dX3_readChoice_7 : decode cX3_readChoice 7 = .ok (.getfield 112, 3) := by decide +kernel
theorem dX3_readChoice_10 : decode cX3_readChoice 10 = .ok (.iload_n 2, 1) := by decide +kernel
theorem dX3_readChoice_11 : decode cX3_readChoice 11 = .ok (.aload_n 0, 1) := by decide +kernel
theorem dX3_readChoice_12 : decode cX3_readChoice 12 = .ok (.iconst 2, 1) := by decide +kernel
theorem dX3_readChoice_13 : decode cX3_readChoice 13 = .ok (.bipush 24, 2) := by decide +kernel
theorem dX3_readChoice_15 : decode cX3_readChoice 15 = .ok (.invokevirtual 81, 3) := by decide +kernel
theorem dX3_readChoice_18 : decode cX3_readChoice 18 = .ok (.iastore, 1) := by decide +kernel
theorem dX3_readChoice_19 : decode cX3_readChoice 19 = .ok (.aload_n 0, 1) := by decide +kernel
theorem dX3_readChoice_20 : decode cX3_readChoice 20 = .ok (.iconst 2, 1) := by decide +kernel
theorem dX3_readChoice_21 : decode cX3_readChoice 21 = .ok (.bipush 8, 2) := by decide +kernel
theorem dX3_readChoice_23 : decode cX3_readChoice 23 = .ok (.invokevirtual 81, 3) := by decide +kernel
theorem dX3_readChoice_26 : decode cX3_readChoice 26 = .ok (.istore_n 3, 1) := by decide +kernel
theorem dX3_readChoice_27 : decode cX3_readChoice 27 = .ok (.aload_n 0, 1) := by decide +kernel
theorem dX3_readChoice_28 : decode cX3_readChoice 28 = .ok (.getfield 43, 3) := by decide +kernel
theorem dX3_readChoice_31 : decode cX3_readChoice 31 = .ok (.iconst 2, 1) := by decide +kernel
theorem dX3_readChoice_32 : decode cX3_readChoice 32 = .ok (.if_icmp .ne 16, 3) := by decide +kernel
theorem dX3_readChoice_35 : decode cX3_readChoice 35 = .ok (.aload_n 0, 1) := by decide +kernel
theorem dX3_readChoice_36 : decode cX3_readChoice 36 = .ok (.getfield 46, 3) := by decide +kernel
theorem dX3_readChoice_39 : decode cX3_readChoice 39 = .ok (.iload_n 3, 1) := by decide +kernel
theorem dX3_readChoice_40 : decode cX3_readChoice 40 = .ok (.if_icmp .ne 8, 3) := by decide +kernel
theorem dX3_readChoice_43 : decode cX3_readChoice 43 = .ok (.aload_n 0, 1) := by decide +kernel
theorem dX3_readChoice_44 : decode cX3_readChoice 44 = .ok (.iconst 1, 1) := by decide +kernel
theorem dX3_readChoice_45 : decode cX3_readChoice 45 = .ok (.putfield 29, 3) := by decide +kernel
theorem dX3_readChoice_48 : decode cX3_readChoice 48 = .ok (.aload_n 1, 1) := by decide +kernel
theorem dX3_readChoice_49 : decode cX3_readChoice 49 = .ok (.getfield 109, 3) := by decide +kernel
theorem dX3_readChoice_52 : decode cX3_readChoice 52 = .ok (.iconst 2, 1) := by decide +kernel
theorem dX3_readChoice_53 : decode cX3_readChoice 53 = .ok (.iload_n 2, 1) := by decide +kernel
theorem dX3_readChoice_54 : decode cX3_readChoice 54 = .ok (.imul, 1) := by decide +kernel
theorem dX3_readChoice_55 : decode cX3_readChoice 55 = .ok (.iload_n 3, 1) := by decide +kernel
theorem dX3_readChoice_56 : decode cX3_readChoice 56 = .ok (.iastore, 1) := by decide +kernel
theorem dX3_readChoice_57 : decode cX3_readChoice 57 = .ok (.aload_n 1, 1) := by decide +kernel
theorem dX3_readChoice_58 : decode cX3_readChoice 58 = .ok (.getfield 109, 3) := by decide +kernel
theorem dX3_readChoice_61 : decode cX3_readChoice 61 = .ok (.iconst 2, 1) := by decide +kernel
theorem dX3_readChoice_62 : decode cX3_readChoice 62 = .ok (.iload_n 2, 1) := by decide +kernel
theorem dX3_readChoice_63 : decode cX3_readChoice 63 = .ok (.imul, 1) := by decide +kernel
theorem dX3_readChoice_64 : decode cX3_readChoice 64 = .ok (.iconst 1, 1) := by decide +kernel
theorem dX3_readChoice_65 : decode cX3_readChoice 65 = .ok (.iadd, 1) := by decide +kernel
theorem dX3_readChoice_66 : decode cX3_readChoice 66 = .ok (.aload_n 0, 1) := by decide +kernel
theorem dX3_readChoice_67 : decode cX3_readChoice 67 = .ok (.iconst 2, 1) := by decide +kernel
theorem dX3_readChoice_68 : decode cX3_readChoice 68 = .ok (.bipush 8, 2) := by decide +kernel
theorem dX3_readChoice_70 : decode cX3_readChoice 70 = .ok (.invokevirtual 81, 3) := by decide +kernel
theorem dX3_readChoice_73 : decode cX3_readChoice 73 = .ok (.iastore, 1) := by decide +kernel
theorem dX3_readChoice_74 : decode cX3_readChoice 74 = .ok (.return_, 1) := by decide +kernel
theorem dX3_readReturn_0 : decode cX3_readReturn 0 = .ok (.aload_n 1, 1) := by decide +kernel
theorem dX3_readReturn_1 : decode cX3_readReturn 1 = .ok (.iconst 2, 1) := by decide +kernel
theorem dX3_readReturn_2 : decode cX3_readReturn 2 = .ok (.invokevirtual 106, 3) := by decide +kernel
theorem dX3_readReturn_5 : decode cX3_readReturn 5 = .ok (.istore_n 2, 1) := by decide +kernel
theorem dX3_readReturn_6 : decode cX3_readReturn 6 = .ok (.aload_n 1, 1) := by decide +kernel
theorem dX3_readReturn_7 : decode cX3_readReturn 7 = .ok (.getfield 112, 3) := by decide +kernel
theorem dX3_readReturn_10 : decode cX3_readReturn 10 = .ok (.iload_n 2, 1) := by decide +kernel
theorem dX3_readReturn_11 : decode cX3_readReturn 11 = .ok (.aload_n 0, 1) := by decide +kernel
theorem dX3_readReturn_12 : decode cX3_readReturn 12 = .ok (.iconst 2, 1) := by decide +kernel
theorem dX3_readReturn_13 : decode cX3_readReturn 13 = .ok (.bipush 24, 2) := by decide +kernel
theorem dX3_readReturn_15 : decode cX3_readReturn 15 = .ok (.invokevirtual 81, 3) := by decide +kernel
theorem dX3_readReturn_18 : decode cX3_readReturn 18 = .ok (.iastore, 1) := by decide +kernel
theorem dX3_readReturn_19 : decode cX3_readReturn 19 = .ok (.return_, 1) := by decide +kernel
theorem dX4_init_0 : decode cX4_init 0 = .ok (.aload_n 0, 1) := by decide +kernel
theorem dX4_init_1 : decode cX4_init 1 = .ok (.invokespecial 3, 3) := by decide +kernel
theorem dX4_init_4 : decode cX4_init 4 = .ok (.aload_n 0, 1) := by decide +kernel
theorem dX4_init_5 : decode cX4_init 5 = .ok (.iconst 0, 1) := by decide +kernel
theorem dX4_init_6 : decode cX4_init 6 = .ok (.putfield 9, 3) := by decide +kernel
theorem dX4_init_9 : decode cX4_init 9 = .ok (.aload_n 0, 1) := by decide +kernel
theorem dX4_init_10 : decode cX4_init 10 = .ok (.iconst 0, 1) := by decide +kernel
theorem dX4_init_11 : decode cX4_init 11 = .ok (.putfield 15, 3) := by decide +kernel
theorem dX4_init_14 : decode cX4_init 14 = .ok (.aload_n 0, 1) := by decide +kernel
theorem dX4_init_15 : decode cX4_init 15 = .ok (.bipush 24, 2) := by decide +kernel
theorem dX4_init_17 : decode cX4_init 17 = .ok (.newarray .int, 2) := by decide +kernel
theorem dX4_init_19 : decode cX4_init 19 = .ok (.putfield 18, 3) := by decide +kernel
theorem dX4_init_22 : decode cX4_init 22 = .ok (.aload_n 0, 1) := by decide +kernel
theorem dX4_init_23 : decode cX4_init 23 = .ok (.bipush 24, 2) := by decide +kernel
theorem dX4_init_25 : decode cX4_init 25 = .ok (.newarray .int, 2) := by decide +kernel
theorem dX4_init_27 : decode cX4_init 27 = .ok (.putfield 22, 3) := by decide +kernel
theorem dX4_init_30 : decode cX4_init 30 = .ok (.aload_n 0, 1) := by decide +kernel
theorem dX4_init_31 : decode cX4_init 31 = .ok (.bipush 24, 2) := by decide +kernel
theorem dX4_init_33 : decode cX4_init 33 = .ok (.newarray .int, 2) := by decide +kernel
theorem dX4_init_35 : decode cX4_init 35 = .ok (.putfield 25, 3) := by decide +kernel
theorem dX4_init_38 : decode cX4_init 38 = .ok (.aload_n 0, 1) := by decide +kernel
theorem dX4_init_39 : decode cX4_init 39 = .ok (.bipush 24, 2) := by decide +kernel
theorem dX4_init_41 : decode cX4_init 41 = .ok (.newarray .int, 2) := by decide +kernel
theorem dX4_init_43 : decode cX4_init 43 = .ok (.putfield 28, 3) := by decide +kernel
theorem dX4_init_46 : decode cX4_init 46 = .ok (.aload_n 0, 1) := by decide +kernel
theorem dX4_init_47 : decode cX4_init 47 = .ok (.bipush 24, 2) := by decide +kernel
theorem dX4_init_49 : decode cX4_init 49 = .ok (.newarray .int, 2) := by decide +kernel
theorem dX4_init_51 : decode cX4_init 51 = .ok (.putfield 31, 3) := by decide +kernel
theorem dX4_init_54 : decode cX4_init 54 = .ok (.aload_n 0, 1) := by decide +kernel
theorem dX4_init_55 : decode cX4_init 55 = .ok (.bipush 24, 2) := by decide +kernel
theorem dX4_init_57 : decode cX4_init 57 = .ok (.newarray .int, 2) := by decide +kernel
theorem dX4_init_59 : decode cX4_init 59 = .ok (.putfield 34, 3) := by decide +kernel
theorem dX4_init_62 : decode cX4_init 62 = .ok (.aload_n 0, 1) := by decide +kernel
theorem dX4_init_63 : decode cX4_init 63 = .ok (.bipush 24, 2) := by decide +kernel
theorem dX4_init_65 : decode cX4_init 65 = .ok (.newarray .int, 2) := by decide +kernel
theorem dX4_init_67 : decode cX4_init 67 = .ok (.putfield 37, 3) := by decide +kernel
theorem dX4_init_70 : decode cX4_init 70 = .ok (.aload_n 0, 1) := by decide +kernel
theorem dX4_init_71 : decode cX4_init 71 = .ok (.bipush 72, 2) := by decide +kernel
theorem dX4_init_73 : decode cX4_init 73 = .ok (.newarray .int, 2) := by decide +kernel
theorem dX4_init_75 : decode cX4_init 75 = .ok (.putfield 40, 3) := by decide +kernel
theorem dX4_init_78 : decode cX4_init 78 = .ok (.aload_n 0, 1) := by decide +kernel
theorem dX4_init_79 : decode cX4_init 79 = .ok (.bipush 72, 2) := by decide +kernel
theorem dX4_init_81 : decode cX4_init 81 = .ok (.newarray .int, 2) := by decide +kernel
theorem dX4_init_83 : decode cX4_init 83 = .ok (.putfield 43, 3) := by decide +kernel
theorem dX4_init_86 : decode cX4_init 86 = .ok (.aload_n 0, 1) := by decide +kernel
theorem dX4_init_87 : decode cX4_init 87 = .ok (.bipush 8, 2) := by decide +kernel
theorem dX4_init_89 : decode cX4_init 89 = .ok (.newarray .int, 2) := by decide +kernel
theorem dX4_init_91 : decode cX4_init 91 = .ok (.putfield 46, 3) := by decide +kernel
theorem dX4_init_94 : decode cX4_init 94 = .ok (.aload_n 0, 1) := by decide +kernel
theorem dX4_init_95 : decode cX4_init 95 = .ok (.bipush 8, 2) := by decide +kernel
theorem dX4_init_97 : decode cX4_init 97 = .ok (.newarray .int, 2) := by decide +kernel
theorem dX4_init_99 : decode cX4_init 99 = .ok (.putfield 49, 3) := by decide +kernel
theorem dX4_init_102 : decode cX4_init 102 = .ok (.aload_n 0, 1) := by decide +kernel
theorem dX4_init_103 : decode cX4_init 103 = .ok (.bipush 8, 2) := by decide +kernel
theorem dX4_init_105 : decode cX4_init 105 = .ok (.newarray .int, 2) := by decide +kernel
theorem dX4_init_107 : decode cX4_init 107 = .ok (.putfield 52, 3) := by decide +kernel
theorem dX4_init_110 : decode cX4_init 110 = .ok (.aload_n 0, 1) := by decide +kernel
theorem dX4_init_111 : decode cX4_init 111 = .ok (.bipush 8, 2) := by decide +kernel
theorem dX4_init_113 : decode cX4_init 113 = .ok (.newarray .int, 2) := by decide +kernel
theorem dX4_init_115 : decode cX4_init 115 = .ok (.putfield 55, 3) := by decide +kernel
theorem dX4_init_118 : decode cX4_init 118 = .ok (.aload_n 0, 1) := by decide +kernel
theorem dX4_init_119 : decode cX4_init 119 = .ok (.bipush 16, 2) := by decide +kernel
theorem dX4_init_121 : decode cX4_init 121 = .ok (.newarray .int, 2) := by decide +kernel
theorem dX4_init_123 : decode cX4_init 123 = .ok (.putfield 58, 3) := by decide +kernel
theorem dX4_init_126 : decode cX4_init 126 = .ok (.aload_n 0, 1) := by decide +kernel
theorem dX4_init_127 : decode cX4_init 127 = .ok (.bipush 8, 2) := by decide +kernel
theorem dX4_init_129 : decode cX4_init 129 = .ok (.newarray .int, 2) := by decide +kernel
theorem dX4_init_131 : decode cX4_init 131 = .ok (.putfield 61, 3) := by decide +kernel
theorem dX4_init_134 : decode cX4_init 134 = .ok (.return_, 1) := by decide +kernel
theorem dX4_hasName_0 : decode cX4_hasName 0 = .ok (.iload_n 1, 1) := by decide +kernel
theorem dX4_hasName_1 : decode cX4_hasName 1 = .ok (.ifCond .lt 15, 3) := by decide +kernel
theorem dX4_hasName_4 : decode cX4_hasName 4 = .ok (.iload_n 1, 1) := by decide +kernel
theorem dX4_hasName_5 : decode cX4_hasName 5 = .ok (.aload_n 0, 1) := by decide +kernel
theorem dX4_hasName_6 : decode cX4_hasName 6 = .ok (.getfield 15, 3) := by decide +kernel
theorem dX4_hasName_9 : decode cX4_hasName 9 = .ok (.if_icmp .ge 7, 3) := by decide +kernel
theorem dX4_hasName_12 : decode cX4_hasName 12 = .ok (.iconst 1, 1) := by decide +kernel
theorem dX4_hasName_13 : decode cX4_hasName 13 = .ok (.goto 4, 3) := by decide +kernel
theorem dX4_hasName_16 : decode cX4_hasName 16 = .ok (.iconst 0, 1) := by decide +kernel
theorem dX4_hasName_17 : decode cX4_hasName 17 = .ok (.ireturn, 1) := by decide +kernel
theorem dX4_hasBlock_0 : decode cX4_hasBlock 0 = .ok (.iload_n 1, 1) := by decide +kernel
theorem dX4_hasBlock_1 : decode cX4_hasBlock 1 = .ok (.ifCond .lt 15, 3) := by decide +kernel
theorem dX4_hasBlock_4 : decode cX4_hasBlock 4 = .ok (.iload_n 1, 1) := by decide +kernel
theorem dX4_hasBlock_5 : decode cX4_hasBlock 5 = .ok (.aload_n 0, 1) := by decide +kernel
theorem dX4_hasBlock_6 : decode cX4_hasBlock 6 = .ok (.getfield 9, 3) := by decide +kernel
theorem dX4_hasBlock_9 : decode cX4_hasBlock 9 = .ok (.if_icmp .ge 7, 3) := by decide +kernel
theorem dX4_hasBlock_12 : decode cX4_hasBlock 12 = .ok (.iconst 1, 1) := by decide +kernel
theorem dX4_hasBlock_13 : decode cX4_hasBlock 13 = .ok (.goto 4, 3) := by decide +kernel
theorem dX4_hasBlock_16 : decode cX4_hasBlock 16 = .ok (.iconst 0, 1) := by decide +kernel
theorem dX4_hasBlock_17 : decode cX4_hasBlock 17 = .ok (.ireturn, 1) := by decide +kernel
theorem dX4_isMade_0 : decode cX4_isMade 0 = .ok (.aload_n 0, 1) := by decide +kernel
theorem dX4_isMade_1 : decode cX4_isMade 1 = .ok (.iload_n 1, 1) := by decide +kernel
theorem dX4_isMade_2 : decode cX4_isMade 2 = .ok (.invokevirtual 64, 3) := by decide +kernel
theorem dX4_isMade_5 : decode cX4_isMade 5 = .ok (.ifCond .eq 17, 3) := by decide +kernel
theorem dX4_isMade_8 : decode cX4_isMade 8 = .ok (.aload_n 0, 1) := by decide +kernel
theorem dX4_isMade_9 : decode cX4_isMade 9 = .ok (.getfield 22, 3) := by decide +kernel
theorem dX4_isMade_12 : decode cX4_isMade 12 = .ok (.iload_n 1, 1) := by decide +kernel
theorem dX4_isMade_13 : decode cX4_isMade 13 = .ok (.iaload, 1) := by decide +kernel
theorem dX4_isMade_14 : decode cX4_isMade 14 = .ok (.iload_n 2, 1) := by decide +kernel
theorem dX4_isMade_15 : decode cX4_isMade 15 = .ok (.if_icmp .ne 7, 3) := by decide +kernel
theorem dX4_isMade_18 : decode cX4_isMade 18 = .ok (.iconst 1, 1) := by decide +kernel
theorem dX4_isMade_19 : decode cX4_isMade 19 = .ok (.goto 4, 3) := by decide +kernel
theorem dX4_isMade_22 : decode cX4_isMade 22 = .ok (.iconst 0, 1) := by decide +kernel
theorem dX4_isMade_23 : decode cX4_isMade 23 = .ok (.ireturn, 1) := by decide +kernel
theorem dX4_edges_0 : decode cX4_edges 0 = .ok (.iconst 0, 1) := by decide +kernel
theorem dX4_edges_1 : decode cX4_edges 1 = .ok (.istore_n 1, 1) := by decide +kernel
theorem dX4_edges_2 : decode cX4_edges 2 = .ok (.iconst 0, 1) := by decide +kernel
theorem dX4_edges_3 : decode cX4_edges 3 = .ok (.istore_n 2, 1) := by decide +kernel
theorem dX4_edges_4 : decode cX4_edges 4 = .ok (.iload_n 2, 1) := by decide +kernel
theorem dX4_edges_5 : decode cX4_edges 5 = .ok (.iconst 2, 1) := by decide +kernel
theorem dX4_edges_6 : decode cX4_edges 6 = .ok (.aload_n 0, 1) := by decide +kernel
theorem dX4_edges_7 : decode cX4_edges 7 = .ok (.getfield 9, 3) := by decide +kernel
theorem dX4_edges_10 : decode cX4_edges 10 = .ok (.imul, 1) := by decide +kernel
theorem dX4_edges_11 : decode cX4_edges 11 = .ok (.if_icmp .ge 28, 3) := by decide +kernel
theorem dX4_edges_14 : decode cX4_edges 14 = .ok (.iload_n 1, 1) := by decide +kernel
theorem dX4_edges_15 : decode cX4_edges 15 = .ok (.aload_n 0, 1) := by decide +kernel
theorem dX4_edges_16 : decode cX4_edges 16 = .ok (.getfield 58, 3) := by decide +kernel
theorem dX4_edges_19 : decode cX4_edges 19 = .ok (.iload_n 2, 1) := by decide +kernel
theorem dX4_edges_20 : decode cX4_edges 20 = .ok (.iaload, 1) := by decide +kernel
theorem dX4_edges_21 : decode cX4_edges 21 = .ok (.bipush (-9), 2) := by decide +kernel
theorem dX4_edges_23 : decode cX4_edges 23 = .ok (.if_icmp .ne 7, 3) := by decide +kernel
theorem dX4_edges_26 : decode cX4_edges 26 = .ok (.iconst 0, 1) := by decide +kernel
theorem dX4_edges_27 : decode cX4_edges 27 = .ok (.goto 4, 3) := by decide +kernel
theorem dX4_edges_30 : decode cX4_edges 30 = .ok (.iconst 1, 1) := by decide +kernel
theorem dX4_edges_31 : decode cX4_edges 31 = .ok (.iadd, 1) := by decide +kernel
theorem dX4_edges_32 : decode cX4_edges 32 = .ok (.istore_n 1, 1) := by decide +kernel
theorem dX4_edges_33 : decode cX4_edges 33 = .ok (.iinc 2 1, 3) := by decide +kernel
theorem dX4_edges_36 : decode cX4_edges 36 = .ok (.goto (-32), 3) := by decide +kernel
theorem dX4_edges_39 : decode cX4_edges 39 = .ok (.iload_n 1, 1) := by decide +kernel
theorem dX4_edges_40 : decode cX4_edges 40 = .ok (.ireturn, 1) := by decide +kernel
theorem dX4_empty_0 : decode cX4_empty 0 = .ok (.aload_n 0, 1) := by decide +kernel
theorem dX4_empty_1 : decode cX4_empty 1 = .ok (.iconst 0, 1) := by decide +kernel
theorem dX4_empty_2 : decode cX4_empty 2 = .ok (.putfield 9, 3) := by decide +kernel
theorem dX4_empty_5 : decode cX4_empty 5 = .ok (.aload_n 0, 1) := by decide +kernel
theorem dX4_empty_6 : decode cX4_empty 6 = .ok (.iconst 0, 1) := by decide +kernel
theorem dX4_empty_7 : decode cX4_empty 7 = .ok (.putfield 15, 3) := by decide +kernel
theorem dX4_empty_10 : decode cX4_empty 10 = .ok (.return_, 1) := by decide +kernel
theorem dX4_admits_0 : decode cX4_admits 0 = .ok (.aload_n 0, 1) := by decide +kernel
theorem dX4_admits_1 : decode cX4_admits 1 = .ok (.getfield 9, 3) := by decide +kernel
theorem dX4_admits_4 : decode cX4_admits 4 = .ok (.ifCond .le 22, 3) := by decide +kernel
theorem dX4_admits_7 : decode cX4_admits 7 = .ok (.aload_n 0, 1) := by decide +kernel
theorem dX4_admits_8 : decode cX4_admits 8 = .ok (.getfield 52, 3) := by decide +kernel
theorem dX4_admits_11 : decode cX4_admits 11 = .ok (.aload_n 0, 1) := by decide +kernel
theorem dX4_admits_12 : decode cX4_admits 12 = .ok (.getfield 9, 3) := by decide +kernel
theorem dX4_admits_15 : decode cX4_admits 15 = .ok (.iconst 1, 1) := by decide +kernel
theorem dX4_admits_16 : decode cX4_admits 16 = .ok (.isub, 1) := by decide +kernel
theorem dX4_admits_17 : decode cX4_admits 17 = .ok (.iaload, 1) := by decide +kernel
theorem dX4_admits_18 : decode cX4_admits 18 = .ok (.iconst (-1), 1) := by decide +kernel
theorem dX4_admits_19 : decode cX4_admits 19 = .ok (.if_icmp .ne 7, 3) := by decide +kernel
theorem dX4_admits_22 : decode cX4_admits 22 = .ok (.iconst 1, 1) := by decide +kernel
theorem dX4_admits_23 : decode cX4_admits 23 = .ok (.goto 4, 3) := by decide +kernel
theorem dX4_admits_26 : decode cX4_admits 26 = .ok (.iconst 0, 1) := by decide +kernel
theorem dX4_admits_27 : decode cX4_admits 27 = .ok (.istore_n 2, 1) := by decide +kernel
theorem dX4_admits_28 : decode cX4_admits 28 = .ok (.iload_n 1, 1) := by decide +kernel
theorem dX4_admits_29 : decode cX4_admits 29 = .ok (.tableswitch 181 98 122 #[115, 181, 181, 181, 181, 179, 181, 134, 153, 134, 181, 181, 181, 134, 181, 179, 181, 181, 181, 181, 181, 181, 181, 181, 179], 115) := by decide +kernel
theorem dX4_admits_144 : decode cX4_admits 144 = .ok (.iload_n 2, 1) := by decide +kernel
theorem dX4_admits_145 : decode cX4_admits 145 = .ok (.ifCond .ne 16, 3) := by decide +kernel
theorem dX4_admits_148 : decode cX4_admits 148 = .ok (.aload_n 0, 1) := by decide +kernel
theorem dX4_admits_149 : decode cX4_admits 149 = .ok (.getfield 9, 3) := by decide +kernel
theorem dX4_admits_152 : decode cX4_admits 152 = .ok (.bipush 8, 2) := by decide +kernel
theorem dX4_admits_154 : decode cX4_admits 154 = .ok (.if_icmp .ge 7, 3) := by decide +kernel
theorem dX4_admits_157 : decode cX4_admits 157 = .ok (.iconst 1, 1) := by decide +kernel
theorem dX4_admits_158 : decode cX4_admits 158 = .ok (.goto 4, 3) := by decide +kernel
theorem dX4_admits_161 : decode cX4_admits 161 = .ok (.iconst 0, 1) := by decide +kernel
theorem dX4_admits_162 : decode cX4_admits 162 = .ok (.ireturn, 1) := by decide +kernel
theorem dX4_admits_163 : decode cX4_admits 163 = .ok (.iload_n 2, 1) := by decide +kernel
theorem dX4_admits_164 : decode cX4_admits 164 = .ok (.ifCond .eq 16, 3) := by decide +kernel
theorem dX4_admits_167 : decode cX4_admits 167 = .ok (.aload_n 0, 1) := by decide +kernel
theorem dX4_admits_168 : decode cX4_admits 168 = .ok (.getfield 15, 3) := by decide +kernel
theorem dX4_admits_171 : decode cX4_admits 171 = .ok (.bipush 24, 2) := by decide +kernel
theorem dX4_admits_173 : decode cX4_admits 173 = .ok (.if_icmp .ge 7, 3) := by decide +kernel
theorem dX4_admits_176 : decode cX4_admits 176 = .ok (.iconst 1, 1) := by decide +kernel
theorem dX4_admits_177 : decode cX4_admits 177 = .ok (.goto 4, 3) := by decide +kernel
theorem dX4_admits_180 : decode cX4_admits 180 = .ok (.iconst 0, 1) := by decide +kernel
theorem dX4_admits_181 : decode cX4_admits 181 = .ok (.ireturn, 1) := by decide +kernel
theorem dX4_admits_182 : decode cX4_admits 182 = .ok (.iload_n 2, 1) := by decide +kernel
theorem dX4_admits_183 : decode cX4_admits 183 = .ok (.ifCond .eq 23, 3) := by decide +kernel
theorem dX4_admits_186 : decode cX4_admits 186 = .ok (.aload_n 0, 1) := by decide +kernel
theorem dX4_admits_187 : decode cX4_admits 187 = .ok (.getfield 15, 3) := by decide +kernel
theorem dX4_admits_190 : decode cX4_admits 190 = .ok (.bipush 24, 2) := by decide +kernel
theorem dX4_admits_192 : decode cX4_admits 192 = .ok (.if_icmp .ge 14, 3) := by decide +kernel
theorem dX4_admits_195 : decode cX4_admits 195 = .ok (.aload_n 0, 1) := by decide +kernel
theorem dX4_admits_196 : decode cX4_admits 196 = .ok (.invokevirtual 68, 3) := by decide +kernel
theorem dX4_admits_199 : decode cX4_admits 199 = .ok (.ifCond .eq 7, 3) := by decide +kernel
theorem dX4_admits_202 : decode cX4_admits 202 = .ok (.iconst 1, 1) := by decide +kernel
theorem dX4_admits_203 : decode cX4_admits 203 = .ok (.goto 4, 3) := by decide +kernel
theorem dX4_admits_206 : decode cX4_admits 206 = .ok (.iconst 0, 1) := by decide +kernel
theorem dX4_admits_207 : decode cX4_admits 207 = .ok (.ireturn, 1) := by decide +kernel
theorem dX4_admits_208 : decode cX4_admits 208 = .ok (.iload_n 2, 1) := by decide +kernel
theorem dX4_admits_209 : decode cX4_admits 209 = .ok (.ireturn, 1) := by decide +kernel
theorem dX4_admits_210 : decode cX4_admits 210 = .ok (.iconst 0, 1) := by decide +kernel
theorem dX4_admits_211 : decode cX4_admits 211 = .ok (.ireturn, 1) := by decide +kernel
theorem dX4_admitsJoin_0 : decode cX4_admitsJoin 0 = .ok (.aload_n 0, 1) := by decide +kernel
theorem dX4_admitsJoin_1 : decode cX4_admitsJoin 1 = .ok (.getfield 9, 3) := by decide +kernel
theorem dX4_admitsJoin_4 : decode cX4_admitsJoin 4 = .ok (.iconst 1, 1) := by decide +kernel
theorem dX4_admitsJoin_5 : decode cX4_admitsJoin 5 = .ok (.if_icmp .le 35, 3) := by decide +kernel
theorem dX4_admitsJoin_8 : decode cX4_admitsJoin 8 = .ok (.aload_n 0, 1) := by decide +kernel
theorem dX4_admitsJoin_9 : decode cX4_admitsJoin 9 = .ok (.getfield 49, 3) := by decide +kernel
theorem dX4_admitsJoin_12 : decode cX4_admitsJoin 12 = .ok (.aload_n 0, 1) := by decide +kernel
theorem dX4_admitsJoin_13 : decode cX4_admitsJoin 13 = .ok (.getfield 9, 3) := by decide +kernel
theorem dX4_admitsJoin_16 : decode cX4_admitsJoin 16 = .ok (.iconst 1, 1) := by decide +kernel
theorem dX4_admitsJoin_17 : decode cX4_admitsJoin 17 = .ok (.isub, 1) := by decide +kernel
theorem dX4_admitsJoin_18 : decode cX4_admitsJoin 18 = .ok (.iaload, 1) := by decide +kernel
theorem dX4_admitsJoin_19 : decode cX4_admitsJoin 19 = .ok (.ifCond .eq 17, 3) := by decide +kernel
theorem dX4_admitsJoin_22 : decode cX4_admitsJoin 22 = .ok (.aload_n 0, 1) := by decide +kernel
theorem dX4_admitsJoin_23 : decode cX4_admitsJoin 23 = .ok (.aload_n 0, 1) := by decide +kernel
theorem dX4_admitsJoin_24 : decode cX4_admitsJoin 24 = .ok (.getfield 15, 3) := by decide +kernel
theorem dX4_admitsJoin_27 : decode cX4_admitsJoin 27 = .ok (.iconst 1, 1) := by decide +kernel
theorem dX4_admitsJoin_28 : decode cX4_admitsJoin 28 = .ok (.isub, 1) := by decide +kernel
theorem dX4_admitsJoin_29 : decode cX4_admitsJoin 29 = .ok (.iconst 3, 1) := by decide +kernel
theorem dX4_admitsJoin_30 : decode cX4_admitsJoin 30 = .ok (.invokevirtual 72, 3) := by decide +kernel
theorem dX4_admitsJoin_33 : decode cX4_admitsJoin 33 = .ok (.ifCond .eq 7, 3) := by decide +kernel
theorem dX4_admitsJoin_36 : decode cX4_admitsJoin 36 = .ok (.iconst 1, 1) := by decide +kernel
theorem dX4_admitsJoin_37 : decode cX4_admitsJoin 37 = .ok (.goto 4, 3) := by decide +kernel
theorem dX4_admitsJoin_40 : decode cX4_admitsJoin 40 = .ok (.iconst 0, 1) := by decide +kernel
theorem dX4_admitsJoin_41 : decode cX4_admitsJoin 41 = .ok (.ireturn, 1) := by decide +kernel
theorem dX4_beginBlock_0 : decode cX4_beginBlock 0 = .ok (.aload_n 0, 1) := by decide +kernel
theorem dX4_beginBlock_1 : decode cX4_beginBlock 1 = .ok (.getfield 9, 3) := by decide +kernel
theorem dX4_beginBlock_4 : decode cX4_beginBlock 4 = .ok (.istore_n 1, 1) := by decide +kernel
theorem dX4_beginBlock_5 : decode cX4_beginBlock 5 = .ok (.aload_n 0, 1) := by decide +kernel
theorem dX4_beginBlock_6 : decode cX4_beginBlock 6 = .ok (.getfield 46, 3) := by decide +kernel
theorem dX4_beginBlock_9 : decode cX4_beginBlock 9 = .ok (.iload_n 1, 1) := by decide +kernel
theorem dX4_beginBlock_10 : decode cX4_beginBlock 10 = .ok (.aload_n 0, 1) := by decide +kernel
theorem dX4_beginBlock_11 : decode cX4_beginBlock 11 = .ok (.getfield 15, 3) := by decide +kernel
theorem dX4_beginBlock_14 : decode cX4_beginBlock 14 = .ok (.iastore, 1) := by decide +kernel
theorem dX4_beginBlock_15 : decode cX4_beginBlock 15 = .ok (.aload_n 0, 1) := by decide +kernel
theorem dX4_beginBlock_16 : decode cX4_beginBlock 16 = .ok (.getfield 49, 3) := by decide +kernel
theorem dX4_beginBlock_19 : decode cX4_beginBlock 19 = .ok (.iload_n 1, 1) := by decide +kernel
theorem dX4_beginBlock_20 : decode cX4_beginBlock 20 = .ok (.iconst 0, 1) := by decide +kernel
theorem dX4_beginBlock_21 : decode cX4_beginBlock 21 = .ok (.iastore, 1) := by decide +kernel
theorem dX4_beginBlock_22 : decode cX4_beginBlock 22 = .ok (.aload_n 0, 1) := by decide +kernel
theorem dX4_beginBlock_23 : decode cX4_beginBlock 23 = .ok (.getfield 52, 3) := by decide +kernel
theorem dX4_beginBlock_26 : decode cX4_beginBlock 26 = .ok (.iload_n 1, 1) := by decide +kernel
theorem dX4_beginBlock_27 : decode cX4_beginBlock 27 = .ok (.iconst (-1), 1) := by decide +kernel
theorem dX4_beginBlock_28 : decode cX4_beginBlock 28 = .ok (.iastore, 1) := by decide +kernel
theorem dX4_beginBlock_29 : decode cX4_beginBlock 29 = .ok (.aload_n 0, 1) := by decide +kernel
theorem dX4_beginBlock_30 : decode cX4_beginBlock 30 = .ok (.getfield 55, 3) := by decide +kernel
theorem dX4_beginBlock_33 : decode cX4_beginBlock 33 = .ok (.iload_n 1, 1) := by decide +kernel
theorem dX4_beginBlock_34 : decode cX4_beginBlock 34 = .ok (.bipush (-9), 2) := by decide +kernel
theorem dX4_beginBlock_36 : decode cX4_beginBlock 36 = .ok (.iastore, 1) := by decide +kernel
theorem dX4_beginBlock_37 : decode cX4_beginBlock 37 = .ok (.aload_n 0, 1) := by decide +kernel
theorem dX4_beginBlock_38 : decode cX4_beginBlock 38 = .ok (.getfield 58, 3) := by decide +kernel
theorem dX4_beginBlock_41 : decode cX4_beginBlock 41 = .ok (.iconst 2, 1) := by decide +kernel
theorem dX4_beginBlock_42 : decode cX4_beginBlock 42 = .ok (.iload_n 1, 1) := by decide +kernel
theorem dX4_beginBlock_43 : decode cX4_beginBlock 43 = .ok (.imul, 1) := by decide +kernel
theorem dX4_beginBlock_44 : decode cX4_beginBlock 44 = .ok (.bipush (-9), 2) := by decide +kernel
theorem dX4_beginBlock_46 : decode cX4_beginBlock 46 = .ok (.iastore, 1) := by decide +kernel
theorem dX4_beginBlock_47 : decode cX4_beginBlock 47 = .ok (.aload_n 0, 1) := by decide +kernel
theorem dX4_beginBlock_48 : decode cX4_beginBlock 48 = .ok (.getfield 58, 3) := by decide +kernel
theorem dX4_beginBlock_51 : decode cX4_beginBlock 51 = .ok (.iconst 2, 1) := by decide +kernel
theorem dX4_beginBlock_52 : decode cX4_beginBlock 52 = .ok (.iload_n 1, 1) := by decide +kernel
theorem dX4_beginBlock_53 : decode cX4_beginBlock 53 = .ok (.imul, 1) := by decide +kernel
theorem dX4_beginBlock_54 : decode cX4_beginBlock 54 = .ok (.iconst 1, 1) := by decide +kernel
theorem dX4_beginBlock_55 : decode cX4_beginBlock 55 = .ok (.iadd, 1) := by decide +kernel
theorem dX4_beginBlock_56 : decode cX4_beginBlock 56 = .ok (.bipush (-9), 2) := by decide +kernel
theorem dX4_beginBlock_58 : decode cX4_beginBlock 58 = .ok (.iastore, 1) := by decide +kernel
theorem dX4_beginBlock_59 : decode cX4_beginBlock 59 = .ok (.aload_n 0, 1) := by decide +kernel
theorem dX4_beginBlock_60 : decode cX4_beginBlock 60 = .ok (.dup, 1) := by decide +kernel
theorem dX4_beginBlock_61 : decode cX4_beginBlock 61 = .ok (.getfield 9, 3) := by decide +kernel
theorem dX4_beginBlock_64 : decode cX4_beginBlock 64 = .ok (.iconst 1, 1) := by decide +kernel
theorem dX4_beginBlock_65 : decode cX4_beginBlock 65 = .ok (.iadd, 1) := by decide +kernel
theorem dX4_beginBlock_66 : decode cX4_beginBlock 66 = .ok (.putfield 9, 3) := by decide +kernel
theorem dX4_beginBlock_69 : decode cX4_beginBlock 69 = .ok (.return_, 1) := by decide +kernel
theorem dX4_addName_0 : decode cX4_addName 0 = .ok (.aload_n 0, 1) := by decide +kernel
theorem dX4_addName_1 : decode cX4_addName 1 = .ok (.getfield 15, 3) := by decide +kernel
theorem dX4_addName_4 : decode cX4_addName 4 = .ok (.istore_n 2, 1) := by decide +kernel
theorem dX4_addName_5 : decode cX4_addName 5 = .ok (.aload_n 0, 1) := by decide +kernel
theorem dX4_addName_6 : decode cX4_addName 6 = .ok (.getfield 18, 3) := by decide +kernel
theorem dX4_addName_9 : decode cX4_addName 9 = .ok (.iload_n 2, 1) := by decide +kernel
theorem dX4_addName_10 : decode cX4_addName 10 = .ok (.aload_n 0, 1) := by decide +kernel
theorem dX4_addName_11 : decode cX4_addName 11 = .ok (.getfield 9, 3) := by decide +kernel
theorem dX4_addName_14 : decode cX4_addName 14 = .ok (.iconst 1, 1) := by decide +kernel
theorem dX4_addName_15 : decode cX4_addName 15 = .ok (.isub, 1) := by decide +kernel
theorem dX4_addName_16 : decode cX4_addName 16 = .ok (.iastore, 1) := by decide +kernel
theorem dX4_addName_17 : decode cX4_addName 17 = .ok (.aload_n 0, 1) := by decide +kernel
theorem dX4_addName_18 : decode cX4_addName 18 = .ok (.getfield 22, 3) := by decide +kernel
theorem dX4_addName_21 : decode cX4_addName 21 = .ok (.iload_n 2, 1) := by decide +kernel
theorem dX4_addName_22 : decode cX4_addName 22 = .ok (.iload_n 1, 1) := by decide +kernel
theorem dX4_addName_23 : decode cX4_addName 23 = .ok (.iastore, 1) := by decide +kernel
theorem dX4_addName_24 : decode cX4_addName 24 = .ok (.aload_n 0, 1) := by decide +kernel
theorem dX4_addName_25 : decode cX4_addName 25 = .ok (.getfield 25, 3) := by decide +kernel
theorem dX4_addName_28 : decode cX4_addName 28 = .ok (.iload_n 2, 1) := by decide +kernel
theorem dX4_addName_29 : decode cX4_addName 29 = .ok (.iconst 0, 1) := by decide +kernel
theorem dX4_addName_30 : decode cX4_addName 30 = .ok (.iastore, 1) := by decide +kernel
theorem dX4_addName_31 : decode cX4_addName 31 = .ok (.aload_n 0, 1) := by decide +kernel
theorem dX4_addName_32 : decode cX4_addName 32 = .ok (.getfield 28, 3) := by decide +kernel
theorem dX4_addName_35 : decode cX4_addName 35 = .ok (.iload_n 2, 1) := by decide +kernel
theorem dX4_addName_36 : decode cX4_addName 36 = .ok (.iconst 0, 1) := by decide +kernel
theorem dX4_addName_37 : decode cX4_addName 37 = .ok (.iastore, 1) := by decide +kernel
theorem dX4_addName_38 : decode cX4_addName 38 = .ok (.aload_n 0, 1) := by decide +kernel
theorem dX4_addName_39 : decode cX4_addName 39 = .ok (.getfield 31, 3) := by decide +kernel
theorem dX4_addName_42 : decode cX4_addName 42 = .ok (.iload_n 2, 1) := by decide +kernel
theorem dX4_addName_43 : decode cX4_addName 43 = .ok (.bipush (-9), 2) := by decide +kernel
theorem dX4_addName_45 : decode cX4_addName 45 = .ok (.iastore, 1) := by decide +kernel
theorem dX4_addName_46 : decode cX4_addName 46 = .ok (.aload_n 0, 1) := by decide +kernel
theorem dX4_addName_47 : decode cX4_addName 47 = .ok (.getfield 34, 3) := by decide +kernel
theorem dX4_addName_50 : decode cX4_addName 50 = .ok (.iload_n 2, 1) := by decide +kernel
theorem dX4_addName_51 : decode cX4_addName 51 = .ok (.bipush (-9), 2) := by decide +kernel
theorem dX4_addName_53 : decode cX4_addName 53 = .ok (.iastore, 1) := by decide +kernel
theorem dX4_addName_54 : decode cX4_addName 54 = .ok (.aload_n 0, 1) := by decide +kernel
theorem dX4_addName_55 : decode cX4_addName 55 = .ok (.getfield 37, 3) := by decide +kernel
theorem dX4_addName_58 : decode cX4_addName 58 = .ok (.iload_n 2, 1) := by decide +kernel
theorem dX4_addName_59 : decode cX4_addName 59 = .ok (.iconst 0, 1) := by decide +kernel
theorem dX4_addName_60 : decode cX4_addName 60 = .ok (.iastore, 1) := by decide +kernel
theorem dX4_addName_61 : decode cX4_addName 61 = .ok (.aload_n 0, 1) := by decide +kernel
theorem dX4_addName_62 : decode cX4_addName 62 = .ok (.dup, 1) := by decide +kernel
theorem dX4_addName_63 : decode cX4_addName 63 = .ok (.getfield 15, 3) := by decide +kernel
theorem dX4_addName_66 : decode cX4_addName 66 = .ok (.iconst 1, 1) := by decide +kernel
theorem dX4_addName_67 : decode cX4_addName 67 = .ok (.iadd, 1) := by decide +kernel
theorem dX4_addName_68 : decode cX4_addName 68 = .ok (.putfield 15, 3) := by decide +kernel
theorem dX4_addName_71 : decode cX4_addName 71 = .ok (.aload_n 0, 1) := by decide +kernel
theorem dX4_addName_72 : decode cX4_addName 72 = .ok (.getfield 49, 3) := by decide +kernel
theorem dX4_addName_75 : decode cX4_addName 75 = .ok (.aload_n 0, 1) := by decide +kernel
theorem dX4_addName_76 : decode cX4_addName 76 = .ok (.getfield 9, 3) := by decide +kernel
theorem dX4_addName_79 : decode cX4_addName 79 = .ok (.iconst 1, 1) := by decide +kernel
theorem dX4_addName_80 : decode cX4_addName 80 = .ok (.isub, 1) := by decide +kernel
theorem dX4_addName_81 : decode cX4_addName 81 = .ok (.dup2, 1) := by decide +kernel
theorem dX4_addName_82 : decode cX4_addName 82 = .ok (.iaload, 1) := by decide +kernel
theorem dX4_addName_83 : decode cX4_addName 83 = .ok (.iconst 1, 1) := by decide +kernel
theorem dX4_addName_84 : decode cX4_addName 84 = .ok (.iadd, 1) := by decide +kernel
theorem dX4_addName_85 : decode cX4_addName 85 = .ok (.iastore, 1) := by decide +kernel
theorem dX4_addName_86 : decode cX4_addName 86 = .ok (.iload_n 2, 1) := by decide +kernel
theorem dX4_addName_87 : decode cX4_addName 87 = .ok (.ireturn, 1) := by decide +kernel
theorem dX4_addArm_0 : decode cX4_addArm 0 = .ok (.iconst 3, 1) := by decide +kernel
theorem dX4_addArm_1 : decode cX4_addArm 1 = .ok (.iload_n 1, 1) := by decide +kernel
theorem dX4_addArm_2 : decode cX4_addArm 2 = .ok (.imul, 1) := by decide +kernel
theorem dX4_addArm_3 : decode cX4_addArm 3 = .ok (.aload_n 0, 1) := by decide +kernel
theorem dX4_addArm_4 : decode cX4_addArm 4 = .ok (.getfield 37, 3) := by decide +kernel
theorem dX4_addArm_7 : decode cX4_addArm 7 = .ok (.iload_n 1, 1) := by decide +kernel
theorem dX4_addArm_8 : decode cX4_addArm 8 = .ok (.iaload, 1) := by decide +kernel
theorem dX4_addArm_9 : decode cX4_addArm 9 = .ok (.iadd, 1) := by decide +kernel
theorem dX4_addArm_10 : decode cX4_addArm 10 = .ok (.istore 4, 2) := by decide +kernel
theorem dX4_addArm_12 : decode cX4_addArm 12 = .ok (.aload_n 0, 1) := by decide +kernel
theorem dX4_addArm_13 : decode cX4_addArm 13 = .ok (.getfield 40, 3) := by decide +kernel
theorem dX4_addArm_16 : decode cX4_addArm 16 = .ok (.iload 4, 2) := by decide +kernel
theorem dX4_addArm_18 : decode cX4_addArm 18 = .ok (.iload_n 2, 1) := by decide +kernel
theorem dX4_addArm_19 : decode cX4_addArm 19 = .ok (.iastore, 1) := by decide +kernel
theorem dX4_addArm_20 : decode cX4_addArm 20 = .ok (.aload_n 0, 1) := by decide +kernel
theorem dX4_addArm_21 : decode cX4_addArm 21 = .ok (.getfield 43, 3) := by decide +kernel
theorem dX4_addArm_24 : decode cX4_addArm 24 = .ok (.iload 4, 2) := by decide +kernel
theorem dX4_addArm_26 : decode cX4_addArm 26 = .ok (.iload_n 3, 1) := by decide +kernel
theorem dX4_addArm_27 : decode cX4_addArm 27 = .ok (.iastore, 1) := by decide +kernel
theorem dX4_addArm_28 : decode cX4_addArm 28 = .ok (.aload_n 0, 1) := by decide +kernel
theorem dX4_addArm_29 : decode cX4_addArm 29 = .ok (.getfield 37, 3) := by decide +kernel
theorem dX4_addArm_32 : decode cX4_addArm 32 = .ok (.iload_n 1, 1) := by decide +kernel
theorem dX4_addArm_33 : decode cX4_addArm 33 = .ok (.dup2, 1) := by decide +kernel
theorem dX4_addArm_34 : decode cX4_addArm 34 = .ok (.iaload, 1) := by decide +kernel
theorem dX4_addArm_35 : decode cX4_addArm 35 = .ok (.iconst 1, 1) := by decide +kernel
theorem dX4_addArm_36 : decode cX4_addArm 36 = .ok (.iadd, 1) := by decide +kernel
theorem dX4_addArm_37 : decode cX4_addArm 37 = .ok (.iastore, 1) := by decide +kernel
theorem dX4_addArm_38 : decode cX4_addArm 38 = .ok (.return_, 1) := by decide +kernel
theorem dX4_endBlock_0 : decode cX4_endBlock 0 = .ok (.aload_n 0, 1) := by decide +kernel
theorem dX4_endBlock_1 : decode cX4_endBlock 1 = .ok (.getfield 52, 3) := by decide +kernel
theorem dX4_endBlock_4 : decode cX4_endBlock 4 = .ok (.aload_n 0, 1) := by decide +kernel
theorem dX4_endBlock_5 : decode cX4_endBlock 5 = .ok (.getfield 9, 3) := by decide +kernel
theorem dX4_endBlock_8 : decode cX4_endBlock 8 = .ok (.iconst 1, 1) := by decide +kernel
theorem dX4_endBlock_9 : decode cX4_endBlock 9 = .ok (.isub, 1) := by decide +kernel
theorem dX4_endBlock_10 : decode cX4_endBlock 10 = .ok (.iload_n 1, 1) := by decide +kernel
theorem dX4_endBlock_11 : decode cX4_endBlock 11 = .ok (.iastore, 1) := by decide +kernel
theorem dX4_endBlock_12 : decode cX4_endBlock 12 = .ok (.aload_n 0, 1) := by decide +kernel
theorem dX4_endBlock_13 : decode cX4_endBlock 13 = .ok (.getfield 9, 3) := by decide +kernel
theorem dX4_endBlock_16 : decode cX4_endBlock 16 = .ok (.iconst 1, 1) := by decide +kernel
theorem dX4_endBlock_17 : decode cX4_endBlock 17 = .ok (.isub, 1) := by decide +kernel
theorem dX4_endBlock_18 : decode cX4_endBlock 18 = .ok (.ireturn, 1) := by decide +kernel
theorem dX4_armFrom_0 : decode cX4_armFrom 0 = .ok (.iconst 3, 1) := by decide +kernel
theorem dX4_armFrom_1 : decode cX4_armFrom 1 = .ok (.iload_n 1, 1) := by decide +kernel
theorem dX4_armFrom_2 : decode cX4_armFrom 2 = .ok (.imul, 1) := by decide +kernel
theorem dX4_armFrom_3 : decode cX4_armFrom 3 = .ok (.istore_n 3, 1) := by decide +kernel
theorem dX4_armFrom_4 : decode cX4_armFrom 4 = .ok (.iload_n 3, 1) := by decide +kernel
theorem dX4_armFrom_5 : decode cX4_armFrom 5 = .ok (.iconst 3, 1) := by decide +kernel
theorem dX4_armFrom_6 : decode cX4_armFrom 6 = .ok (.iload_n 1, 1) := by decide +kernel
theorem dX4_armFrom_7 : decode cX4_armFrom 7 = .ok (.imul, 1) := by decide +kernel
theorem dX4_armFrom_8 : decode cX4_armFrom 8 = .ok (.aload_n 0, 1) := by decide +kernel
theorem dX4_armFrom_9 : decode cX4_armFrom 9 = .ok (.getfield 37, 3) := by decide +kernel
theorem dX4_armFrom_12 : decode cX4_armFrom 12 = .ok (.iload_n 1, 1) := by decide +kernel
theorem dX4_armFrom_13 : decode cX4_armFrom 13 = .ok (.iaload, 1) := by decide +kernel
theorem dX4_armFrom_14 : decode cX4_armFrom 14 = .ok (.iadd, 1) := by decide +kernel
theorem dX4_armFrom_15 : decode cX4_armFrom 15 = .ok (.if_icmp .ge 21, 3) := by decide +kernel
theorem dX4_armFrom_18 : decode cX4_armFrom 18 = .ok (.aload_n 0, 1) := by decide +kernel
theorem dX4_armFrom_19 : decode cX4_armFrom 19 = .ok (.getfield 40, 3) := by decide +kernel
theorem dX4_armFrom_22 : decode cX4_armFrom 22 = .ok (.iload_n 3, 1) := by decide +kernel
theorem dX4_armFrom_23 : decode cX4_armFrom 23 = .ok (.iaload, 1) := by decide +kernel
theorem dX4_armFrom_24 : decode cX4_armFrom 24 = .ok (.iload_n 2, 1) := by decide +kernel
theorem dX4_armFrom_25 : decode cX4_armFrom 25 = .ok (.if_icmp .ne 5, 3) := by decide +kernel
theorem dX4_armFrom_28 : decode cX4_armFrom 28 = .ok (.iload_n 3, 1) := by decide +kernel
theorem dX4_armFrom_29 : decode cX4_armFrom 29 = .ok (.ireturn, 1) := by decide +kernel
theorem dX4_armFrom_30 : decode cX4_armFrom 30 = .ok (.iinc 3 1, 3) := by decide +kernel
theorem dX4_armFrom_33 : decode cX4_armFrom 33 = .ok (.goto (-29), 3) := by decide +kernel
theorem dX4_armFrom_36 : decode cX4_armFrom 36 = .ok (.bipush (-9), 2) := by decide +kernel
theorem dX4_armFrom_38 : decode cX4_armFrom 38 = .ok (.ireturn, 1) := by decide +kernel
theorem dX4_hasArm_0 : decode cX4_hasArm 0 = .ok (.aload_n 0, 1) := by decide +kernel
theorem dX4_hasArm_1 : decode cX4_hasArm 1 = .ok (.iload_n 1, 1) := by decide +kernel
theorem dX4_hasArm_2 : decode cX4_hasArm 2 = .ok (.iload_n 2, 1) := by decide +kernel
theorem dX4_hasArm_3 : decode cX4_hasArm 3 = .ok (.invokevirtual 76, 3) := by decide +kernel
theorem dX4_hasArm_6 : decode cX4_hasArm 6 = .ok (.bipush (-9), 2) := by decide +kernel
theorem dX4_hasArm_8 : decode cX4_hasArm 8 = .ok (.if_icmp .eq 7, 3) := by decide +kernel
theorem dX4_hasArm_11 : decode cX4_hasArm 11 = .ok (.iconst 1, 1) := by decide +kernel
theorem dX4_hasArm_12 : decode cX4_hasArm 12 = .ok (.goto 4, 3) := by decide +kernel
theorem dX4_hasArm_15 : decode cX4_hasArm 15 = .ok (.iconst 0, 1) := by decide +kernel
theorem dX4_hasArm_16 : decode cX4_hasArm 16 = .ok (.ireturn, 1) := by decide +kernel
theorem dX4_isWhole_0 : decode cX4_isWhole 0 = .ok (.aload_n 0, 1) := by decide +kernel
theorem dX4_isWhole_1 : decode cX4_isWhole 1 = .ok (.getfield 9, 3) := by decide +kernel
theorem dX4_isWhole_4 : decode cX4_isWhole 4 = .ok (.ifCond .le 22, 3) := by decide +kernel
theorem dX4_isWhole_7 : decode cX4_isWhole 7 = .ok (.aload_n 0, 1) := by decide +kernel
theorem dX4_isWhole_8 : decode cX4_isWhole 8 = .ok (.getfield 52, 3) := by decide +kernel
theorem dX4_isWhole_11 : decode cX4_isWhole 11 = .ok (.aload_n 0, 1) := by decide +kernel
theorem dX4_isWhole_12 : decode cX4_isWhole 12 = .ok (.getfield 9, 3) := by decide +kernel
theorem dX4_isWhole_15 : decode cX4_isWhole 15 = .ok (.iconst 1, 1) := by decide +kernel
theorem dX4_isWhole_16 : decode cX4_isWhole 16 = .ok (.isub, 1) := by decide +kernel
theorem dX4_isWhole_17 : decode cX4_isWhole 17 = .ok (.iaload, 1) := by decide +kernel
theorem dX4_isWhole_18 : decode cX4_isWhole 18 = .ok (.iconst (-1), 1) := by decide +kernel
theorem dX4_isWhole_19 : decode cX4_isWhole 19 = .ok (.if_icmp .eq 7, 3) := by decide +kernel
theorem dX4_isWhole_22 : decode cX4_isWhole 22 = .ok (.iconst 1, 1) := by decide +kernel
theorem dX4_isWhole_23 : decode cX4_isWhole 23 = .ok (.goto 4, 3) := by decide +kernel
theorem dX4_isWhole_26 : decode cX4_isWhole 26 = .ok (.iconst 0, 1) := by decide +kernel
theorem dX4_isWhole_27 : decode cX4_isWhole 27 = .ok (.ireturn, 1) := by decide +kernel
theorem dX4_isStrict_0 : decode cX4_isStrict 0 = .ok (.aload_n 0, 1) := by decide +kernel
theorem dX4_isStrict_1 : decode cX4_isStrict 1 = .ok (.invokevirtual 80, 3) := by decide +kernel
theorem dX4_isStrict_4 : decode cX4_isStrict 4 = .ok (.ifCond .eq 10, 3) := by decide +kernel
theorem dX4_isStrict_7 : decode cX4_isStrict 7 = .ok (.aload_n 0, 1) := by decide +kernel
theorem dX4_isStrict_8 : decode cX4_isStrict 8 = .ok (.invokevirtual 83, 3) := by decide +kernel
theorem dX4_isStrict_11 : decode cX4_isStrict 11 = .ok (.ifCond .ne 5, 3) := by decide +kernel
theorem dX4_isStrict_14 : decode cX4_isStrict 14 = .ok (.iconst 0, 1) := by decide +kernel
theorem dX4_isStrict_15 : decode cX4_isStrict 15 = .ok (.ireturn, 1) := by decide +kernel
theorem dX4_isStrict_16 : decode cX4_isStrict 16 = .ok (.aload_n 0, 1) := by decide +kernel
theorem dX4_isStrict_17 : decode cX4_isStrict 17 = .ok (.invokevirtual 86, 3) := by decide +kernel
theorem dX4_isStrict_20 : decode cX4_isStrict 20 = .ok (.iconst 0, 1) := by decide +kernel
theorem dX4_isStrict_21 : decode cX4_isStrict 21 = .ok (.istore_n 1, 1) := by decide +kernel
theorem dX4_isStrict_22 : decode cX4_isStrict 22 = .ok (.iload_n 1, 1) := by decide +kernel
theorem dX4_isStrict_23 : decode cX4_isStrict 23 = .ok (.aload_n 0, 1) := by decide +kernel
theorem dX4_isStrict_24 : decode cX4_isStrict 24 = .ok (.getfield 9, 3) := by decide +kernel
theorem dX4_isStrict_27 : decode cX4_isStrict 27 = .ok (.if_icmp .ge 41, 3) := by decide +kernel
theorem dX4_isStrict_30 : decode cX4_isStrict 30 = .ok (.aload_n 0, 1) := by decide +kernel
theorem dX4_isStrict_31 : decode cX4_isStrict 31 = .ok (.getfield 55, 3) := by decide +kernel
theorem dX4_isStrict_34 : decode cX4_isStrict 34 = .ok (.iload_n 1, 1) := by decide +kernel
theorem dX4_isStrict_35 : decode cX4_isStrict 35 = .ok (.iaload, 1) := by decide +kernel
theorem dX4_isStrict_36 : decode cX4_isStrict 36 = .ok (.bipush (-9), 2) := by decide +kernel
theorem dX4_isStrict_38 : decode cX4_isStrict 38 = .ok (.if_icmp .eq 24, 3) := by decide +kernel
theorem dX4_isStrict_41 : decode cX4_isStrict 41 = .ok (.aload_n 0, 1) := by decide +kernel
theorem dX4_isStrict_42 : decode cX4_isStrict 42 = .ok (.aload_n 0, 1) := by decide +kernel
theorem dX4_isStrict_43 : decode cX4_isStrict 43 = .ok (.getfield 18, 3) := by decide +kernel
theorem dX4_isStrict_46 : decode cX4_isStrict 46 = .ok (.aload_n 0, 1) := by decide +kernel
theorem dX4_isStrict_47 : decode cX4_isStrict 47 = .ok (.getfield 55, 3) := by decide +kernel
theorem dX4_isStrict_50 : decode cX4_isStrict 50 = .ok (.iload_n 1, 1) := by decide +kernel
theorem dX4_isStrict_51 : decode cX4_isStrict 51 = .ok (.iaload, 1) := by decide +kernel
theorem dX4_isStrict_52 : decode cX4_isStrict 52 = .ok (.iaload, 1) := by decide +kernel
theorem dX4_isStrict_53 : decode cX4_isStrict 53 = .ok (.iload_n 1, 1) := by decide +kernel
theorem dX4_isStrict_54 : decode cX4_isStrict 54 = .ok (.invokevirtual 89, 3) := by decide +kernel
theorem dX4_isStrict_57 : decode cX4_isStrict 57 = .ok (.ifCond .ne 5, 3) := by decide +kernel
theorem dX4_isStrict_60 : decode cX4_isStrict 60 = .ok (.iconst 0, 1) := by decide +kernel
theorem dX4_isStrict_61 : decode cX4_isStrict 61 = .ok (.ireturn, 1) := by decide +kernel
theorem dX4_isStrict_62 : decode cX4_isStrict 62 = .ok (.iinc 1 1, 3) := by decide +kernel
theorem dX4_isStrict_65 : decode cX4_isStrict 65 = .ok (.goto (-43), 3) := by decide +kernel
theorem dX4_isStrict_68 : decode cX4_isStrict 68 = .ok (.iconst 0, 1) := by decide +kernel
theorem dX4_isStrict_69 : decode cX4_isStrict 69 = .ok (.istore_n 1, 1) := by decide +kernel
theorem dX4_isStrict_70 : decode cX4_isStrict 70 = .ok (.iload_n 1, 1) := by decide +kernel
theorem dX4_isStrict_71 : decode cX4_isStrict 71 = .ok (.aload_n 0, 1) := by decide +kernel
theorem dX4_isStrict_72 : decode cX4_isStrict 72 = .ok (.getfield 15, 3) := by decide +kernel
theorem dX4_isStrict_75 : decode cX4_isStrict 75 = .ok (.if_icmp .ge 69, 3) := by decide +kernel
theorem dX4_isStrict_78 : decode cX4_isStrict 78 = .ok (.aload_n 0, 1) := by decide +kernel
theorem dX4_isStrict_79 : decode cX4_isStrict 79 = .ok (.getfield 22, 3) := by decide +kernel
theorem dX4_isStrict_82 : decode cX4_isStrict 82 = .ok (.iload_n 1, 1) := by decide +kernel
theorem dX4_isStrict_83 : decode cX4_isStrict 83 = .ok (.iaload, 1) := by decide +kernel
theorem dX4_isStrict_84 : decode cX4_isStrict 84 = .ok (.iconst 2, 1) := by decide +kernel
theorem dX4_isStrict_85 : decode cX4_isStrict 85 = .ok (.if_icmp .ne 33, 3) := by decide +kernel
theorem dX4_isStrict_88 : decode cX4_isStrict 88 = .ok (.aload_n 0, 1) := by decide +kernel
theorem dX4_isStrict_89 : decode cX4_isStrict 89 = .ok (.aload_n 0, 1) := by decide +kernel
theorem dX4_isStrict_90 : decode cX4_isStrict 90 = .ok (.getfield 31, 3) := by decide +kernel
theorem dX4_isStrict_93 : decode cX4_isStrict 93 = .ok (.iload_n 1, 1) := by decide +kernel
theorem dX4_isStrict_94 : decode cX4_isStrict 94 = .ok (.iaload, 1) := by decide +kernel
theorem dX4_isStrict_95 : decode cX4_isStrict 95 = .ok (.iload_n 1, 1) := by decide +kernel
theorem dX4_isStrict_96 : decode cX4_isStrict 96 = .ok (.invokevirtual 92, 3) := by decide +kernel
theorem dX4_isStrict_99 : decode cX4_isStrict 99 = .ok (.ifCond .eq 17, 3) := by decide +kernel
theorem dX4_isStrict_102 : decode cX4_isStrict 102 = .ok (.aload_n 0, 1) := by decide +kernel
theorem dX4_isStrict_103 : decode cX4_isStrict 103 = .ok (.aload_n 0, 1) := by decide +kernel
theorem dX4_isStrict_104 : decode cX4_isStrict 104 = .ok (.getfield 34, 3) := by decide +kernel
theorem dX4_isStrict_107 : decode cX4_isStrict 107 = .ok (.iload_n 1, 1) := by decide +kernel
theorem dX4_isStrict_108 : decode cX4_isStrict 108 = .ok (.iaload, 1) := by decide +kernel
theorem dX4_isStrict_109 : decode cX4_isStrict 109 = .ok (.iload_n 1, 1) := by decide +kernel
theorem dX4_isStrict_110 : decode cX4_isStrict 110 = .ok (.invokevirtual 92, 3) := by decide +kernel
theorem dX4_isStrict_113 : decode cX4_isStrict 113 = .ok (.ifCond .ne 5, 3) := by decide +kernel
theorem dX4_isStrict_116 : decode cX4_isStrict 116 = .ok (.iconst 0, 1) := by decide +kernel
theorem dX4_isStrict_117 : decode cX4_isStrict 117 = .ok (.ireturn, 1) := by decide +kernel
theorem dX4_isStrict_118 : decode cX4_isStrict 118 = .ok (.aload_n 0, 1) := by decide +kernel
theorem dX4_isStrict_119 : decode cX4_isStrict 119 = .ok (.getfield 22, 3) := by decide +kernel
theorem dX4_isStrict_122 : decode cX4_isStrict 122 = .ok (.iload_n 1, 1) := by decide +kernel
theorem dX4_isStrict_123 : decode cX4_isStrict 123 = .ok (.iaload, 1) := by decide +kernel
theorem dX4_isStrict_124 : decode cX4_isStrict 124 = .ok (.iconst 3, 1) := by decide +kernel
theorem dX4_isStrict_125 : decode cX4_isStrict 125 = .ok (.if_icmp .ne 13, 3) := by decide +kernel
theorem dX4_isStrict_128 : decode cX4_isStrict 128 = .ok (.aload_n 0, 1) := by decide +kernel
theorem dX4_isStrict_129 : decode cX4_isStrict 129 = .ok (.iload_n 1, 1) := by decide +kernel
theorem dX4_isStrict_130 : decode cX4_isStrict 130 = .ok (.invokevirtual 95, 3) := by decide +kernel
theorem dX4_isStrict_133 : decode cX4_isStrict 133 = .ok (.ifCond .ne 5, 3) := by decide +kernel
theorem dX4_isStrict_136 : decode cX4_isStrict 136 = .ok (.iconst 0, 1) := by decide +kernel
theorem dX4_isStrict_137 : decode cX4_isStrict 137 = .ok (.ireturn, 1) := by decide +kernel
theorem dX4_isStrict_138 : decode cX4_isStrict 138 = .ok (.iinc 1 1, 3) := by decide +kernel
theorem dX4_isStrict_141 : decode cX4_isStrict 141 = .ok (.goto (-71), 3) := by decide +kernel
theorem dX4_isStrict_144 : decode cX4_isStrict 144 = .ok (.iconst 1, 1) := by decide +kernel
theorem dX4_isStrict_145 : decode cX4_isStrict 145 = .ok (.ireturn, 1) := by decide +kernel
theorem dX4_endsTellOfWhatIsThere_0 : decode cX4_endsTellOfWhatIsThere 0 = .ok (.iconst 0, 1) := by decide +kernel
theorem dX4_endsTellOfWhatIsThere_1 : decode cX4_endsTellOfWhatIsThere 1 = .ok (.istore_n 1, 1) := by decide +kernel
theorem dX4_endsTellOfWhatIsThere_2 : decode cX4_endsTellOfWhatIsThere 2 = .ok (.iload_n 1, 1) := by decide +kernel
theorem dX4_endsTellOfWhatIsThere_3 : decode cX4_endsTellOfWhatIsThere 3 = .ok (.aload_n 0, 1) := by decide +kernel
theorem dX4_endsTellOfWhatIsThere_4 : decode cX4_endsTellOfWhatIsThere 4 = .ok (.getfield 9, 3) := by decide +kernel
theorem dX4_endsTellOfWhatIsThere_7 : decode cX4_endsTellOfWhatIsThere 7 = .ok (.if_icmp .ge 35, 3) := by decide +kernel
theorem dX4_endsTellOfWhatIsThere_10 : decode cX4_endsTellOfWhatIsThere 10 = .ok (.aload_n 0, 1) := by decide +kernel
theorem dX4_endsTellOfWhatIsThere_11 : decode cX4_endsTellOfWhatIsThere 11 = .ok (.getfield 55, 3) := by decide +kernel
theorem dX4_endsTellOfWhatIsThere_14 : decode cX4_endsTellOfWhatIsThere 14 = .ok (.iload_n 1, 1) := by decide +kernel
theorem dX4_endsTellOfWhatIsThere_15 : decode cX4_endsTellOfWhatIsThere 15 = .ok (.iaload, 1) := by decide +kernel
theorem dX4_endsTellOfWhatIsThere_16 : decode cX4_endsTellOfWhatIsThere 16 = .ok (.bipush (-9), 2) := by decide +kernel
theorem dX4_endsTellOfWhatIsThere_18 : decode cX4_endsTellOfWhatIsThere 18 = .ok (.if_icmp .eq 18, 3) := by decide +kernel
theorem dX4_endsTellOfWhatIsThere_21 : decode cX4_endsTellOfWhatIsThere 21 = .ok (.aload_n 0, 1) := by decide +kernel
theorem dX4_endsTellOfWhatIsThere_22 : decode cX4_endsTellOfWhatIsThere 22 = .ok (.aload_n 0, 1) := by decide +kernel
theorem dX4_endsTellOfWhatIsThere_23 : decode cX4_endsTellOfWhatIsThere 23 = .ok (.getfield 55, 3) := by decide +kernel
theorem dX4_endsTellOfWhatIsThere_26 : decode cX4_endsTellOfWhatIsThere 26 = .ok (.iload_n 1, 1) := by decide +kernel
theorem dX4_endsTellOfWhatIsThere_27 : decode cX4_endsTellOfWhatIsThere 27 = .ok (.iaload, 1) := by decide +kernel
theorem dX4_endsTellOfWhatIsThere_28 : decode cX4_endsTellOfWhatIsThere 28 = .ok (.invokevirtual 64, 3) := by decide +kernel
theorem dX4_endsTellOfWhatIsThere_31 : decode cX4_endsTellOfWhatIsThere 31 = .ok (.ifCond .ne 5, 3) := by decide +kernel
theorem dX4_endsTellOfWhatIsThere_34 : decode cX4_endsTellOfWhatIsThere 34 = .ok (.iconst 0, 1) := by decide +kernel
theorem dX4_endsTellOfWhatIsThere_35 : decode cX4_endsTellOfWhatIsThere 35 = .ok (.ireturn, 1) := by decide +kernel
theorem dX4_endsTellOfWhatIsThere_36 : decode cX4_endsTellOfWhatIsThere 36 = .ok (.iinc 1 1, 3) := by decide +kernel
theorem dX4_endsTellOfWhatIsThere_39 : decode cX4_endsTellOfWhatIsThere 39 = .ok (.goto (-37), 3) := by decide +kernel
theorem dX4_endsTellOfWhatIsThere_42 : decode cX4_endsTellOfWhatIsThere 42 = .ok (.iconst 0, 1) := by decide +kernel
theorem dX4_endsTellOfWhatIsThere_43 : decode cX4_endsTellOfWhatIsThere 43 = .ok (.istore_n 1, 1) := by decide +kernel
theorem dX4_endsTellOfWhatIsThere_44 : decode cX4_endsTellOfWhatIsThere 44 = .ok (.iload_n 1, 1) := by decide +kernel
theorem dX4_endsTellOfWhatIsThere_45 : decode cX4_endsTellOfWhatIsThere 45 = .ok (.iconst 2, 1) := by decide +kernel
theorem dX4_endsTellOfWhatIsThere_46 : decode cX4_endsTellOfWhatIsThere 46 = .ok (.aload_n 0, 1) := by decide +kernel
theorem dX4_endsTellOfWhatIsThere_47 : decode cX4_endsTellOfWhatIsThere 47 = .ok (.getfield 9, 3) := by decide +kernel
theorem dX4_endsTellOfWhatIsThere_50 : decode cX4_endsTellOfWhatIsThere 50 = .ok (.imul, 1) := by decide +kernel
theorem dX4_endsTellOfWhatIsThere_51 : decode cX4_endsTellOfWhatIsThere 51 = .ok (.if_icmp .ge 44, 3) := by decide +kernel
theorem dX4_endsTellOfWhatIsThere_54 : decode cX4_endsTellOfWhatIsThere 54 = .ok (.aload_n 0, 1) := by decide +kernel
theorem dX4_endsTellOfWhatIsThere_55 : decode cX4_endsTellOfWhatIsThere 55 = .ok (.getfield 58, 3) := by decide +kernel
theorem dX4_endsTellOfWhatIsThere_58 : decode cX4_endsTellOfWhatIsThere 58 = .ok (.iload_n 1, 1) := by decide +kernel
theorem dX4_endsTellOfWhatIsThere_59 : decode cX4_endsTellOfWhatIsThere 59 = .ok (.iaload, 1) := by decide +kernel
theorem dX4_endsTellOfWhatIsThere_60 : decode cX4_endsTellOfWhatIsThere 60 = .ok (.bipush (-9), 2) := by decide +kernel
theorem dX4_endsTellOfWhatIsThere_62 : decode cX4_endsTellOfWhatIsThere 62 = .ok (.if_icmp .eq 27, 3) := by decide +kernel
theorem dX4_endsTellOfWhatIsThere_65 : decode cX4_endsTellOfWhatIsThere 65 = .ok (.aload_n 0, 1) := by decide +kernel
theorem dX4_endsTellOfWhatIsThere_66 : decode cX4_endsTellOfWhatIsThere 66 = .ok (.getfield 58, 3) := by decide +kernel
theorem dX4_endsTellOfWhatIsThere_69 : decode cX4_endsTellOfWhatIsThere 69 = .ok (.iload_n 1, 1) := by decide +kernel
theorem dX4_endsTellOfWhatIsThere_70 : decode cX4_endsTellOfWhatIsThere 70 = .ok (.iaload, 1) := by decide +kernel
theorem dX4_endsTellOfWhatIsThere_71 : decode cX4_endsTellOfWhatIsThere 71 = .ok (.ifCond .eq 16, 3) := by decide +kernel
theorem dX4_endsTellOfWhatIsThere_74 : decode cX4_endsTellOfWhatIsThere 74 = .ok (.aload_n 0, 1) := by decide +kernel
theorem dX4_endsTellOfWhatIsThere_75 : decode cX4_endsTellOfWhatIsThere 75 = .ok (.aload_n 0, 1) := by decide +kernel
theorem dX4_endsTellOfWhatIsThere_76 : decode cX4_endsTellOfWhatIsThere 76 = .ok (.getfield 58, 3) := by decide +kernel
theorem dX4_endsTellOfWhatIsThere_79 : decode cX4_endsTellOfWhatIsThere 79 = .ok (.iload_n 1, 1) := by decide +kernel
theorem dX4_endsTellOfWhatIsThere_80 : decode cX4_endsTellOfWhatIsThere 80 = .ok (.iaload, 1) := by decide +kernel
theorem dX4_endsTellOfWhatIsThere_81 : decode cX4_endsTellOfWhatIsThere 81 = .ok (.invokevirtual 98, 3) := by decide +kernel
theorem dX4_endsTellOfWhatIsThere_84 : decode cX4_endsTellOfWhatIsThere 84 = .ok (.ifCond .ne 5, 3) := by decide +kernel
theorem dX4_endsTellOfWhatIsThere_87 : decode cX4_endsTellOfWhatIsThere 87 = .ok (.iconst 0, 1) := by decide +kernel
theorem dX4_endsTellOfWhatIsThere_88 : decode cX4_endsTellOfWhatIsThere 88 = .ok (.ireturn, 1) := by decide +kernel
theorem dX4_endsTellOfWhatIsThere_89 : decode cX4_endsTellOfWhatIsThere 89 = .ok (.iinc 1 1, 3) := by decide +kernel
theorem dX4_endsTellOfWhatIsThere_92 : decode cX4_endsTellOfWhatIsThere 92 = .ok (.goto (-48), 3) := by decide +kernel
theorem dX4_endsTellOfWhatIsThere_95 : decode cX4_endsTellOfWhatIsThere 95 = .ok (.iconst 1, 1) := by decide +kernel
theorem dX4_endsTellOfWhatIsThere_96 : decode cX4_endsTellOfWhatIsThere 96 = .ok (.ireturn, 1) := by decide +kernel
theorem dX4_namesTellOfWhatIsThere_0 : decode cX4_namesTellOfWhatIsThere 0 = .ok (.iconst 0, 1) := by decide +kernel
theorem dX4_namesTellOfWhatIsThere_1 : decode cX4_namesTellOfWhatIsThere 1 = .ok (.istore_n 1, 1) := by decide +kernel
theorem dX4_namesTellOfWhatIsThere_2 : decode cX4_namesTellOfWhatIsThere 2 = .ok (.iload_n 1, 1) := by decide +kernel
theorem dX4_namesTellOfWhatIsThere_3 : decode cX4_namesTellOfWhatIsThere 3 = .ok (.aload_n 0, 1) := by decide +kernel
theorem dX4_namesTellOfWhatIsThere_4 : decode cX4_namesTellOfWhatIsThere 4 = .ok (.getfield 15, 3) := by decide +kernel
theorem dX4_namesTellOfWhatIsThere_7 : decode cX4_namesTellOfWhatIsThere 7 = .ok (.if_icmp .ge 99, 3) := by decide +kernel
theorem dX4_namesTellOfWhatIsThere_10 : decode cX4_namesTellOfWhatIsThere 10 = .ok (.aload_n 0, 1) := by decide +kernel
theorem dX4_namesTellOfWhatIsThere_11 : decode cX4_namesTellOfWhatIsThere 11 = .ok (.getfield 22, 3) := by decide +kernel
theorem dX4_namesTellOfWhatIsThere_14 : decode cX4_namesTellOfWhatIsThere 14 = .ok (.iload_n 1, 1) := by decide +kernel
theorem dX4_namesTellOfWhatIsThere_15 : decode cX4_namesTellOfWhatIsThere 15 = .ok (.iaload, 1) := by decide +kernel
theorem dX4_namesTellOfWhatIsThere_16 : decode cX4_namesTellOfWhatIsThere 16 = .ok (.iconst 2, 1) := by decide +kernel
theorem dX4_namesTellOfWhatIsThere_17 : decode cX4_namesTellOfWhatIsThere 17 = .ok (.if_icmp .ne 31, 3) := by decide +kernel
theorem dX4_namesTellOfWhatIsThere_20 : decode cX4_namesTellOfWhatIsThere 20 = .ok (.aload_n 0, 1) := by decide +kernel
theorem dX4_namesTellOfWhatIsThere_21 : decode cX4_namesTellOfWhatIsThere 21 = .ok (.aload_n 0, 1) := by decide +kernel
theorem dX4_namesTellOfWhatIsThere_22 : decode cX4_namesTellOfWhatIsThere 22 = .ok (.getfield 31, 3) := by decide +kernel
theorem dX4_namesTellOfWhatIsThere_25 : decode cX4_namesTellOfWhatIsThere 25 = .ok (.iload_n 1, 1) := by decide +kernel
theorem dX4_namesTellOfWhatIsThere_26 : decode cX4_namesTellOfWhatIsThere 26 = .ok (.iaload, 1) := by decide +kernel
theorem dX4_namesTellOfWhatIsThere_27 : decode cX4_namesTellOfWhatIsThere 27 = .ok (.invokevirtual 64, 3) := by decide +kernel
theorem dX4_namesTellOfWhatIsThere_30 : decode cX4_namesTellOfWhatIsThere 30 = .ok (.ifCond .eq 16, 3) := by decide +kernel
theorem dX4_namesTellOfWhatIsThere_33 : decode cX4_namesTellOfWhatIsThere 33 = .ok (.aload_n 0, 1) := by decide +kernel
theorem dX4_namesTellOfWhatIsThere_34 : decode cX4_namesTellOfWhatIsThere 34 = .ok (.aload_n 0, 1) := by decide +kernel
theorem dX4_namesTellOfWhatIsThere_35 : decode cX4_namesTellOfWhatIsThere 35 = .ok (.getfield 34, 3) := by decide +kernel
theorem dX4_namesTellOfWhatIsThere_38 : decode cX4_namesTellOfWhatIsThere 38 = .ok (.iload_n 1, 1) := by decide +kernel
theorem dX4_namesTellOfWhatIsThere_39 : decode cX4_namesTellOfWhatIsThere 39 = .ok (.iaload, 1) := by decide +kernel
theorem dX4_namesTellOfWhatIsThere_40 : decode cX4_namesTellOfWhatIsThere 40 = .ok (.invokevirtual 64, 3) := by decide +kernel
theorem dX4_namesTellOfWhatIsThere_43 : decode cX4_namesTellOfWhatIsThere 43 = .ok (.ifCond .ne 5, 3) := by decide +kernel
theorem dX4_namesTellOfWhatIsThere_46 : decode cX4_namesTellOfWhatIsThere 46 = .ok (.iconst 0, 1) := by decide +kernel
theorem dX4_namesTellOfWhatIsThere_47 : decode cX4_namesTellOfWhatIsThere 47 = .ok (.ireturn, 1) := by decide +kernel
theorem dX4_namesTellOfWhatIsThere_48 : decode cX4_namesTellOfWhatIsThere 48 = .ok (.iconst 3, 1) := by decide +kernel
theorem dX4_namesTellOfWhatIsThere_49 : decode cX4_namesTellOfWhatIsThere 49 = .ok (.iload_n 1, 1) := by decide +kernel
theorem dX4_namesTellOfWhatIsThere_50 : decode cX4_namesTellOfWhatIsThere 50 = .ok (.imul, 1) := by decide +kernel
theorem dX4_namesTellOfWhatIsThere_51 : decode cX4_namesTellOfWhatIsThere 51 = .ok (.istore_n 2, 1) := by decide +kernel
theorem dX4_namesTellOfWhatIsThere_52 : decode cX4_namesTellOfWhatIsThere 52 = .ok (.iload_n 2, 1) := by decide +kernel
theorem dX4_namesTellOfWhatIsThere_53 : decode cX4_namesTellOfWhatIsThere 53 = .ok (.iconst 3, 1) := by decide +kernel
theorem dX4_namesTellOfWhatIsThere_54 : decode cX4_namesTellOfWhatIsThere 54 = .ok (.iload_n 1, 1) := by decide +kernel
theorem dX4_namesTellOfWhatIsThere_55 : decode cX4_namesTellOfWhatIsThere 55 = .ok (.imul, 1) := by decide +kernel
theorem dX4_namesTellOfWhatIsThere_56 : decode cX4_namesTellOfWhatIsThere 56 = .ok (.aload_n 0, 1) := by decide +kernel
theorem dX4_namesTellOfWhatIsThere_57 : decode cX4_namesTellOfWhatIsThere 57 = .ok (.getfield 37, 3) := by decide +kernel
theorem dX4_namesTellOfWhatIsThere_60 : decode cX4_namesTellOfWhatIsThere 60 = .ok (.iload_n 1, 1) := by decide +kernel
theorem dX4_namesTellOfWhatIsThere_61 : decode cX4_namesTellOfWhatIsThere 61 = .ok (.iaload, 1) := by decide +kernel
theorem dX4_namesTellOfWhatIsThere_62 : decode cX4_namesTellOfWhatIsThere 62 = .ok (.iadd, 1) := by decide +kernel
theorem dX4_namesTellOfWhatIsThere_63 : decode cX4_namesTellOfWhatIsThere 63 = .ok (.if_icmp .ge 37, 3) := by decide +kernel
theorem dX4_namesTellOfWhatIsThere_66 : decode cX4_namesTellOfWhatIsThere 66 = .ok (.aload_n 0, 1) := by decide +kernel
theorem dX4_namesTellOfWhatIsThere_67 : decode cX4_namesTellOfWhatIsThere 67 = .ok (.aload_n 0, 1) := by decide +kernel
theorem dX4_namesTellOfWhatIsThere_68 : decode cX4_namesTellOfWhatIsThere 68 = .ok (.getfield 40, 3) := by decide +kernel
theorem dX4_namesTellOfWhatIsThere_71 : decode cX4_namesTellOfWhatIsThere 71 = .ok (.iload_n 2, 1) := by decide +kernel
theorem dX4_namesTellOfWhatIsThere_72 : decode cX4_namesTellOfWhatIsThere 72 = .ok (.iaload, 1) := by decide +kernel
theorem dX4_namesTellOfWhatIsThere_73 : decode cX4_namesTellOfWhatIsThere 73 = .ok (.invokevirtual 98, 3) := by decide +kernel
theorem dX4_namesTellOfWhatIsThere_76 : decode cX4_namesTellOfWhatIsThere 76 = .ok (.ifCond .eq 16, 3) := by decide +kernel
theorem dX4_namesTellOfWhatIsThere_79 : decode cX4_namesTellOfWhatIsThere 79 = .ok (.aload_n 0, 1) := by decide +kernel
theorem dX4_namesTellOfWhatIsThere_80 : decode cX4_namesTellOfWhatIsThere 80 = .ok (.aload_n 0, 1) := by decide +kernel
theorem dX4_namesTellOfWhatIsThere_81 : decode cX4_namesTellOfWhatIsThere 81 = .ok (.getfield 43, 3) := by decide +kernel
theorem dX4_namesTellOfWhatIsThere_84 : decode cX4_namesTellOfWhatIsThere 84 = .ok (.iload_n 2, 1) := by decide +kernel
theorem dX4_namesTellOfWhatIsThere_85 : decode cX4_namesTellOfWhatIsThere 85 = .ok (.iaload, 1) := by decide +kernel
theorem dX4_namesTellOfWhatIsThere_86 : decode cX4_namesTellOfWhatIsThere 86 = .ok (.invokevirtual 64, 3) := by decide +kernel
theorem dX4_namesTellOfWhatIsThere_89 : decode cX4_namesTellOfWhatIsThere 89 = .ok (.ifCond .ne 5, 3) := by decide +kernel
theorem dX4_namesTellOfWhatIsThere_92 : decode cX4_namesTellOfWhatIsThere 92 = .ok (.iconst 0, 1) := by decide +kernel
theorem dX4_namesTellOfWhatIsThere_93 : decode cX4_namesTellOfWhatIsThere 93 = .ok (.ireturn, 1) := by decide +kernel
theorem dX4_namesTellOfWhatIsThere_94 : decode cX4_namesTellOfWhatIsThere 94 = .ok (.iinc 2 1, 3) := by decide +kernel
theorem dX4_namesTellOfWhatIsThere_97 : decode cX4_namesTellOfWhatIsThere 97 = .ok (.goto (-45), 3) := by decide +kernel
theorem dX4_namesTellOfWhatIsThere_100 : decode cX4_namesTellOfWhatIsThere 100 = .ok (.iinc 1 1, 3) := by decide +kernel
theorem dX4_namesTellOfWhatIsThere_103 : decode cX4_namesTellOfWhatIsThere 103 = .ok (.goto (-101), 3) := by decide +kernel
theorem dX4_namesTellOfWhatIsThere_106 : decode cX4_namesTellOfWhatIsThere 106 = .ok (.iconst 1, 1) := by decide +kernel
theorem dX4_namesTellOfWhatIsThere_107 : decode cX4_namesTellOfWhatIsThere 107 = .ok (.ireturn, 1) := by decide +kernel
theorem dX4_findDominators_0 : decode cX4_findDominators 0 = .ok (.iconst 0, 1) := by decide +kernel
theorem dX4_findDominators_1 : decode cX4_findDominators 1 = .ok (.istore_n 1, 1) := by decide +kernel
theorem dX4_findDominators_2 : decode cX4_findDominators 2 = .ok (.iload_n 1, 1) := by decide +kernel
theorem dX4_findDominators_3 : decode cX4_findDominators 3 = .ok (.aload_n 0, 1) := by decide +kernel
theorem dX4_findDominators_4 : decode cX4_findDominators 4 = .ok (.getfield 9, 3) := by decide +kernel
theorem dX4_findDominators_7 : decode cX4_findDominators 7 = .ok (.if_icmp .ge 16, 3) := by decide +kernel
theorem dX4_findDominators_10 : decode cX4_findDominators 10 = .ok (.aload_n 0, 1) := by decide +kernel
theorem dX4_findDominators_11 : decode cX4_findDominators 11 = .ok (.getfield 61, 3) := by decide +kernel
theorem dX4_findDominators_14 : decode cX4_findDominators 14 = .ok (.iload_n 1, 1) := by decide +kernel
theorem dX4_findDominators_15 : decode cX4_findDominators 15 = .ok (.iconst 0, 1) := by decide +kernel
theorem dX4_findDominators_16 : decode cX4_findDominators 16 = .ok (.iastore, 1) := by decide +kernel
theorem dX4_findDominators_17 : decode cX4_findDominators 17 = .ok (.iinc 1 1, 3) := by decide +kernel
theorem dX4_findDominators_20 : decode cX4_findDominators 20 = .ok (.goto (-18), 3) := by decide +kernel
theorem dX4_findDominators_23 : decode cX4_findDominators 23 = .ok (.iconst 0, 1) := by decide +kernel
theorem dX4_findDominators_24 : decode cX4_findDominators 24 = .ok (.istore_n 1, 1) := by decide +kernel
theorem dX4_findDominators_25 : decode cX4_findDominators 25 = .ok (.iload_n 1, 1) := by decide +kernel
theorem dX4_findDominators_26 : decode cX4_findDominators 26 = .ok (.aload_n 0, 1) := by decide +kernel
theorem dX4_findDominators_27 : decode cX4_findDominators 27 = .ok (.getfield 9, 3) := by decide +kernel
theorem dX4_findDominators_30 : decode cX4_findDominators 30 = .ok (.if_icmp .ge 51, 3) := by decide +kernel
theorem dX4_findDominators_33 : decode cX4_findDominators 33 = .ok (.aload_n 0, 1) := by decide +kernel
theorem dX4_findDominators_34 : decode cX4_findDominators 34 = .ok (.iload_n 1, 1) := by decide +kernel
theorem dX4_findDominators_35 : decode cX4_findDominators 35 = .ok (.invokevirtual 101, 3) := by decide +kernel
theorem dX4_findDominators_38 : decode cX4_findDominators 38 = .ok (.istore_n 2, 1) := by decide +kernel
theorem dX4_findDominators_39 : decode cX4_findDominators 39 = .ok (.iconst 0, 1) := by decide +kernel
theorem dX4_findDominators_40 : decode cX4_findDominators 40 = .ok (.istore_n 3, 1) := by decide +kernel
theorem dX4_findDominators_41 : decode cX4_findDominators 41 = .ok (.iload_n 3, 1) := by decide +kernel
theorem dX4_findDominators_42 : decode cX4_findDominators 42 = .ok (.aload_n 0, 1) := by decide +kernel
theorem dX4_findDominators_43 : decode cX4_findDominators 43 = .ok (.getfield 9, 3) := by decide +kernel
theorem dX4_findDominators_46 : decode cX4_findDominators 46 = .ok (.if_icmp .ge 29, 3) := by decide +kernel
theorem dX4_findDominators_49 : decode cX4_findDominators 49 = .ok (.iload_n 2, 1) := by decide +kernel
theorem dX4_findDominators_50 : decode cX4_findDominators 50 = .ok (.iload_n 3, 1) := by decide +kernel
theorem dX4_findDominators_51 : decode cX4_findDominators 51 = .ok (.invokestatic 105, 3) := by decide +kernel
theorem dX4_findDominators_54 : decode cX4_findDominators 54 = .ok (.ifCond .ne 15, 3) := by decide +kernel
theorem dX4_findDominators_57 : decode cX4_findDominators 57 = .ok (.aload_n 0, 1) := by decide +kernel
theorem dX4_findDominators_58 : decode cX4_findDominators 58 = .ok (.getfield 61, 3) := by decide +kernel
theorem dX4_findDominators_61 : decode cX4_findDominators 61 = .ok (.iload_n 3, 1) := by decide +kernel
theorem dX4_findDominators_62 : decode cX4_findDominators 62 = .ok (.dup2, 1) := by decide +kernel
theorem dX4_findDominators_63 : decode cX4_findDominators 63 = .ok (.iaload, 1) := by decide +kernel
theorem dX4_findDominators_64 : decode cX4_findDominators 64 = .ok (.iconst 1, 1) := by decide +kernel
theorem dX4_findDominators_65 : decode cX4_findDominators 65 = .ok (.iload_n 1, 1) := by decide +kernel
theorem dX4_findDominators_66 : decode cX4_findDominators 66 = .ok (.ishl, 1) := by decide +kernel
theorem dX4_findDominators_67 : decode cX4_findDominators 67 = .ok (.ior, 1) := by decide +kernel
theorem dX4_findDominators_68 : decode cX4_findDominators 68 = .ok (.iastore, 1) := by decide +kernel
theorem dX4_findDominators_69 : decode cX4_findDominators 69 = .ok (.iinc 3 1, 3) := by decide +kernel
theorem dX4_findDominators_72 : decode cX4_findDominators 72 = .ok (.goto (-31), 3) := by decide +kernel
theorem dX4_findDominators_75 : decode cX4_findDominators 75 = .ok (.iinc 1 1, 3) := by decide +kernel
theorem dX4_findDominators_78 : decode cX4_findDominators 78 = .ok (.goto (-53), 3) := by decide +kernel
theorem dX4_findDominators_81 : decode cX4_findDominators 81 = .ok (.return_, 1) := by decide +kernel
theorem dX4_reachedWithout_0 : decode cX4_reachedWithout 0 = .ok (.iconst 1, 1) := by decide +kernel
theorem dX4_reachedWithout_1 : decode cX4_reachedWithout 1 = .ok (.iload_n 1, 1) := by decide +kernel
theorem dX4_reachedWithout_2 : decode cX4_reachedWithout 2 = .ok (.ishl, 1) := by decide +kernel
theorem dX4_reachedWithout_3 : decode cX4_reachedWithout 3 = .ok (.iconst (-1), 1) := by decide +kernel
theorem dX4_reachedWithout_4 : decode cX4_reachedWithout 4 = .ok (.ixor, 1) := by decide +kernel
theorem dX4_reachedWithout_5 : decode cX4_reachedWithout 5 = .ok (.istore_n 2, 1) := by decide +kernel
theorem dX4_reachedWithout_6 : decode cX4_reachedWithout 6 = .ok (.iconst 1, 1) := by decide +kernel
theorem dX4_reachedWithout_7 : decode cX4_reachedWithout 7 = .ok (.iload_n 2, 1) := by decide +kernel
theorem dX4_reachedWithout_8 : decode cX4_reachedWithout 8 = .ok (.iand, 1) := by decide +kernel
theorem dX4_reachedWithout_9 : decode cX4_reachedWithout 9 = .ok (.istore_n 3, 1) := by decide +kernel
theorem dX4_reachedWithout_10 : decode cX4_reachedWithout 10 = .ok (.iconst 0, 1) := by decide +kernel
theorem dX4_reachedWithout_11 : decode cX4_reachedWithout 11 = .ok (.istore 4, 2) := by decide +kernel
theorem dX4_reachedWithout_13 : decode cX4_reachedWithout 13 = .ok (.iload 4, 2) := by decide +kernel
theorem dX4_reachedWithout_15 : decode cX4_reachedWithout 15 = .ok (.aload_n 0, 1) := by decide +kernel
theorem dX4_reachedWithout_16 : decode cX4_reachedWithout 16 = .ok (.getfield 9, 3) := by decide +kernel
theorem dX4_reachedWithout_19 : decode cX4_reachedWithout 19 = .ok (.if_icmp .ge 66, 3) := by decide +kernel
theorem dX4_reachedWithout_22 : decode cX4_reachedWithout 22 = .ok (.iconst 0, 1) := by decide +kernel
theorem dX4_reachedWithout_23 : decode cX4_reachedWithout 23 = .ok (.istore 5, 2) := by decide +kernel
theorem dX4_reachedWithout_25 : decode cX4_reachedWithout 25 = .ok (.iload 5, 2) := by decide +kernel
theorem dX4_reachedWithout_27 : decode cX4_reachedWithout 27 = .ok (.iconst 2, 1) := by decide +kernel
theorem dX4_reachedWithout_28 : decode cX4_reachedWithout 28 = .ok (.aload_n 0, 1) := by decide +kernel
theorem dX4_reachedWithout_29 : decode cX4_reachedWithout 29 = .ok (.getfield 9, 3) := by decide +kernel
theorem dX4_reachedWithout_32 : decode cX4_reachedWithout 32 = .ok (.imul, 1) := by decide +kernel
theorem dX4_reachedWithout_33 : decode cX4_reachedWithout 33 = .ok (.if_icmp .ge 46, 3) := by decide +kernel
theorem dX4_reachedWithout_36 : decode cX4_reachedWithout 36 = .ok (.aload_n 0, 1) := by decide +kernel
theorem dX4_reachedWithout_37 : decode cX4_reachedWithout 37 = .ok (.getfield 58, 3) := by decide +kernel
theorem dX4_reachedWithout_40 : decode cX4_reachedWithout 40 = .ok (.iload 5, 2) := by decide +kernel
theorem dX4_reachedWithout_42 : decode cX4_reachedWithout 42 = .ok (.iaload, 1) := by decide +kernel
theorem dX4_reachedWithout_43 : decode cX4_reachedWithout 43 = .ok (.bipush (-9), 2) := by decide +kernel
theorem dX4_reachedWithout_45 : decode cX4_reachedWithout 45 = .ok (.if_icmp .eq 28, 3) := by decide +kernel
theorem dX4_reachedWithout_48 : decode cX4_reachedWithout 48 = .ok (.iload_n 3, 1) := by decide +kernel
theorem dX4_reachedWithout_49 : decode cX4_reachedWithout 49 = .ok (.iload 5, 2) := by decide +kernel
theorem dX4_reachedWithout_51 : decode cX4_reachedWithout 51 = .ok (.iconst 2, 1) := by decide +kernel
theorem dX4_reachedWithout_52 : decode cX4_reachedWithout 52 = .ok (.idiv, 1) := by decide +kernel
theorem dX4_reachedWithout_53 : decode cX4_reachedWithout 53 = .ok (.invokestatic 105, 3) := by decide +kernel
theorem dX4_reachedWithout_56 : decode cX4_reachedWithout 56 = .ok (.ifCond .eq 17, 3) := by decide +kernel
theorem dX4_reachedWithout_59 : decode cX4_reachedWithout 59 = .ok (.iload_n 3, 1) := by decide +kernel
theorem dX4_reachedWithout_60 : decode cX4_reachedWithout 60 = .ok (.iconst 1, 1) := by decide +kernel
theorem dX4_reachedWithout_61 : decode cX4_reachedWithout 61 = .ok (.aload_n 0, 1) := by decide +kernel
theorem dX4_reachedWithout_62 : decode cX4_reachedWithout 62 = .ok (.getfield 58, 3) := by decide +kernel
theorem dX4_reachedWithout_65 : decode cX4_reachedWithout 65 = .ok (.iload 5, 2) := by decide +kernel
theorem dX4_reachedWithout_67 : decode cX4_reachedWithout 67 = .ok (.iaload, 1) := by decide +kernel
theorem dX4_reachedWithout_68 : decode cX4_reachedWithout 68 = .ok (.ishl, 1) := by decide +kernel
theorem dX4_reachedWithout_69 : decode cX4_reachedWithout 69 = .ok (.iload_n 2, 1) := by decide +kernel
theorem dX4_reachedWithout_70 : decode cX4_reachedWithout 70 = .ok (.iand, 1) := by decide +kernel
theorem dX4_reachedWithout_71 : decode cX4_reachedWithout 71 = .ok (.ior, 1) := by decide +kernel
theorem dX4_reachedWithout_72 : decode cX4_reachedWithout 72 = .ok (.istore_n 3, 1) := by decide +kernel
theorem dX4_reachedWithout_73 : decode cX4_reachedWithout 73 = .ok (.iinc 5 1, 3) := by decide +kernel
theorem dX4_reachedWithout_76 : decode cX4_reachedWithout 76 = .ok (.goto (-51), 3) := by decide +kernel
theorem dX4_reachedWithout_79 : decode cX4_reachedWithout 79 = .ok (.iinc 4 1, 3) := by decide +kernel
theorem dX4_reachedWithout_82 : decode cX4_reachedWithout 82 = .ok (.goto (-69), 3) := by decide +kernel
theorem dX4_reachedWithout_85 : decode cX4_reachedWithout 85 = .ok (.iload_n 3, 1) := by decide +kernel
theorem dX4_reachedWithout_86 : decode cX4_reachedWithout 86 = .ok (.ireturn, 1) := by decide +kernel
theorem dX4_dominates_0 : decode cX4_dominates 0 = .ok (.aload_n 0, 1) := by decide +kernel
theorem dX4_dominates_1 : decode cX4_dominates 1 = .ok (.getfield 61, 3) := by decide +kernel
theorem dX4_dominates_4 : decode cX4_dominates 4 = .ok (.iload_n 2, 1) := by decide +kernel
theorem dX4_dominates_5 : decode cX4_dominates 5 = .ok (.iaload, 1) := by decide +kernel
theorem dX4_dominates_6 : decode cX4_dominates 6 = .ok (.iload_n 1, 1) := by decide +kernel
theorem dX4_dominates_7 : decode cX4_dominates 7 = .ok (.invokestatic 105, 3) := by decide +kernel
theorem dX4_dominates_10 : decode cX4_dominates 10 = .ok (.ireturn, 1) := by decide +kernel
theorem dX4_isIn_0 : decode cX4_isIn 0 = .ok (.iload_n 0, 1) := by decide +kernel
theorem dX4_isIn_1 : decode cX4_isIn 1 = .ok (.iload_n 1, 1) := by decide +kernel
theorem dX4_isIn_2 : decode cX4_isIn 2 = .ok (.ishr, 1) := by decide +kernel
theorem dX4_isIn_3 : decode cX4_isIn 3 = .ok (.iconst 1, 1) := by decide +kernel
theorem dX4_isIn_4 : decode cX4_isIn 4 = .ok (.iand, 1) := by decide +kernel
theorem dX4_isIn_5 : decode cX4_isIn 5 = .ok (.iconst 1, 1) := by decide +kernel
theorem dX4_isIn_6 : decode cX4_isIn 6 = .ok (.if_icmp .ne 7, 3) := by decide +kernel
theorem dX4_isIn_9 : decode cX4_isIn 9 = .ok (.iconst 1, 1) := by decide +kernel
theorem dX4_isIn_10 : decode cX4_isIn 10 = .ok (.goto 4, 3) := by decide +kernel
theorem dX4_isIn_13 : decode cX4_isIn 13 = .ok (.iconst 0, 1) := by decide +kernel
theorem dX4_isIn_14 : decode cX4_isIn 14 = .ok (.ireturn, 1) := by decide +kernel
theorem dX4_isAhead_0 : decode cX4_isAhead 0 = .ok (.aload_n 0, 1) := by decide +kernel
theorem dX4_isAhead_1 : decode cX4_isAhead 1 = .ok (.getfield 18, 3) := by decide +kernel
theorem dX4_isAhead_4 : decode cX4_isAhead 4 = .ok (.iload_n 1, 1) := by decide +kernel
theorem dX4_isAhead_5 : decode cX4_isAhead 5 = .ok (.iaload, 1) := by decide +kernel
theorem dX4_isAhead_6 : decode cX4_isAhead 6 = .ok (.aload_n 0, 1) := by decide +kernel
theorem dX4_isAhead_7 : decode cX4_isAhead 7 = .ok (.getfield 18, 3) := by decide +kernel
theorem dX4_isAhead_10 : decode cX4_isAhead 10 = .ok (.iload_n 2, 1) := by decide +kernel
theorem dX4_isAhead_11 : decode cX4_isAhead 11 = .ok (.iaload, 1) := by decide +kernel
theorem dX4_isAhead_12 : decode cX4_isAhead 12 = .ok (.if_icmp .ne 16, 3) := by decide +kernel
theorem dX4_isAhead_15 : decode cX4_isAhead 15 = .ok (.iload_n 1, 1) := by decide +kernel
theorem dX4_isAhead_16 : decode cX4_isAhead 16 = .ok (.iload_n 2, 1) := by decide +kernel
theorem dX4_isAhead_17 : decode cX4_isAhead 17 = .ok (.if_icmp .ge 7, 3) := by decide +kernel
theorem dX4_isAhead_20 : decode cX4_isAhead 20 = .ok (.iconst 1, 1) := by decide +kernel
theorem dX4_isAhead_21 : decode cX4_isAhead 21 = .ok (.goto 23, 3) := by decide +kernel
theorem dX4_isAhead_24 : decode cX4_isAhead 24 = .ok (.iconst 0, 1) := by decide +kernel
theorem dX4_isAhead_25 : decode cX4_isAhead 25 = .ok (.goto 19, 3) := by decide +kernel
theorem dX4_isAhead_28 : decode cX4_isAhead 28 = .ok (.aload_n 0, 1) := by decide +kernel
theorem dX4_isAhead_29 : decode cX4_isAhead 29 = .ok (.aload_n 0, 1) := by decide +kernel
theorem dX4_isAhead_30 : decode cX4_isAhead 30 = .ok (.getfield 18, 3) := by decide +kernel
theorem dX4_isAhead_33 : decode cX4_isAhead 33 = .ok (.iload_n 1, 1) := by decide +kernel
theorem dX4_isAhead_34 : decode cX4_isAhead 34 = .ok (.iaload, 1) := by decide +kernel
theorem dX4_isAhead_35 : decode cX4_isAhead 35 = .ok (.aload_n 0, 1) := by decide +kernel
theorem dX4_isAhead_36 : decode cX4_isAhead 36 = .ok (.getfield 18, 3) := by decide +kernel
theorem dX4_isAhead_39 : decode cX4_isAhead 39 = .ok (.iload_n 2, 1) := by decide +kernel
theorem dX4_isAhead_40 : decode cX4_isAhead 40 = .ok (.iaload, 1) := by decide +kernel
theorem dX4_isAhead_41 : decode cX4_isAhead 41 = .ok (.invokevirtual 89, 3) := by decide +kernel
theorem dX4_isAhead_44 : decode cX4_isAhead 44 = .ok (.ireturn, 1) := by decide +kernel
theorem dX4_armsFit_0 : decode cX4_armsFit 0 = .ok (.iconst 0, 1) := by decide +kernel
theorem dX4_armsFit_1 : decode cX4_armsFit 1 = .ok (.istore_n 2, 1) := by decide +kernel
theorem dX4_armsFit_2 : decode cX4_armsFit 2 = .ok (.iconst 3, 1) := by decide +kernel
theorem dX4_armsFit_3 : decode cX4_armsFit 3 = .ok (.iload_n 1, 1) := by decide +kernel
theorem dX4_armsFit_4 : decode cX4_armsFit 4 = .ok (.imul, 1) := by decide +kernel
theorem dX4_armsFit_5 : decode cX4_armsFit 5 = .ok (.istore_n 3, 1) := by decide +kernel
theorem dX4_armsFit_6 : decode cX4_armsFit 6 = .ok (.iload_n 3, 1) := by decide +kernel
theorem dX4_armsFit_7 : decode cX4_armsFit 7 = .ok (.iconst 3, 1) := by decide +kernel
theorem dX4_armsFit_8 : decode cX4_armsFit 8 = .ok (.iload_n 1, 1) := by decide +kernel
theorem dX4_armsFit_9 : decode cX4_armsFit 9 = .ok (.imul, 1) := by decide +kernel
theorem dX4_armsFit_10 : decode cX4_armsFit 10 = .ok (.aload_n 0, 1) := by decide +kernel
theorem dX4_armsFit_11 : decode cX4_armsFit 11 = .ok (.getfield 37, 3) := by decide +kernel
theorem dX4_armsFit_14 : decode cX4_armsFit 14 = .ok (.iload_n 1, 1) := by decide +kernel
theorem dX4_armsFit_15 : decode cX4_armsFit 15 = .ok (.iaload, 1) := by decide +kernel
theorem dX4_armsFit_16 : decode cX4_armsFit 16 = .ok (.iadd, 1) := by decide +kernel
theorem dX4_armsFit_17 : decode cX4_armsFit 17 = .ok (.if_icmp .ge 46, 3) := by decide +kernel
theorem dX4_armsFit_20 : decode cX4_armsFit 20 = .ok (.aload_n 0, 1) := by decide +kernel
theorem dX4_armsFit_21 : decode cX4_armsFit 21 = .ok (.aload_n 0, 1) := by decide +kernel
theorem dX4_armsFit_22 : decode cX4_armsFit 22 = .ok (.getfield 18, 3) := by decide +kernel
theorem dX4_armsFit_25 : decode cX4_armsFit 25 = .ok (.aload_n 0, 1) := by decide +kernel
theorem dX4_armsFit_26 : decode cX4_armsFit 26 = .ok (.getfield 43, 3) := by decide +kernel
theorem dX4_armsFit_29 : decode cX4_armsFit 29 = .ok (.iload_n 3, 1) := by decide +kernel
theorem dX4_armsFit_30 : decode cX4_armsFit 30 = .ok (.iaload, 1) := by decide +kernel
theorem dX4_armsFit_31 : decode cX4_armsFit 31 = .ok (.iaload, 1) := by decide +kernel
theorem dX4_armsFit_32 : decode cX4_armsFit 32 = .ok (.aload_n 0, 1) := by decide +kernel
theorem dX4_armsFit_33 : decode cX4_armsFit 33 = .ok (.getfield 40, 3) := by decide +kernel
theorem dX4_armsFit_36 : decode cX4_armsFit 36 = .ok (.iload_n 3, 1) := by decide +kernel
theorem dX4_armsFit_37 : decode cX4_armsFit 37 = .ok (.iaload, 1) := by decide +kernel
theorem dX4_armsFit_38 : decode cX4_armsFit 38 = .ok (.invokevirtual 89, 3) := by decide +kernel
theorem dX4_armsFit_41 : decode cX4_armsFit 41 = .ok (.ifCond .ne 5, 3) := by decide +kernel
theorem dX4_armsFit_44 : decode cX4_armsFit 44 = .ok (.iconst 0, 1) := by decide +kernel
theorem dX4_armsFit_45 : decode cX4_armsFit 45 = .ok (.ireturn, 1) := by decide +kernel
theorem dX4_armsFit_46 : decode cX4_armsFit 46 = .ok (.iload_n 2, 1) := by decide +kernel
theorem dX4_armsFit_47 : decode cX4_armsFit 47 = .ok (.iconst 1, 1) := by decide +kernel
theorem dX4_armsFit_48 : decode cX4_armsFit 48 = .ok (.aload_n 0, 1) := by decide +kernel
theorem dX4_armsFit_49 : decode cX4_armsFit 49 = .ok (.getfield 40, 3) := by decide +kernel
theorem dX4_armsFit_52 : decode cX4_armsFit 52 = .ok (.iload_n 3, 1) := by decide +kernel
theorem dX4_armsFit_53 : decode cX4_armsFit 53 = .ok (.iaload, 1) := by decide +kernel
theorem dX4_armsFit_54 : decode cX4_armsFit 54 = .ok (.ishl, 1) := by decide +kernel
theorem dX4_armsFit_55 : decode cX4_armsFit 55 = .ok (.ior, 1) := by decide +kernel
theorem dX4_armsFit_56 : decode cX4_armsFit 56 = .ok (.istore_n 2, 1) := by decide +kernel
theorem dX4_armsFit_57 : decode cX4_armsFit 57 = .ok (.iinc 3 1, 3) := by decide +kernel
theorem dX4_armsFit_60 : decode cX4_armsFit 60 = .ok (.goto (-54), 3) := by decide +kernel
theorem dX4_armsFit_63 : decode cX4_armsFit 63 = .ok (.iload_n 2, 1) := by decide +kernel
theorem dX4_armsFit_64 : decode cX4_armsFit 64 = .ok (.aload_n 0, 1) := by decide +kernel
theorem dX4_armsFit_65 : decode cX4_armsFit 65 = .ok (.aload_n 0, 1) := by decide +kernel
theorem dX4_armsFit_66 : decode cX4_armsFit 66 = .ok (.getfield 18, 3) := by decide +kernel
theorem dX4_armsFit_69 : decode cX4_armsFit 69 = .ok (.iload_n 1, 1) := by decide +kernel
theorem dX4_armsFit_70 : decode cX4_armsFit 70 = .ok (.iaload, 1) := by decide +kernel
theorem dX4_armsFit_71 : decode cX4_armsFit 71 = .ok (.invokevirtual 108, 3) := by decide +kernel
theorem dX4_armsFit_74 : decode cX4_armsFit 74 = .ok (.if_icmp .ne 7, 3) := by decide +kernel
theorem dX4_armsFit_77 : decode cX4_armsFit 77 = .ok (.iconst 1, 1) := by decide +kernel
theorem dX4_armsFit_78 : decode cX4_armsFit 78 = .ok (.goto 4, 3) := by decide +kernel
theorem dX4_armsFit_81 : decode cX4_armsFit 81 = .ok (.iconst 0, 1) := by decide +kernel
theorem dX4_armsFit_82 : decode cX4_armsFit 82 = .ok (.ireturn, 1) := by decide +kernel
theorem dX4_comingTo_0 : decode cX4_comingTo 0 = .ok (.iconst 0, 1) := by decide +kernel
theorem dX4_comingTo_1 : decode cX4_comingTo 1 = .ok (.istore_n 2, 1) := by decide +kernel
theorem dX4_comingTo_2 : decode cX4_comingTo 2 = .ok (.iconst 0, 1) := by decide +kernel
theorem dX4_comingTo_3 : decode cX4_comingTo 3 = .ok (.istore_n 3, 1) := by decide +kernel
theorem dX4_comingTo_4 : decode cX4_comingTo 4 = .ok (.iload_n 3, 1) := by decide +kernel
theorem dX4_comingTo_5 : decode cX4_comingTo 5 = .ok (.iconst 2, 1) := by decide +kernel
theorem dX4_comingTo_6 : decode cX4_comingTo 6 = .ok (.aload_n 0, 1) := by decide +kernel
theorem dX4_comingTo_7 : decode cX4_comingTo 7 = .ok (.getfield 9, 3) := by decide +kernel
theorem dX4_comingTo_10 : decode cX4_comingTo 10 = .ok (.imul, 1) := by decide +kernel
theorem dX4_comingTo_11 : decode cX4_comingTo 11 = .ok (.if_icmp .ge 27, 3) := by decide +kernel
theorem dX4_comingTo_14 : decode cX4_comingTo 14 = .ok (.aload_n 0, 1) := by decide +kernel
theorem dX4_comingTo_15 : decode cX4_comingTo 15 = .ok (.getfield 58, 3) := by decide +kernel
theorem dX4_comingTo_18 : decode cX4_comingTo 18 = .ok (.iload_n 3, 1) := by decide +kernel
theorem dX4_comingTo_19 : decode cX4_comingTo 19 = .ok (.iaload, 1) := by decide +kernel
theorem dX4_comingTo_20 : decode cX4_comingTo 20 = .ok (.iload_n 1, 1) := by decide +kernel
theorem dX4_comingTo_21 : decode cX4_comingTo 21 = .ok (.if_icmp .ne 11, 3) := by decide +kernel
theorem dX4_comingTo_24 : decode cX4_comingTo 24 = .ok (.iload_n 2, 1) := by decide +kernel
theorem dX4_comingTo_25 : decode cX4_comingTo 25 = .ok (.iconst 1, 1) := by decide +kernel
theorem dX4_comingTo_26 : decode cX4_comingTo 26 = .ok (.iload_n 3, 1) := by decide +kernel
theorem dX4_comingTo_27 : decode cX4_comingTo 27 = .ok (.iconst 2, 1) := by decide +kernel
theorem dX4_comingTo_28 : decode cX4_comingTo 28 = .ok (.idiv, 1) := by decide +kernel
theorem dX4_comingTo_29 : decode cX4_comingTo 29 = .ok (.ishl, 1) := by decide +kernel
theorem dX4_comingTo_30 : decode cX4_comingTo 30 = .ok (.ior, 1) := by decide +kernel
theorem dX4_comingTo_31 : decode cX4_comingTo 31 = .ok (.istore_n 2, 1) := by decide +kernel
theorem dX4_comingTo_32 : decode cX4_comingTo 32 = .ok (.iinc 3 1, 3) := by decide +kernel
theorem dX4_comingTo_35 : decode cX4_comingTo 35 = .ok (.goto (-31), 3) := by decide +kernel
theorem dX4_comingTo_38 : decode cX4_comingTo 38 = .ok (.iload_n 2, 1) := by decide +kernel
theorem dX4_comingTo_39 : decode cX4_comingTo 39 = .ok (.ireturn, 1) := by decide +kernel
theorem dX5_isSign_0 : decode cX5_isSign 0 = .ok (.iload_n 0, 1) := by decide +kernel
theorem dX5_isSign_1 : decode cX5_isSign 1 = .ok (.lookupswitch 85 #[(37, 83), (38, 83), (42, 83), (43, 83), (45, 83), (47, 83), (60, 83), (61, 83), (94, 83)], 83) := by decide +kernel
theorem dX5_isSign_84 : decode cX5_isSign 84 = .ok (.iconst 1, 1) := by decide +kernel
theorem dX5_isSign_85 : decode cX5_isSign 85 = .ok (.ireturn, 1) := by decide +kernel
theorem dX5_isSign_86 : decode cX5_isSign 86 = .ok (.iconst 0, 1) := by decide +kernel
theorem dX5_isSign_87 : decode cX5_isSign 87 = .ok (.ireturn, 1) := by decide +kernel
theorem dX5_traps_0 : decode cX5_traps 0 = .ok (.iload_n 1, 1) := by decide +kernel
theorem dX5_traps_1 : decode cX5_traps 1 = .ok (.ifCond .ne 19, 3) := by decide +kernel
theorem dX5_traps_4 : decode cX5_traps 4 = .ok (.iload_n 0, 1) := by decide +kernel
theorem dX5_traps_5 : decode cX5_traps 5 = .ok (.bipush 47, 2) := by decide +kernel
theorem dX5_traps_7 : decode cX5_traps 7 = .ok (.if_icmp .eq 9, 3) := by decide +kernel
theorem dX5_traps_10 : decode cX5_traps 10 = .ok (.iload_n 0, 1) := by decide +kernel
theorem dX5_traps_11 : decode cX5_traps 11 = .ok (.bipush 37, 2) := by decide +kernel
theorem dX5_traps_13 : decode cX5_traps 13 = .ok (.if_icmp .ne 7, 3) := by decide +kernel
theorem dX5_traps_16 : decode cX5_traps 16 = .ok (.iconst 1, 1) := by decide +kernel
theorem dX5_traps_17 : decode cX5_traps 17 = .ok (.goto 4, 3) := by decide +kernel
theorem dX5_traps_20 : decode cX5_traps 20 = .ok (.iconst 0, 1) := by decide +kernel
theorem dX5_traps_21 : decode cX5_traps 21 = .ok (.ireturn, 1) := by decide +kernel
theorem dX5_result_0 : decode cX5_result 0 = .ok (.iload_n 0, 1) := by decide +kernel
theorem dX5_result_1 : decode cX5_result 1 = .ok (.lookupswitch 130 #[(37, 99), (38, 111), (42, 83), (43, 75), (45, 79), (47, 87), (60, 119), (94, 115)], 75) := by decide +kernel
theorem dX5_result_76 : decode cX5_result 76 = .ok (.iload_n 1, 1) := by decide +kernel
theorem dX5_result_77 : decode cX5_result 77 = .ok (.iload_n 2, 1) := by decide +kernel
theorem dX5_result_78 : decode cX5_result 78 = .ok (.iadd, 1) := by decide +kernel
theorem dX5_result_79 : decode cX5_result 79 = .ok (.ireturn, 1) := by decide +kernel
theorem dX5_result_80 : decode cX5_result 80 = .ok (.iload_n 1, 1) := by decide +kernel
theorem dX5_result_81 : decode cX5_result 81 = .ok (.iload_n 2, 1) := by decide +kernel
theorem dX5_result_82 : decode cX5_result 82 = .ok (.isub, 1) := by decide +kernel
theorem dX5_result_83 : decode cX5_result 83 = .ok (.ireturn, 1) := by decide +kernel
theorem dX5_result_84 : decode cX5_result 84 = .ok (.iload_n 1, 1) := by decide +kernel
theorem dX5_result_85 : decode cX5_result 85 = .ok (.iload_n 2, 1) := by decide +kernel
theorem dX5_result_86 : decode cX5_result 86 = .ok (.imul, 1) := by decide +kernel
theorem dX5_result_87 : decode cX5_result 87 = .ok (.ireturn, 1) := by decide +kernel
theorem dX5_result_88 : decode cX5_result 88 = .ok (.iload_n 2, 1) := by decide +kernel
theorem dX5_result_89 : decode cX5_result 89 = .ok (.ifCond .ne 7, 3) := by decide +kernel
theorem dX5_result_92 : decode cX5_result 92 = .ok (.iconst 0, 1) := by decide +kernel
theorem dX5_result_93 : decode cX5_result 93 = .ok (.goto 6, 3) := by decide +kernel
theorem dX5_result_96 : decode cX5_result 96 = .ok (.iload_n 1, 1) := by decide +kernel
theorem dX5_result_97 : decode cX5_result 97 = .ok (.iload_n 2, 1) := by decide +kernel
theorem dX5_result_98 : decode cX5_result 98 = .ok (.idiv, 1) := by decide +kernel
theorem dX5_result_99 : decode cX5_result 99 = .ok (.ireturn, 1) := by decide +kernel
theorem dX5_result_100 : decode cX5_result 100 = .ok (.iload_n 2, 1) := by decide +kernel
theorem dX5_result_101 : decode cX5_result 101 = .ok (.ifCond .ne 7, 3) := by decide +kernel
theorem dX5_result_104 : decode cX5_result 104 = .ok (.iconst 0, 1) := by decide +kernel
theorem dX5_result_105 : decode cX5_result 105 = .ok (.goto 6, 3) := by decide +kernel
theorem dX5_result_108 : decode cX5_result 108 = .ok (.iload_n 1, 1) := by decide +kernel
theorem dX5_result_109 : decode cX5_result 109 = .ok (.iload_n 2, 1) := by decide +kernel
theorem dX5_result_110 : decode cX5_result 110 = .ok (.irem, 1) := by decide +kernel
theorem dX5_result_111 : decode cX5_result 111 = .ok (.ireturn, 1) := by decide +kernel
theorem dX5_result_112 : decode cX5_result 112 = .ok (.iload_n 1, 1) := by decide +kernel
theorem dX5_result_113 : decode cX5_result 113 = .ok (.iload_n 2, 1) := by decide +kernel
theorem dX5_result_114 : decode cX5_result 114 = .ok (.iand, 1) := by decide +kernel
theorem dX5_result_115 : decode cX5_result 115 = .ok (.ireturn, 1) := by decide +kernel
theorem dX5_result_116 : decode cX5_result 116 = .ok (.iload_n 1, 1) := by decide +kernel
theorem dX5_result_117 : decode cX5_result 117 = .ok (.iload_n 2, 1) := by decide +kernel
theorem dX5_result_118 : decode cX5_result 118 = .ok (.ixor, 1) := by decide +kernel
theorem dX5_result_119 : decode cX5_result 119 = .ok (.ireturn, 1) := by decide +kernel
theorem dX5_result_120 : decode cX5_result 120 = .ok (.iload_n 1, 1) := by decide +kernel
theorem dX5_result_121 : decode cX5_result 121 = .ok (.iload_n 2, 1) := by decide +kernel
theorem dX5_result_122 : decode cX5_result 122 = .ok (.if_icmp .ge 7, 3) := by decide +kernel
theorem dX5_result_125 : decode cX5_result 125 = .ok (.iconst 1, 1) := by decide +kernel
theorem dX5_result_126 : decode cX5_result 126 = .ok (.goto 4, 3) := by decide +kernel
theorem dX5_result_129 : decode cX5_result 129 = .ok (.iconst 0, 1) := by decide +kernel
theorem dX5_result_130 : decode cX5_result 130 = .ok (.ireturn, 1) := by decide +kernel
theorem dX5_result_131 : decode cX5_result 131 = .ok (.iload_n 1, 1) := by decide +kernel
theorem dX5_result_132 : decode cX5_result 132 = .ok (.iload_n 2, 1) := by decide +kernel
theorem dX5_result_133 : decode cX5_result 133 = .ok (.if_icmp .ne 7, 3) := by decide +kernel
theorem dX5_result_136 : decode cX5_result 136 = .ok (.iconst 1, 1) := by decide +kernel
theorem dX5_result_137 : decode cX5_result 137 = .ok (.goto 4, 3) := by decide +kernel
theorem dX5_result_140 : decode cX5_result 140 = .ok (.iconst 0, 1) := by decide +kernel
theorem dX5_result_141 : decode cX5_result 141 = .ok (.ireturn, 1) := by decide +kernel
theorem dX5_side_0 : decode cX5_side 0 = .ok (.iload_n 0, 1) := by decide +kernel
theorem dX5_side_1 : decode cX5_side 1 = .ok (.ifCond .eq 7, 3) := by decide +kernel
theorem dX5_side_4 : decode cX5_side 4 = .ok (.iconst 0, 1) := by decide +kernel
theorem dX5_side_5 : decode cX5_side 5 = .ok (.goto 4, 3) := by decide +kernel
theorem dX5_side_8 : decode cX5_side 8 = .ok (.iconst 1, 1) := by decide +kernel
theorem dX5_side_9 : decode cX5_side 9 = .ok (.ireturn, 1) := by decide +kernel
theorem dX6_init_0 : decode cX6_init 0 = .ok (.aload_n 0, 1) := by decide +kernel
theorem dX6_init_1 : decode cX6_init 1 = .ok (.invokespecial 3, 3) := by decide +kernel
theorem dX6_init_4 : decode cX6_init 4 = .ok (.aload_n 0, 1) := by decide +kernel
theorem dX6_init_5 : decode cX6_init 5 = .ok (.sipush 150, 3) := by decide +kernel
theorem dX6_init_8 : decode cX6_init 8 = .ok (.newarray .int, 2) := by decide +kernel
theorem dX6_init_10 : decode cX6_init 10 = .ok (.putfield 9, 3) := by decide +kernel
theorem dX6_init_13 : decode cX6_init 13 = .ok (.aload_n 0, 1) := by decide +kernel
theorem dX6_init_14 : decode cX6_init 14 = .ok (.iconst 0, 1) := by decide +kernel
theorem dX6_init_15 : decode cX6_init 15 = .ok (.putfield 15, 3) := by decide +kernel
theorem dX6_init_18 : decode cX6_init 18 = .ok (.aload_n 0, 1) := by decide +kernel
theorem dX6_init_19 : decode cX6_init 19 = .ok (.iconst 0, 1) := by decide +kernel
theorem dX6_init_20 : decode cX6_init 20 = .ok (.putfield 19, 3) := by decide +kernel
theorem dX6_init_23 : decode cX6_init 23 = .ok (.aload_n 0, 1) := by decide +kernel
theorem dX6_init_24 : decode cX6_init 24 = .ok (.iconst 0, 1) := by decide +kernel
theorem dX6_init_25 : decode cX6_init 25 = .ok (.putfield 22, 3) := by decide +kernel
theorem dX6_init_28 : decode cX6_init 28 = .ok (.aload_n 0, 1) := by decide +kernel
theorem dX6_init_29 : decode cX6_init 29 = .ok (.iconst 0, 1) := by decide +kernel
theorem dX6_init_30 : decode cX6_init 30 = .ok (.putfield 25, 3) := by decide +kernel
theorem dX6_init_33 : decode cX6_init 33 = .ok (.aload_n 0, 1) := by decide +kernel
theorem dX6_init_34 : decode cX6_init 34 = .ok (.iconst 0, 1) := by decide +kernel
theorem dX6_init_35 : decode cX6_init 35 = .ok (.putfield 28, 3) := by decide +kernel
theorem dX6_init_38 : decode cX6_init 38 = .ok (.aload_n 0, 1) := by decide +kernel
theorem dX6_init_39 : decode cX6_init 39 = .ok (.iconst 0, 1) := by decide +kernel
theorem dX6_init_40 : decode cX6_init 40 = .ok (.putfield 31, 3) := by decide +kernel
theorem dX6_init_43 : decode cX6_init 43 = .ok (.return_, 1) := by decide +kernel
theorem dX6_rewind_0 : decode cX6_rewind 0 = .ok (.aload_n 0, 1) := by decide +kernel
theorem dX6_rewind_1 : decode cX6_rewind 1 = .ok (.iconst 0, 1) := by decide +kernel
theorem dX6_rewind_2 : decode cX6_rewind 2 = .ok (.putfield 31, 3) := by decide +kernel
theorem dX6_rewind_5 : decode cX6_rewind 5 = .ok (.aload_n 0, 1) := by decide +kernel
theorem dX6_rewind_6 : decode cX6_rewind 6 = .ok (.iconst 0, 1) := by decide +kernel
theorem dX6_rewind_7 : decode cX6_rewind 7 = .ok (.putfield 25, 3) := by decide +kernel
theorem dX6_rewind_10 : decode cX6_rewind 10 = .ok (.aload_n 0, 1) := by decide +kernel
theorem dX6_rewind_11 : decode cX6_rewind 11 = .ok (.invokevirtual 35, 3) := by decide +kernel
theorem dX6_rewind_14 : decode cX6_rewind 14 = .ok (.return_, 1) := by decide +kernel
theorem dX6_step_0 : decode cX6_step 0 = .ok (.aload_n 0, 1) := by decide +kernel
theorem dX6_step_1 : decode cX6_step 1 = .ok (.getfield 25, 3) := by decide +kernel
theorem dX6_step_4 : decode cX6_step 4 = .ok (.aload_n 0, 1) := by decide +kernel
theorem dX6_step_5 : decode cX6_step 5 = .ok (.getfield 15, 3) := by decide +kernel
theorem dX6_step_8 : decode cX6_step 8 = .ok (.if_icmp .ge 30, 3) := by decide +kernel
theorem dX6_step_11 : decode cX6_step 11 = .ok (.aload_n 0, 1) := by decide +kernel
theorem dX6_step_12 : decode cX6_step 12 = .ok (.getfield 9, 3) := by decide +kernel
theorem dX6_step_15 : decode cX6_step 15 = .ok (.aload_n 0, 1) := by decide +kernel
theorem dX6_step_16 : decode cX6_step 16 = .ok (.getfield 25, 3) := by decide +kernel
theorem dX6_step_19 : decode cX6_step 19 = .ok (.iaload, 1) := by decide +kernel
theorem dX6_step_20 : decode cX6_step 20 = .ok (.bipush 32, 2) := by decide +kernel
theorem dX6_step_22 : decode cX6_step 22 = .ok (.if_icmp .ne 16, 3) := by decide +kernel
theorem dX6_step_25 : decode cX6_step 25 = .ok (.aload_n 0, 1) := by decide +kernel
theorem dX6_step_26 : decode cX6_step 26 = .ok (.dup, 1) := by decide +kernel
theorem dX6_step_27 : decode cX6_step 27 = .ok (.getfield 25, 3) := by decide +kernel
theorem dX6_step_30 : decode cX6_step 30 = .ok (.iconst 1, 1) := by decide +kernel
theorem dX6_step_31 : decode cX6_step 31 = .ok (.iadd, 1) := by decide +kernel
theorem dX6_step_32 : decode cX6_step 32 = .ok (.putfield 25, 3) := by decide +kernel
theorem dX6_step_35 : decode cX6_step 35 = .ok (.goto (-35), 3) := by decide +kernel
theorem dX6_step_38 : decode cX6_step 38 = .ok (.aload_n 0, 1) := by decide +kernel
theorem dX6_step_39 : decode cX6_step 39 = .ok (.aload_n 0, 1) := by decide +kernel
theorem dX6_step_40 : decode cX6_step 40 = .ok (.getfield 25, 3) := by decide +kernel
theorem dX6_step_43 : decode cX6_step 43 = .ok (.putfield 22, 3) := by decide +kernel
theorem dX6_step_46 : decode cX6_step 46 = .ok (.aload_n 0, 1) := by decide +kernel
theorem dX6_step_47 : decode cX6_step 47 = .ok (.iconst 0, 1) := by decide +kernel
theorem dX6_step_48 : decode cX6_step 48 = .ok (.putfield 28, 3) := by decide +kernel
theorem dX6_step_51 : decode cX6_step 51 = .ok (.aload_n 0, 1) := by decide +kernel
theorem dX6_step_52 : decode cX6_step 52 = .ok (.getfield 22, 3) := by decide +kernel
theorem dX6_step_55 : decode cX6_step 55 = .ok (.aload_n 0, 1) := by decide +kernel
theorem dX6_step_56 : decode cX6_step 56 = .ok (.getfield 15, 3) := by decide +kernel
theorem dX6_step_59 : decode cX6_step 59 = .ok (.if_icmp .lt 9, 3) := by decide +kernel
theorem dX6_step_62 : decode cX6_step 62 = .ok (.aload_n 0, 1) := by decide +kernel
theorem dX6_step_63 : decode cX6_step 63 = .ok (.iconst 0, 1) := by decide +kernel
theorem dX6_step_64 : decode cX6_step 64 = .ok (.putfield 19, 3) := by decide +kernel
theorem dX6_step_67 : decode cX6_step 67 = .ok (.return_, 1) := by decide +kernel
theorem dX6_step_68 : decode cX6_step 68 = .ok (.aload_n 0, 1) := by decide +kernel
theorem dX6_step_69 : decode cX6_step 69 = .ok (.dup, 1) := by decide +kernel
theorem dX6_step_70 : decode cX6_step 70 = .ok (.getfield 25, 3) := by decide +kernel
theorem dX6_step_73 : decode cX6_step 73 = .ok (.iconst 1, 1) := by decide +kernel
theorem dX6_step_74 : decode cX6_step 74 = .ok (.iadd, 1) := by decide +kernel
theorem dX6_step_75 : decode cX6_step 75 = .ok (.putfield 25, 3) := by decide +kernel
theorem dX6_step_78 : decode cX6_step 78 = .ok (.aload_n 0, 1) := by decide +kernel
theorem dX6_step_79 : decode cX6_step 79 = .ok (.getfield 9, 3) := by decide +kernel
theorem dX6_step_82 : decode cX6_step 82 = .ok (.aload_n 0, 1) := by decide +kernel
theorem dX6_step_83 : decode cX6_step 83 = .ok (.getfield 22, 3) := by decide +kernel
theorem dX6_step_86 : decode cX6_step 86 = .ok (.iaload, 1) := by decide +kernel
theorem dX6_step_87 : decode cX6_step 87 = .ok (.istore_n 1, 1) := by decide +kernel
theorem dX6_step_88 : decode cX6_step 88 = .ok (.iload_n 1, 1) := by decide +kernel
theorem dX6_step_89 : decode cX6_step 89 = .ok (.bipush 97, 2) := by decide +kernel
theorem dX6_step_91 : decode cX6_step 91 = .ok (.if_icmp .lt 17, 3) := by decide +kernel
theorem dX6_step_94 : decode cX6_step 94 = .ok (.iload_n 1, 1) := by decide +kernel
theorem dX6_step_95 : decode cX6_step 95 = .ok (.bipush 122, 2) := by decide +kernel
theorem dX6_step_97 : decode cX6_step 97 = .ok (.if_icmp .gt 11, 3) := by decide +kernel
theorem dX6_step_100 : decode cX6_step 100 = .ok (.aload_n 0, 1) := by decide +kernel
theorem dX6_step_101 : decode cX6_step 101 = .ok (.iload_n 1, 1) := by decide +kernel
theorem dX6_step_102 : decode cX6_step 102 = .ok (.invokevirtual 38, 3) := by decide +kernel
theorem dX6_step_105 : decode cX6_step 105 = .ok (.goto 61, 3) := by decide +kernel
theorem dX6_step_108 : decode cX6_step 108 = .ok (.iload_n 1, 1) := by decide +kernel
theorem dX6_step_109 : decode cX6_step 109 = .ok (.bipush 48, 2) := by decide +kernel
theorem dX6_step_111 : decode cX6_step 111 = .ok (.if_icmp .lt 20, 3) := by decide +kernel
theorem dX6_step_114 : decode cX6_step 114 = .ok (.iload_n 1, 1) := by decide +kernel
theorem dX6_step_115 : decode cX6_step 115 = .ok (.bipush 57, 2) := by decide +kernel
theorem dX6_step_117 : decode cX6_step 117 = .ok (.if_icmp .gt 14, 3) := by decide +kernel
theorem dX6_step_120 : decode cX6_step 120 = .ok (.aload_n 0, 1) := by decide +kernel
theorem dX6_step_121 : decode cX6_step 121 = .ok (.iload_n 1, 1) := by decide +kernel
theorem dX6_step_122 : decode cX6_step 122 = .ok (.bipush 48, 2) := by decide +kernel
theorem dX6_step_124 : decode cX6_step 124 = .ok (.isub, 1) := by decide +kernel
theorem dX6_step_125 : decode cX6_step 125 = .ok (.invokevirtual 42, 3) := by decide +kernel
theorem dX6_step_128 : decode cX6_step 128 = .ok (.goto 38, 3) := by decide +kernel
theorem dX6_step_131 : decode cX6_step 131 = .ok (.iload_n 1, 1) := by decide +kernel
theorem dX6_step_132 : decode cX6_step 132 = .ok (.invokestatic 45, 3) := by decide +kernel
theorem dX6_step_135 : decode cX6_step 135 = .ok (.ifCond .eq 16, 3) := by decide +kernel
theorem dX6_step_138 : decode cX6_step 138 = .ok (.aload_n 0, 1) := by decide +kernel
theorem dX6_step_139 : decode cX6_step 139 = .ok (.iconst 3, 1) := by decide +kernel
theorem dX6_step_140 : decode cX6_step 140 = .ok (.putfield 19, 3) := by decide +kernel
theorem dX6_step_143 : decode cX6_step 143 = .ok (.aload_n 0, 1) := by decide +kernel
theorem dX6_step_144 : decode cX6_step 144 = .ok (.iload_n 1, 1) := by decide +kernel
theorem dX6_step_145 : decode cX6_step 145 = .ok (.putfield 28, 3) := by decide +kernel
theorem dX6_step_148 : decode cX6_step 148 = .ok (.goto 18, 3) := by decide +kernel
theorem dX6_step_151 : decode cX6_step 151 = .ok (.aload_n 0, 1) := by decide +kernel
theorem dX6_step_152 : decode cX6_step 152 = .ok (.iload_n 1, 1) := by decide +kernel
theorem dX6_step_153 : decode cX6_step 153 = .ok (.bipush 59, 2) := by decide +kernel
theorem dX6_step_155 : decode cX6_step 155 = .ok (.if_icmp .ne 7, 3) := by decide +kernel
theorem dX6_step_158 : decode cX6_step 158 = .ok (.iconst 4, 1) := by decide +kernel
theorem dX6_step_159 : decode cX6_step 159 = .ok (.goto 4, 3) := by decide +kernel
theorem dX6_step_162 : decode cX6_step 162 = .ok (.iconst 5, 1) := by decide +kernel
theorem dX6_step_163 : decode cX6_step 163 = .ok (.putfield 19, 3) := by decide +kernel
theorem dX6_step_166 : decode cX6_step 166 = .ok (.return_, 1) := by decide +kernel
theorem dX6_readLetters_0 : decode cX6_readLetters 0 = .ok (.aload_n 0, 1) := by decide +kernel
theorem dX6_readLetters_1 : decode cX6_readLetters 1 = .ok (.iconst 1, 1) := by decide +kernel
theorem dX6_readLetters_2 : decode cX6_readLetters 2 = .ok (.putfield 19, 3) := by decide +kernel
theorem dX6_readLetters_5 : decode cX6_readLetters 5 = .ok (.aload_n 0, 1) := by decide +kernel
theorem dX6_readLetters_6 : decode cX6_readLetters 6 = .ok (.iload_n 1, 1) := by decide +kernel
theorem dX6_readLetters_7 : decode cX6_readLetters 7 = .ok (.putfield 28, 3) := by decide +kernel
theorem dX6_readLetters_10 : decode cX6_readLetters 10 = .ok (.aload_n 0, 1) := by decide +kernel
theorem dX6_readLetters_11 : decode cX6_readLetters 11 = .ok (.getfield 25, 3) := by decide +kernel
theorem dX6_readLetters_14 : decode cX6_readLetters 14 = .ok (.aload_n 0, 1) := by decide +kernel
theorem dX6_readLetters_15 : decode cX6_readLetters 15 = .ok (.getfield 15, 3) := by decide +kernel
theorem dX6_readLetters_18 : decode cX6_readLetters 18 = .ok (.if_icmp .ge 49, 3) := by decide +kernel
theorem dX6_readLetters_21 : decode cX6_readLetters 21 = .ok (.aload_n 0, 1) := by decide +kernel
theorem dX6_readLetters_22 : decode cX6_readLetters 22 = .ok (.getfield 9, 3) := by decide +kernel
theorem dX6_readLetters_25 : decode cX6_readLetters 25 = .ok (.aload_n 0, 1) := by decide +kernel
theorem dX6_readLetters_26 : decode cX6_readLetters 26 = .ok (.getfield 25, 3) := by decide +kernel
theorem dX6_readLetters_29 : decode cX6_readLetters 29 = .ok (.iaload, 1) := by decide +kernel
theorem dX6_readLetters_30 : decode cX6_readLetters 30 = .ok (.bipush 97, 2) := by decide +kernel
theorem dX6_readLetters_32 : decode cX6_readLetters 32 = .ok (.if_icmp .lt 35, 3) := by decide +kernel
theorem dX6_readLetters_35 : decode cX6_readLetters 35 = .ok (.aload_n 0, 1) := by decide +kernel
theorem dX6_readLetters_36 : decode cX6_readLetters 36 = .ok (.getfield 9, 3) := by decide +kernel
theorem dX6_readLetters_39 : decode cX6_readLetters 39 = .ok (.aload_n 0, 1) := by decide +kernel
theorem dX6_readLetters_40 : decode cX6_readLetters 40 = .ok (.getfield 25, 3) := by decide +kernel
theorem dX6_readLetters_43 : decode cX6_readLetters 43 = .ok (.iaload, 1) := by decide +kernel
theorem dX6_readLetters_44 : decode cX6_readLetters 44 = .ok (.bipush 122, 2) := by decide +kernel
theorem dX6_readLetters_46 : decode cX6_readLetters 46 = .ok (.if_icmp .gt 21, 3) := by decide +kernel
theorem dX6_readLetters_49 : decode cX6_readLetters 49 = .ok (.aload_n 0, 1) := by decide +kernel
theorem dX6_readLetters_50 : decode cX6_readLetters 50 = .ok (.iconst 0, 1) := by decide +kernel
theorem dX6_readLetters_51 : decode cX6_readLetters 51 = .ok (.putfield 28, 3) := by decide +kernel
theorem dX6_readLetters_54 : decode cX6_readLetters 54 = .ok (.aload_n 0, 1) := by decide +kernel
theorem dX6_readLetters_55 : decode cX6_readLetters 55 = .ok (.dup, 1) := by decide +kernel
theorem dX6_readLetters_56 : decode cX6_readLetters 56 = .ok (.getfield 25, 3) := by decide +kernel
theorem dX6_readLetters_59 : decode cX6_readLetters 59 = .ok (.iconst 1, 1) := by decide +kernel
theorem dX6_readLetters_60 : decode cX6_readLetters 60 = .ok (.iadd, 1) := by decide +kernel
theorem dX6_readLetters_61 : decode cX6_readLetters 61 = .ok (.putfield 25, 3) := by decide +kernel
theorem dX6_readLetters_64 : decode cX6_readLetters 64 = .ok (.goto (-54), 3) := by decide +kernel
theorem dX6_readLetters_67 : decode cX6_readLetters 67 = .ok (.return_, 1) := by decide +kernel
theorem dX6_readNumeral_0 : decode cX6_readNumeral 0 = .ok (.aload_n 0, 1) := by decide +kernel
theorem dX6_readNumeral_1 : decode cX6_readNumeral 1 = .ok (.iconst 2, 1) := by decide +kernel
theorem dX6_readNumeral_2 : decode cX6_readNumeral 2 = .ok (.putfield 19, 3) := by decide +kernel
theorem dX6_readNumeral_5 : decode cX6_readNumeral 5 = .ok (.aload_n 0, 1) := by decide +kernel
theorem dX6_readNumeral_6 : decode cX6_readNumeral 6 = .ok (.iload_n 1, 1) := by decide +kernel
theorem dX6_readNumeral_7 : decode cX6_readNumeral 7 = .ok (.putfield 28, 3) := by decide +kernel
theorem dX6_readNumeral_10 : decode cX6_readNumeral 10 = .ok (.aload_n 0, 1) := by decide +kernel
theorem dX6_readNumeral_11 : decode cX6_readNumeral 11 = .ok (.getfield 25, 3) := by decide +kernel
theorem dX6_readNumeral_14 : decode cX6_readNumeral 14 = .ok (.aload_n 0, 1) := by decide +kernel
theorem dX6_readNumeral_15 : decode cX6_readNumeral 15 = .ok (.getfield 15, 3) := by decide +kernel
theorem dX6_readNumeral_18 : decode cX6_readNumeral 18 = .ok (.if_icmp .ge 90, 3) := by decide +kernel
theorem dX6_readNumeral_21 : decode cX6_readNumeral 21 = .ok (.aload_n 0, 1) := by decide +kernel
theorem dX6_readNumeral_22 : decode cX6_readNumeral 22 = .ok (.getfield 9, 3) := by decide +kernel
theorem dX6_readNumeral_25 : decode cX6_readNumeral 25 = .ok (.aload_n 0, 1) := by decide +kernel
theorem dX6_readNumeral_26 : decode cX6_readNumeral 26 = .ok (.getfield 25, 3) := by decide +kernel
theorem dX6_readNumeral_29 : decode cX6_readNumeral 29 = .ok (.iaload, 1) := by decide +kernel
theorem dX6_readNumeral_30 : decode cX6_readNumeral 30 = .ok (.bipush 48, 2) := by decide +kernel
theorem dX6_readNumeral_32 : decode cX6_readNumeral 32 = .ok (.if_icmp .lt 76, 3) := by decide +kernel
theorem dX6_readNumeral_35 : decode cX6_readNumeral 35 = .ok (.aload_n 0, 1) := by decide +kernel
theorem dX6_readNumeral_36 : decode cX6_readNumeral 36 = .ok (.getfield 9, 3) := by decide +kernel
theorem dX6_readNumeral_39 : decode cX6_readNumeral 39 = .ok (.aload_n 0, 1) := by decide +kernel
theorem dX6_readNumeral_40 : decode cX6_readNumeral 40 = .ok (.getfield 25, 3) := by decide +kernel
theorem dX6_readNumeral_43 : decode cX6_readNumeral 43 = .ok (.iaload, 1) := by decide +kernel
theorem dX6_readNumeral_44 : decode cX6_readNumeral 44 = .ok (.bipush 57, 2) := by decide +kernel
theorem dX6_readNumeral_46 : decode cX6_readNumeral 46 = .ok (.if_icmp .gt 62, 3) := by decide +kernel
theorem dX6_readNumeral_49 : decode cX6_readNumeral 49 = .ok (.aload_n 0, 1) := by decide +kernel
theorem dX6_readNumeral_50 : decode cX6_readNumeral 50 = .ok (.getfield 28, 3) := by decide +kernel
theorem dX6_readNumeral_53 : decode cX6_readNumeral 53 = .ok (.ifCond .ne 8, 3) := by decide +kernel
theorem dX6_readNumeral_56 : decode cX6_readNumeral 56 = .ok (.aload_n 0, 1) := by decide +kernel
theorem dX6_readNumeral_57 : decode cX6_readNumeral 57 = .ok (.iconst 5, 1) := by decide +kernel
theorem dX6_readNumeral_58 : decode cX6_readNumeral 58 = .ok (.putfield 19, 3) := by decide +kernel
theorem dX6_readNumeral_61 : decode cX6_readNumeral 61 = .ok (.aload_n 0, 1) := by decide +kernel
theorem dX6_readNumeral_62 : decode cX6_readNumeral 62 = .ok (.getfield 28, 3) := by decide +kernel
theorem dX6_readNumeral_65 : decode cX6_readNumeral 65 = .ok (.sipush 999, 3) := by decide +kernel
theorem dX6_readNumeral_68 : decode cX6_readNumeral 68 = .ok (.if_icmp .gt 27, 3) := by decide +kernel
theorem dX6_readNumeral_71 : decode cX6_readNumeral 71 = .ok (.aload_n 0, 1) := by decide +kernel
theorem dX6_readNumeral_72 : decode cX6_readNumeral 72 = .ok (.bipush 10, 2) := by decide +kernel
theorem dX6_readNumeral_74 : decode cX6_readNumeral 74 = .ok (.aload_n 0, 1) := by decide +kernel
theorem dX6_readNumeral_75 : decode cX6_readNumeral 75 = .ok (.getfield 28, 3) := by decide +kernel
theorem dX6_readNumeral_78 : decode cX6_readNumeral 78 = .ok (.imul, 1) := by decide +kernel
theorem dX6_readNumeral_79 : decode cX6_readNumeral 79 = .ok (.aload_n 0, 1) := by decide +kernel
theorem dX6_readNumeral_80 : decode cX6_readNumeral 80 = .ok (.getfield 9, 3) := by decide +kernel
theorem dX6_readNumeral_83 : decode cX6_readNumeral 83 = .ok (.aload_n 0, 1) := by decide +kernel
theorem dX6_readNumeral_84 : decode cX6_readNumeral 84 = .ok (.getfield 25, 3) := by decide +kernel
theorem dX6_readNumeral_87 : decode cX6_readNumeral 87 = .ok (.iaload, 1) := by decide +kernel
theorem dX6_readNumeral_88 : decode cX6_readNumeral 88 = .ok (.iadd, 1) := by decide +kernel
