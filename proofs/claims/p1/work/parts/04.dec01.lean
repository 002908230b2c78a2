theorem d_Checker_checkEnd_40 : decode b_Checker_checkEnd 40 = .ok (.istore 5, 2) := by decide +kernel
theorem d_Checker_checkEnd_42 : decode b_Checker_checkEnd 42 = .ok (.aload_n 0, 1) := by decide +kernel
theorem d_Checker_checkEnd_43 : decode b_Checker_checkEnd 43 = .ok (.iload 5, 2) := by decide +kernel
theorem d_Checker_checkEnd_45 : decode b_Checker_checkEnd 45 = .ok (.invokevirtual 64, 3) := by decide +kernel
theorem d_Checker_checkEnd_48 : decode b_Checker_checkEnd 48 = .ok (.aload_n 0, 1) := by decide +kernel
theorem d_Checker_checkEnd_49 : decode b_Checker_checkEnd 49 = .ok (.invokevirtual 94, 3) := by decide +kernel
theorem d_Checker_checkEnd_52 : decode b_Checker_checkEnd 52 = .ok (.aload_n 0, 1) := by decide +kernel
theorem d_Checker_checkEnd_53 : decode b_Checker_checkEnd 53 = .ok (.dup, 1) := by decide +kernel
theorem d_Checker_checkEnd_54 : decode b_Checker_checkEnd 54 = .ok (.getfield 42, 3) := by decide +kernel
theorem d_Checker_checkEnd_57 : decode b_Checker_checkEnd 57 = .ok (.iconst 1, 1) := by decide +kernel
theorem d_Checker_checkEnd_58 : decode b_Checker_checkEnd 58 = .ok (.isub, 1) := by decide +kernel
theorem d_Checker_checkEnd_59 : decode b_Checker_checkEnd 59 = .ok (.putfield 42, 3) := by decide +kernel
theorem d_Checker_checkEnd_62 : decode b_Checker_checkEnd 62 = .ok (.iload_n 3, 1) := by decide +kernel
theorem d_Checker_checkEnd_63 : decode b_Checker_checkEnd 63 = .ok (.bipush (-3), 2) := by decide +kernel
theorem d_Checker_checkEnd_65 : decode b_Checker_checkEnd 65 = .ok (.if_icmp .ne 16, 3) := by decide +kernel
theorem d_Checker_checkEnd_81 : decode b_Checker_checkEnd 81 = .ok (.aload_n 0, 1) := by decide +kernel
theorem d_Checker_checkEnd_82 : decode b_Checker_checkEnd 82 = .ok (.getfield 22, 3) := by decide +kernel
theorem d_Checker_checkEnd_85 : decode b_Checker_checkEnd 85 = .ok (.getfield 55, 3) := by decide +kernel
theorem d_Checker_checkEnd_88 : decode b_Checker_checkEnd 88 = .ok (.iload_n 3, 1) := by decide +kernel
theorem d_Checker_checkEnd_89 : decode b_Checker_checkEnd 89 = .ok (.iaload, 1) := by decide +kernel
theorem d_Checker_checkEnd_90 : decode b_Checker_checkEnd 90 = .ok (.iconst 3, 1) := by decide +kernel
theorem d_Checker_checkEnd_91 : decode b_Checker_checkEnd 91 = .ok (.if_icmp .ne 28, 3) := by decide +kernel
theorem d_Checker_checkEnd_94 : decode b_Checker_checkEnd 94 = .ok (.iload 5, 2) := by decide +kernel
theorem d_Checker_checkEnd_96 : decode b_Checker_checkEnd 96 = .ok (.iconst 1, 1) := by decide +kernel
theorem d_Checker_checkEnd_97 : decode b_Checker_checkEnd 97 = .ok (.if_icmp .ne 22, 3) := by decide +kernel
theorem d_Checker_checkEnd_100 : decode b_Checker_checkEnd 100 = .ok (.aload_n 0, 1) := by decide +kernel
theorem d_Checker_checkEnd_101 : decode b_Checker_checkEnd 101 = .ok (.getfield 22, 3) := by decide +kernel
theorem d_Checker_checkEnd_104 : decode b_Checker_checkEnd 104 = .ok (.getfield 102, 3) := by decide +kernel
theorem d_Checker_checkEnd_107 : decode b_Checker_checkEnd 107 = .ok (.iload_n 3, 1) := by decide +kernel
theorem d_Checker_checkEnd_108 : decode b_Checker_checkEnd 108 = .ok (.iaload, 1) := by decide +kernel
theorem d_Checker_checkEnd_109 : decode b_Checker_checkEnd 109 = .ok (.bipush (-3), 2) := by decide +kernel
theorem d_Checker_checkEnd_111 : decode b_Checker_checkEnd 111 = .ok (.if_icmp .ne 8, 3) := by decide +kernel
theorem d_Checker_checkEnd_114 : decode b_Checker_checkEnd 114 = .ok (.aload_n 0, 1) := by decide +kernel
theorem d_Checker_checkEnd_115 : decode b_Checker_checkEnd 115 = .ok (.iconst 1, 1) := by decide +kernel
theorem d_Checker_checkEnd_116 : decode b_Checker_checkEnd 116 = .ok (.putfield 26, 3) := by decide +kernel
theorem d_Checker_checkEnd_68 : decode b_Checker_checkEnd 68 = .ok (.aload_n 0, 1) := by decide +kernel
theorem d_Checker_checkEnd_69 : decode b_Checker_checkEnd 69 = .ok (.getfield 22, 3) := by decide +kernel
theorem d_Checker_checkEnd_72 : decode b_Checker_checkEnd 72 = .ok (.iload_n 1, 1) := by decide +kernel
theorem d_Checker_checkEnd_73 : decode b_Checker_checkEnd 73 = .ok (.iconst (-1), 1) := by decide +kernel
theorem d_Checker_checkEnd_74 : decode b_Checker_checkEnd 74 = .ok (.iconst 0, 1) := by decide +kernel
theorem d_Checker_checkEnd_75 : decode b_Checker_checkEnd 75 = .ok (.iload 5, 2) := by decide +kernel
theorem d_Checker_checkEnd_77 : decode b_Checker_checkEnd 77 = .ok (.invokevirtual 71, 3) := by decide +kernel
theorem d_Checker_checkEnd_80 : decode b_Checker_checkEnd 80 = .ok (.return_, 1) := by decide +kernel
theorem d_Checker_checkEnd_0 : decode b_Checker_checkEnd 0 = .ok (.aload_n 0, 1) := by decide +kernel
theorem d_Checker_checkEnd_1 : decode b_Checker_checkEnd 1 = .ok (.getfield 9, 3) := by decide +kernel
theorem d_Checker_checkEnd_4 : decode b_Checker_checkEnd 4 = .ok (.aload_n 0, 1) := by decide +kernel
theorem d_Checker_checkEnd_5 : decode b_Checker_checkEnd 5 = .ok (.getfield 42, 3) := by decide +kernel
theorem d_Checker_checkEnd_8 : decode b_Checker_checkEnd 8 = .ok (.iaload, 1) := by decide +kernel
theorem d_Checker_checkEnd_9 : decode b_Checker_checkEnd 9 = .ok (.istore_n 3, 1) := by decide +kernel
theorem d_Checker_checkEnd_10 : decode b_Checker_checkEnd 10 = .ok (.aload_n 0, 1) := by decide +kernel
theorem d_Checker_checkEnd_11 : decode b_Checker_checkEnd 11 = .ok (.getfield 15, 3) := by decide +kernel
theorem d_Checker_checkEnd_14 : decode b_Checker_checkEnd 14 = .ok (.aload_n 0, 1) := by decide +kernel
theorem d_Checker_checkEnd_15 : decode b_Checker_checkEnd 15 = .ok (.getfield 42, 3) := by decide +kernel
theorem d_Checker_checkEnd_18 : decode b_Checker_checkEnd 18 = .ok (.iaload, 1) := by decide +kernel
theorem d_Checker_checkEnd_19 : decode b_Checker_checkEnd 19 = .ok (.istore 4, 2) := by decide +kernel
theorem d_Checker_checkEnd_21 : decode b_Checker_checkEnd 21 = .ok (.iload_n 3, 1) := by decide +kernel
theorem d_Checker_checkEnd_22 : decode b_Checker_checkEnd 22 = .ok (.bipush (-3), 2) := by decide +kernel
theorem d_Checker_checkEnd_24 : decode b_Checker_checkEnd 24 = .ok (.if_icmp .ne 7, 3) := by decide +kernel
theorem d_Checker_checkEnd_31 : decode b_Checker_checkEnd 31 = .ok (.aload_n 0, 1) := by decide +kernel
theorem d_Checker_checkEnd_32 : decode b_Checker_checkEnd 32 = .ok (.getfield 22, 3) := by decide +kernel
theorem d_Checker_checkEnd_35 : decode b_Checker_checkEnd 35 = .ok (.getfield 85, 3) := by decide +kernel
theorem d_Checker_checkEnd_38 : decode b_Checker_checkEnd 38 = .ok (.iload_n 3, 1) := by decide +kernel
theorem d_Checker_checkEnd_39 : decode b_Checker_checkEnd 39 = .ok (.iaload, 1) := by decide +kernel
theorem d_Checker_checkEnd_27 : decode b_Checker_checkEnd 27 = .ok (.iload_n 2, 1) := by decide +kernel
theorem d_Checker_checkEnd_28 : decode b_Checker_checkEnd 28 = .ok (.goto 12, 3) := by decide +kernel
theorem d_Checker_checkElse_0 : decode b_Checker_checkElse 0 = .ok (.aload_n 0, 1) := by decide +kernel
theorem d_Checker_checkElse_1 : decode b_Checker_checkElse 1 = .ok (.getfield 9, 3) := by decide +kernel
theorem d_Checker_checkElse_4 : decode b_Checker_checkElse 4 = .ok (.aload_n 0, 1) := by decide +kernel
theorem d_Checker_checkElse_5 : decode b_Checker_checkElse 5 = .ok (.getfield 42, 3) := by decide +kernel
theorem d_Checker_checkElse_8 : decode b_Checker_checkElse 8 = .ok (.iaload, 1) := by decide +kernel
theorem d_Checker_checkElse_9 : decode b_Checker_checkElse 9 = .ok (.istore_n 2, 1) := by decide +kernel
theorem d_Checker_checkElse_10 : decode b_Checker_checkElse 10 = .ok (.aload_n 0, 1) := by decide +kernel
theorem d_Checker_checkElse_11 : decode b_Checker_checkElse 11 = .ok (.getfield 22, 3) := by decide +kernel
theorem d_Checker_checkElse_14 : decode b_Checker_checkElse 14 = .ok (.getfield 85, 3) := by decide +kernel
theorem d_Checker_checkElse_17 : decode b_Checker_checkElse 17 = .ok (.iload_n 2, 1) := by decide +kernel
theorem d_Checker_checkElse_18 : decode b_Checker_checkElse 18 = .ok (.iaload, 1) := by decide +kernel
theorem d_Checker_checkElse_19 : decode b_Checker_checkElse 19 = .ok (.istore_n 3, 1) := by decide +kernel
theorem d_Checker_checkElse_20 : decode b_Checker_checkElse 20 = .ok (.aload_n 0, 1) := by decide +kernel
theorem d_Checker_checkElse_21 : decode b_Checker_checkElse 21 = .ok (.iload_n 3, 1) := by decide +kernel
theorem d_Checker_checkElse_22 : decode b_Checker_checkElse 22 = .ok (.invokevirtual 64, 3) := by decide +kernel
theorem d_Checker_checkElse_25 : decode b_Checker_checkElse 25 = .ok (.aload_n 0, 1) := by decide +kernel
theorem d_Checker_checkElse_26 : decode b_Checker_checkElse 26 = .ok (.invokevirtual 94, 3) := by decide +kernel
theorem d_Checker_checkElse_29 : decode b_Checker_checkElse 29 = .ok (.aload_n 0, 1) := by decide +kernel
theorem d_Checker_checkElse_30 : decode b_Checker_checkElse 30 = .ok (.getfield 18, 3) := by decide +kernel
theorem d_Checker_checkElse_33 : decode b_Checker_checkElse 33 = .ok (.aload_n 0, 1) := by decide +kernel
theorem d_Checker_checkElse_34 : decode b_Checker_checkElse 34 = .ok (.getfield 42, 3) := by decide +kernel
theorem d_Checker_checkElse_37 : decode b_Checker_checkElse 37 = .ok (.iconst 1, 1) := by decide +kernel
theorem d_Checker_checkElse_38 : decode b_Checker_checkElse 38 = .ok (.bastore, 1) := by decide +kernel
theorem d_Checker_checkElse_39 : decode b_Checker_checkElse 39 = .ok (.aload_n 0, 1) := by decide +kernel
theorem d_Checker_checkElse_40 : decode b_Checker_checkElse 40 = .ok (.getfield 22, 3) := by decide +kernel
theorem d_Checker_checkElse_43 : decode b_Checker_checkElse 43 = .ok (.iload_n 1, 1) := by decide +kernel
theorem d_Checker_checkElse_44 : decode b_Checker_checkElse 44 = .ok (.aload_n 0, 1) := by decide +kernel
theorem d_Checker_checkElse_45 : decode b_Checker_checkElse 45 = .ok (.getfield 22, 3) := by decide +kernel
theorem d_Checker_checkElse_48 : decode b_Checker_checkElse 48 = .ok (.getfield 97, 3) := by decide +kernel
theorem d_Checker_checkElse_51 : decode b_Checker_checkElse 51 = .ok (.iload_n 2, 1) := by decide +kernel
theorem d_Checker_checkElse_52 : decode b_Checker_checkElse 52 = .ok (.iaload, 1) := by decide +kernel
theorem d_Checker_checkElse_53 : decode b_Checker_checkElse 53 = .ok (.iconst 1, 1) := by decide +kernel
theorem d_Checker_checkElse_54 : decode b_Checker_checkElse 54 = .ok (.iadd, 1) := by decide +kernel
theorem d_Checker_checkElse_55 : decode b_Checker_checkElse 55 = .ok (.aload_n 0, 1) := by decide +kernel
theorem d_Checker_checkElse_56 : decode b_Checker_checkElse 56 = .ok (.getfield 15, 3) := by decide +kernel
theorem d_Checker_checkElse_59 : decode b_Checker_checkElse 59 = .ok (.aload_n 0, 1) := by decide +kernel
theorem d_Checker_checkElse_60 : decode b_Checker_checkElse 60 = .ok (.getfield 42, 3) := by decide +kernel
theorem d_Checker_checkElse_63 : decode b_Checker_checkElse 63 = .ok (.iaload, 1) := by decide +kernel
theorem d_Checker_checkElse_64 : decode b_Checker_checkElse 64 = .ok (.iload_n 3, 1) := by decide +kernel
theorem d_Checker_checkElse_65 : decode b_Checker_checkElse 65 = .ok (.invokevirtual 71, 3) := by decide +kernel
theorem d_Checker_checkElse_68 : decode b_Checker_checkElse 68 = .ok (.return_, 1) := by decide +kernel
theorem d_Checker_open_0 : decode b_Checker_open 0 = .ok (.aload_n 0, 1) := by decide +kernel
theorem d_Checker_open_1 : decode b_Checker_open 1 = .ok (.dup, 1) := by decide +kernel
theorem d_Checker_open_2 : decode b_Checker_open 2 = .ok (.getfield 42, 3) := by decide +kernel
theorem d_Checker_open_5 : decode b_Checker_open 5 = .ok (.iconst 1, 1) := by decide +kernel
theorem d_Checker_open_6 : decode b_Checker_open 6 = .ok (.iadd, 1) := by decide +kernel
theorem d_Checker_open_7 : decode b_Checker_open 7 = .ok (.putfield 42, 3) := by decide +kernel
theorem d_Checker_open_10 : decode b_Checker_open 10 = .ok (.aload_n 0, 1) := by decide +kernel
theorem d_Checker_open_11 : decode b_Checker_open 11 = .ok (.getfield 9, 3) := by decide +kernel
theorem d_Checker_open_14 : decode b_Checker_open 14 = .ok (.aload_n 0, 1) := by decide +kernel
theorem d_Checker_open_15 : decode b_Checker_open 15 = .ok (.getfield 42, 3) := by decide +kernel
theorem d_Checker_open_18 : decode b_Checker_open 18 = .ok (.iload_n 1, 1) := by decide +kernel
theorem d_Checker_open_19 : decode b_Checker_open 19 = .ok (.iastore, 1) := by decide +kernel
theorem d_Checker_open_20 : decode b_Checker_open 20 = .ok (.aload_n 0, 1) := by decide +kernel
theorem d_Checker_open_21 : decode b_Checker_open 21 = .ok (.getfield 15, 3) := by decide +kernel
theorem d_Checker_open_24 : decode b_Checker_open 24 = .ok (.aload_n 0, 1) := by decide +kernel
theorem d_Checker_open_25 : decode b_Checker_open 25 = .ok (.getfield 42, 3) := by decide +kernel
theorem d_Checker_open_28 : decode b_Checker_open 28 = .ok (.aload_n 0, 1) := by decide +kernel
theorem d_Checker_open_29 : decode b_Checker_open 29 = .ok (.getfield 45, 3) := by decide +kernel
theorem d_Checker_open_32 : decode b_Checker_open 32 = .ok (.iastore, 1) := by decide +kernel
theorem d_Checker_open_33 : decode b_Checker_open 33 = .ok (.aload_n 0, 1) := by decide +kernel
theorem d_Checker_open_34 : decode b_Checker_open 34 = .ok (.getfield 18, 3) := by decide +kernel
theorem d_Checker_open_37 : decode b_Checker_open 37 = .ok (.aload_n 0, 1) := by decide +kernel
theorem d_Checker_open_38 : decode b_Checker_open 38 = .ok (.getfield 42, 3) := by decide +kernel
theorem d_Checker_open_41 : decode b_Checker_open 41 = .ok (.iconst 1, 1) := by decide +kernel
theorem d_Checker_open_42 : decode b_Checker_open 42 = .ok (.bastore, 1) := by decide +kernel
theorem d_Checker_open_43 : decode b_Checker_open 43 = .ok (.return_, 1) := by decide +kernel
theorem d_Program_otherwise_0 : decode b_Program_otherwise 0 = .ok (.aload_n 0, 1) := by decide +kernel
theorem d_Program_otherwise_1 : decode b_Program_otherwise 1 = .ok (.getfield 24, 3) := by decide +kernel
theorem d_Program_otherwise_4 : decode b_Program_otherwise 4 = .ok (.iload_n 1, 1) := by decide +kernel
theorem d_Program_otherwise_5 : decode b_Program_otherwise 5 = .ok (.iaload, 1) := by decide +kernel
theorem d_Program_otherwise_6 : decode b_Program_otherwise 6 = .ok (.bipush (-3), 2) := by decide +kernel
theorem d_Program_otherwise_8 : decode b_Program_otherwise 8 = .ok (.if_icmp .ne 12, 3) := by decide +kernel
theorem d_Program_otherwise_20 : decode b_Program_otherwise 20 = .ok (.aload_n 0, 1) := by decide +kernel
theorem d_Program_otherwise_21 : decode b_Program_otherwise 21 = .ok (.getfield 24, 3) := by decide +kernel
theorem d_Program_otherwise_24 : decode b_Program_otherwise 24 = .ok (.iload_n 1, 1) := by decide +kernel
theorem d_Program_otherwise_25 : decode b_Program_otherwise 25 = .ok (.iaload, 1) := by decide +kernel
theorem d_Program_otherwise_26 : decode b_Program_otherwise 26 = .ok (.iconst 1, 1) := by decide +kernel
theorem d_Program_otherwise_27 : decode b_Program_otherwise 27 = .ok (.iadd, 1) := by decide +kernel
theorem d_Program_otherwise_28 : decode b_Program_otherwise 28 = .ok (.ireturn, 1) := by decide +kernel
theorem d_Program_otherwise_11 : decode b_Program_otherwise 11 = .ok (.aload_n 0, 1) := by decide +kernel
theorem d_Program_otherwise_12 : decode b_Program_otherwise 12 = .ok (.getfield 21, 3) := by decide +kernel
theorem d_Program_otherwise_15 : decode b_Program_otherwise 15 = .ok (.iload_n 1, 1) := by decide +kernel
theorem d_Program_otherwise_16 : decode b_Program_otherwise 16 = .ok (.iaload, 1) := by decide +kernel
theorem d_Program_otherwise_17 : decode b_Program_otherwise 17 = .ok (.goto 9, 3) := by decide +kernel
theorem d_Checker_checkInstruction_0 : decode b_Checker_checkInstruction 0 = .ok (.aload_n 0, 1) := by decide +kernel
theorem d_Checker_checkInstruction_1 : decode b_Checker_checkInstruction 1 = .ok (.getfield 22, 3) := by decide +kernel
theorem d_Checker_checkInstruction_4 : decode b_Checker_checkInstruction 4 = .ok (.getfield 55, 3) := by decide +kernel
theorem d_Checker_checkInstruction_7 : decode b_Checker_checkInstruction 7 = .ok (.iload_n 1, 1) := by decide +kernel
theorem d_Checker_checkInstruction_8 : decode b_Checker_checkInstruction 8 = .ok (.iaload, 1) := by decide +kernel
theorem d_Checker_checkInstruction_9 : decode b_Checker_checkInstruction 9 = .ok (.istore_n 2, 1) := by decide +kernel
theorem d_Checker_checkInstruction_10 : decode b_Checker_checkInstruction 10 = .ok (.aload_n 0, 1) := by decide +kernel
theorem d_Checker_checkInstruction_11 : decode b_Checker_checkInstruction 11 = .ok (.getfield 22, 3) := by decide +kernel
theorem d_Checker_checkInstruction_14 : decode b_Checker_checkInstruction 14 = .ok (.getfield 58, 3) := by decide +kernel
theorem d_Checker_checkInstruction_17 : decode b_Checker_checkInstruction 17 = .ok (.aload_n 0, 1) := by decide +kernel
theorem d_Checker_checkInstruction_18 : decode b_Checker_checkInstruction 18 = .ok (.getfield 22, 3) := by decide +kernel
theorem d_Checker_checkInstruction_21 : decode b_Checker_checkInstruction 21 = .ok (.getfield 39, 3) := by decide +kernel
theorem d_Checker_checkInstruction_24 : decode b_Checker_checkInstruction 24 = .ok (.iload_n 1, 1) := by decide +kernel
theorem d_Checker_checkInstruction_25 : decode b_Checker_checkInstruction 25 = .ok (.iaload, 1) := by decide +kernel
theorem d_Checker_checkInstruction_26 : decode b_Checker_checkInstruction 26 = .ok (.iaload, 1) := by decide +kernel
theorem d_Checker_checkInstruction_27 : decode b_Checker_checkInstruction 27 = .ok (.istore_n 3, 1) := by decide +kernel
theorem d_Checker_checkInstruction_28 : decode b_Checker_checkInstruction 28 = .ok (.iload_n 2, 1) := by decide +kernel
theorem d_Checker_checkInstruction_29 : decode b_Checker_checkInstruction 29 = .ok (.tableswitch 187 0 9 #[55, 62, 62, 70, 104, 112, 121, 134, 148, 171], 55) := by decide +kernel
theorem d_Checker_checkInstruction_84 : decode b_Checker_checkInstruction 84 = .ok (.aload_n 0, 1) := by decide +kernel
theorem d_Checker_checkInstruction_85 : decode b_Checker_checkInstruction 85 = .ok (.invokevirtual 61, 3) := by decide +kernel
theorem d_Checker_checkInstruction_88 : decode b_Checker_checkInstruction 88 = .ok (.goto 134, 3) := by decide +kernel
theorem d_Checker_checkInstruction_222 : decode b_Checker_checkInstruction 222 = .ok (.return_, 1) := by decide +kernel
theorem d_Checker_checkInstruction_91 : decode b_Checker_checkInstruction 91 = .ok (.aload_n 0, 1) := by decide +kernel
theorem d_Checker_checkInstruction_92 : decode b_Checker_checkInstruction 92 = .ok (.iload_n 1, 1) := by decide +kernel
theorem d_Checker_checkInstruction_93 : decode b_Checker_checkInstruction 93 = .ok (.invokevirtual 48, 3) := by decide +kernel
theorem d_Checker_checkInstruction_96 : decode b_Checker_checkInstruction 96 = .ok (.goto 126, 3) := by decide +kernel
theorem d_Checker_checkInstruction_99 : decode b_Checker_checkInstruction 99 = .ok (.aload_n 0, 1) := by decide +kernel
theorem d_Checker_checkInstruction_100 : decode b_Checker_checkInstruction 100 = .ok (.iconst 1, 1) := by decide +kernel
theorem d_Checker_checkInstruction_101 : decode b_Checker_checkInstruction 101 = .ok (.invokevirtual 64, 3) := by decide +kernel
theorem d_Checker_checkInstruction_104 : decode b_Checker_checkInstruction 104 = .ok (.aload_n 0, 1) := by decide +kernel
theorem d_Checker_checkInstruction_105 : decode b_Checker_checkInstruction 105 = .ok (.iload_n 1, 1) := by decide +kernel
theorem d_Checker_checkInstruction_106 : decode b_Checker_checkInstruction 106 = .ok (.invokevirtual 48, 3) := by decide +kernel
theorem d_Checker_checkInstruction_109 : decode b_Checker_checkInstruction 109 = .ok (.aload_n 0, 1) := by decide +kernel
theorem d_Checker_checkInstruction_110 : decode b_Checker_checkInstruction 110 = .ok (.getfield 22, 3) := by decide +kernel
theorem d_Checker_checkInstruction_113 : decode b_Checker_checkInstruction 113 = .ok (.iload_n 1, 1) := by decide +kernel
theorem d_Checker_checkInstruction_114 : decode b_Checker_checkInstruction 114 = .ok (.aload_n 0, 1) := by decide +kernel
theorem d_Checker_checkInstruction_115 : decode b_Checker_checkInstruction 115 = .ok (.getfield 22, 3) := by decide +kernel
theorem d_Checker_checkInstruction_118 : decode b_Checker_checkInstruction 118 = .ok (.iload_n 1, 1) := by decide +kernel
theorem d_Checker_checkInstruction_119 : decode b_Checker_checkInstruction 119 = .ok (.invokevirtual 67, 3) := by decide +kernel
theorem d_Checker_checkInstruction_122 : decode b_Checker_checkInstruction 122 = .ok (.aload_n 0, 1) := by decide +kernel
theorem d_Checker_checkInstruction_123 : decode b_Checker_checkInstruction 123 = .ok (.getfield 45, 3) := by decide +kernel
theorem d_Checker_checkInstruction_126 : decode b_Checker_checkInstruction 126 = .ok (.iconst 0, 1) := by decide +kernel
theorem d_Checker_checkInstruction_127 : decode b_Checker_checkInstruction 127 = .ok (.invokevirtual 71, 3) := by decide +kernel
theorem d_Checker_checkInstruction_130 : decode b_Checker_checkInstruction 130 = .ok (.goto 92, 3) := by decide +kernel
theorem d_Checker_checkInstruction_133 : decode b_Checker_checkInstruction 133 = .ok (.aload_n 0, 1) := by decide +kernel
theorem d_Checker_checkInstruction_134 : decode b_Checker_checkInstruction 134 = .ok (.iload_n 1, 1) := by decide +kernel
theorem d_Checker_checkInstruction_135 : decode b_Checker_checkInstruction 135 = .ok (.invokevirtual 75, 3) := by decide +kernel
theorem d_Checker_checkInstruction_138 : decode b_Checker_checkInstruction 138 = .ok (.goto 84, 3) := by decide +kernel
theorem d_Checker_checkInstruction_141 : decode b_Checker_checkInstruction 141 = .ok (.aload_n 0, 1) := by decide +kernel
theorem d_Checker_checkInstruction_142 : decode b_Checker_checkInstruction 142 = .ok (.iload_n 1, 1) := by decide +kernel
theorem d_Checker_checkInstruction_143 : decode b_Checker_checkInstruction 143 = .ok (.iload_n 3, 1) := by decide +kernel
theorem d_Checker_checkInstruction_144 : decode b_Checker_checkInstruction 144 = .ok (.invokevirtual 78, 3) := by decide +kernel
theorem d_Checker_checkInstruction_147 : decode b_Checker_checkInstruction 147 = .ok (.goto 75, 3) := by decide +kernel
theorem d_Checker_checkInstruction_150 : decode b_Checker_checkInstruction 150 = .ok (.aload_n 0, 1) := by decide +kernel
theorem d_Checker_checkInstruction_151 : decode b_Checker_checkInstruction 151 = .ok (.iload_n 1, 1) := by decide +kernel
theorem d_Checker_checkInstruction_152 : decode b_Checker_checkInstruction 152 = .ok (.iload_n 3, 1) := by decide +kernel
theorem d_Checker_checkInstruction_153 : decode b_Checker_checkInstruction 153 = .ok (.invokevirtual 82, 3) := by decide +kernel
theorem d_Checker_checkInstruction_156 : decode b_Checker_checkInstruction 156 = .ok (.aload_n 0, 1) := by decide +kernel
theorem d_Checker_checkInstruction_157 : decode b_Checker_checkInstruction 157 = .ok (.invokevirtual 61, 3) := by decide +kernel
theorem d_Checker_checkInstruction_160 : decode b_Checker_checkInstruction 160 = .ok (.goto 62, 3) := by decide +kernel
theorem d_Checker_checkInstruction_163 : decode b_Checker_checkInstruction 163 = .ok (.aload_n 0, 1) := by decide +kernel
theorem d_Checker_checkInstruction_164 : decode b_Checker_checkInstruction 164 = .ok (.iconst 1, 1) := by decide +kernel
theorem d_Checker_checkInstruction_165 : decode b_Checker_checkInstruction 165 = .ok (.invokevirtual 64, 3) := by decide +kernel
theorem d_Checker_checkInstruction_168 : decode b_Checker_checkInstruction 168 = .ok (.aload_n 0, 1) := by decide +kernel
theorem d_Checker_checkInstruction_169 : decode b_Checker_checkInstruction 169 = .ok (.iload_n 1, 1) := by decide +kernel
theorem d_Checker_checkInstruction_170 : decode b_Checker_checkInstruction 170 = .ok (.iload_n 3, 1) := by decide +kernel
theorem d_Checker_checkInstruction_171 : decode b_Checker_checkInstruction 171 = .ok (.invokevirtual 82, 3) := by decide +kernel
theorem d_Checker_checkInstruction_174 : decode b_Checker_checkInstruction 174 = .ok (.goto 48, 3) := by decide +kernel
theorem d_Checker_checkInstruction_177 : decode b_Checker_checkInstruction 177 = .ok (.aload_n 0, 1) := by decide +kernel
theorem d_Checker_checkInstruction_178 : decode b_Checker_checkInstruction 178 = .ok (.iload_n 3, 1) := by decide +kernel
theorem d_Checker_checkInstruction_179 : decode b_Checker_checkInstruction 179 = .ok (.invokevirtual 64, 3) := by decide +kernel
theorem d_Checker_checkInstruction_182 : decode b_Checker_checkInstruction 182 = .ok (.aload_n 0, 1) := by decide +kernel
theorem d_Checker_checkInstruction_183 : decode b_Checker_checkInstruction 183 = .ok (.invokevirtual 61, 3) := by decide +kernel
theorem d_Checker_checkInstruction_186 : decode b_Checker_checkInstruction 186 = .ok (.aload_n 0, 1) := by decide +kernel
theorem d_Checker_checkInstruction_187 : decode b_Checker_checkInstruction 187 = .ok (.getfield 22, 3) := by decide +kernel
theorem d_Checker_checkInstruction_190 : decode b_Checker_checkInstruction 190 = .ok (.iload_n 1, 1) := by decide +kernel
theorem d_Checker_checkInstruction_191 : decode b_Checker_checkInstruction 191 = .ok (.iconst (-1), 1) := by decide +kernel
theorem d_Checker_checkInstruction_192 : decode b_Checker_checkInstruction 192 = .ok (.iconst 0, 1) := by decide +kernel
theorem d_Checker_checkInstruction_193 : decode b_Checker_checkInstruction 193 = .ok (.iload_n 3, 1) := by decide +kernel
theorem d_Checker_checkInstruction_194 : decode b_Checker_checkInstruction 194 = .ok (.invokevirtual 71, 3) := by decide +kernel
theorem d_Checker_checkInstruction_197 : decode b_Checker_checkInstruction 197 = .ok (.goto 25, 3) := by decide +kernel
theorem d_Checker_checkInstruction_200 : decode b_Checker_checkInstruction 200 = .ok (.aload_n 0, 1) := by decide +kernel
theorem d_Checker_checkInstruction_201 : decode b_Checker_checkInstruction 201 = .ok (.aload_n 0, 1) := by decide +kernel
theorem d_Checker_checkInstruction_202 : decode b_Checker_checkInstruction 202 = .ok (.getfield 22, 3) := by decide +kernel
theorem d_Checker_checkInstruction_205 : decode b_Checker_checkInstruction 205 = .ok (.getfield 85, 3) := by decide +kernel
theorem d_Checker_checkInstruction_208 : decode b_Checker_checkInstruction 208 = .ok (.iload_n 1, 1) := by decide +kernel
theorem d_Checker_checkInstruction_209 : decode b_Checker_checkInstruction 209 = .ok (.iaload, 1) := by decide +kernel
theorem d_Checker_checkInstruction_210 : decode b_Checker_checkInstruction 210 = .ok (.invokevirtual 88, 3) := by decide +kernel
theorem d_Checker_checkInstruction_213 : decode b_Checker_checkInstruction 213 = .ok (.goto 9, 3) := by decide +kernel
theorem d_Checker_checkInstruction_216 : decode b_Checker_checkInstruction 216 = .ok (.aload_n 0, 1) := by decide +kernel
theorem d_Checker_checkInstruction_217 : decode b_Checker_checkInstruction 217 = .ok (.iload_n 1, 1) := by decide +kernel
theorem d_Checker_checkInstruction_218 : decode b_Checker_checkInstruction 218 = .ok (.iload_n 2, 1) := by decide +kernel
theorem d_Checker_checkInstruction_219 : decode b_Checker_checkInstruction 219 = .ok (.invokevirtual 91, 3) := by decide +kernel
theorem d_Checker_firstInvalid_55 : decode b_Checker_firstInvalid 55 = .ok (.aload_n 0, 1) := by decide +kernel
theorem d_Checker_firstInvalid_56 : decode b_Checker_firstInvalid 56 = .ok (.iload_n 1, 1) := by decide +kernel
theorem d_Checker_firstInvalid_57 : decode b_Checker_firstInvalid 57 = .ok (.invokevirtual 52, 3) := by decide +kernel
theorem d_Checker_firstInvalid_60 : decode b_Checker_firstInvalid 60 = .ok (.aload_n 0, 1) := by decide +kernel
theorem d_Checker_firstInvalid_61 : decode b_Checker_firstInvalid 61 = .ok (.getfield 26, 3) := by decide +kernel
theorem d_Checker_firstInvalid_64 : decode b_Checker_firstInvalid 64 = .ok (.ifCond .eq 5, 3) := by decide +kernel
theorem d_Checker_firstInvalid_69 : decode b_Checker_firstInvalid 69 = .ok (.iinc 1 1, 3) := by decide +kernel
theorem d_Checker_firstInvalid_72 : decode b_Checker_firstInvalid 72 = .ok (.goto (-65), 3) := by decide +kernel
theorem d_Checker_firstInvalid_67 : decode b_Checker_firstInvalid 67 = .ok (.iload_n 1, 1) := by decide +kernel
theorem d_Checker_firstInvalid_68 : decode b_Checker_firstInvalid 68 = .ok (.ireturn, 1) := by decide +kernel
theorem d_Checker_firstInvalid_7 : decode b_Checker_firstInvalid 7 = .ok (.iload_n 1, 1) := by decide +kernel
theorem d_Checker_firstInvalid_8 : decode b_Checker_firstInvalid 8 = .ok (.aload_n 0, 1) := by decide +kernel
theorem d_Checker_firstInvalid_9 : decode b_Checker_firstInvalid 9 = .ok (.getfield 22, 3) := by decide +kernel
theorem d_Checker_firstInvalid_12 : decode b_Checker_firstInvalid 12 = .ok (.getfield 30, 3) := by decide +kernel
theorem d_Checker_firstInvalid_15 : decode b_Checker_firstInvalid 15 = .ok (.if_icmp .ge 60, 3) := by decide +kernel
theorem d_Checker_firstInvalid_75 : decode b_Checker_firstInvalid 75 = .ok (.bipush (-3), 2) := by decide +kernel
theorem d_Checker_firstInvalid_77 : decode b_Checker_firstInvalid 77 = .ok (.ireturn, 1) := by decide +kernel
theorem d_Checker_firstInvalid_18 : decode b_Checker_firstInvalid 18 = .ok (.iload_n 1, 1) := by decide +kernel
theorem d_Checker_firstInvalid_19 : decode b_Checker_firstInvalid 19 = .ok (.aload_n 0, 1) := by decide +kernel
theorem d_Checker_firstInvalid_20 : decode b_Checker_firstInvalid 20 = .ok (.getfield 22, 3) := by decide +kernel
theorem d_Checker_firstInvalid_23 : decode b_Checker_firstInvalid 23 = .ok (.getfield 36, 3) := by decide +kernel
theorem d_Checker_firstInvalid_26 : decode b_Checker_firstInvalid 26 = .ok (.aload_n 0, 1) := by decide +kernel
theorem d_Checker_firstInvalid_27 : decode b_Checker_firstInvalid 27 = .ok (.getfield 22, 3) := by decide +kernel
theorem d_Checker_firstInvalid_30 : decode b_Checker_firstInvalid 30 = .ok (.getfield 39, 3) := by decide +kernel
theorem d_Checker_firstInvalid_33 : decode b_Checker_firstInvalid 33 = .ok (.iload_n 1, 1) := by decide +kernel
theorem d_Checker_firstInvalid_34 : decode b_Checker_firstInvalid 34 = .ok (.iaload, 1) := by decide +kernel
theorem d_Checker_firstInvalid_35 : decode b_Checker_firstInvalid 35 = .ok (.iaload, 1) := by decide +kernel
theorem d_Checker_firstInvalid_36 : decode b_Checker_firstInvalid 36 = .ok (.if_icmp .ne 19, 3) := by decide +kernel
theorem d_Checker_firstInvalid_39 : decode b_Checker_firstInvalid 39 = .ok (.aload_n 0, 1) := by decide +kernel
theorem d_Checker_firstInvalid_40 : decode b_Checker_firstInvalid 40 = .ok (.iconst (-1), 1) := by decide +kernel
theorem d_Checker_firstInvalid_41 : decode b_Checker_firstInvalid 41 = .ok (.putfield 42, 3) := by decide +kernel
theorem d_Checker_firstInvalid_44 : decode b_Checker_firstInvalid 44 = .ok (.aload_n 0, 1) := by decide +kernel
theorem d_Checker_firstInvalid_45 : decode b_Checker_firstInvalid 45 = .ok (.iconst 0, 1) := by decide +kernel
theorem d_Checker_firstInvalid_46 : decode b_Checker_firstInvalid 46 = .ok (.putfield 45, 3) := by decide +kernel
theorem d_Checker_firstInvalid_49 : decode b_Checker_firstInvalid 49 = .ok (.aload_n 0, 1) := by decide +kernel
theorem d_Checker_firstInvalid_50 : decode b_Checker_firstInvalid 50 = .ok (.bipush (-3), 2) := by decide +kernel
theorem d_Checker_firstInvalid_52 : decode b_Checker_firstInvalid 52 = .ok (.invokevirtual 48, 3) := by decide +kernel
theorem d_Checker_firstInvalid_0 : decode b_Checker_firstInvalid 0 = .ok (.aload_n 0, 1) := by decide +kernel
theorem d_Checker_firstInvalid_1 : decode b_Checker_firstInvalid 1 = .ok (.iconst 0, 1) := by decide +kernel
theorem d_Checker_firstInvalid_2 : decode b_Checker_firstInvalid 2 = .ok (.putfield 26, 3) := by decide +kernel
theorem d_Checker_firstInvalid_5 : decode b_Checker_firstInvalid 5 = .ok (.iconst 0, 1) := by decide +kernel
theorem d_Checker_firstInvalid_6 : decode b_Checker_firstInvalid 6 = .ok (.istore_n 1, 1) := by decide +kernel
theorem d_Arrays_fill_5 : decode b_Arrays_fill 5 = .ok (.iload_n 2, 1) := by decide +kernel
theorem d_Arrays_fill_6 : decode b_Arrays_fill 6 = .ok (.iload_n 3, 1) := by decide +kernel
theorem d_Arrays_fill_7 : decode b_Arrays_fill 7 = .ok (.if_icmp .ge 13, 3) := by decide +kernel
theorem d_Arrays_fill_20 : decode b_Arrays_fill 20 = .ok (.return_, 1) := by decide +kernel
theorem d_Arrays_fill_10 : decode b_Arrays_fill 10 = .ok (.aload_n 0, 1) := by decide +kernel
theorem d_Arrays_fill_11 : decode b_Arrays_fill 11 = .ok (.iload_n 2, 1) := by decide +kernel
theorem d_Arrays_fill_12 : decode b_Arrays_fill 12 = .ok (.iload_n 1, 1) := by decide +kernel
theorem d_Arrays_fill_13 : decode b_Arrays_fill 13 = .ok (.iastore, 1) := by decide +kernel
theorem d_Arrays_fill_14 : decode b_Arrays_fill 14 = .ok (.iinc 2 1, 3) := by decide +kernel
theorem d_Arrays_fill_17 : decode b_Arrays_fill 17 = .ok (.goto (-12), 3) := by decide +kernel
theorem d_Arrays_fill_0 : decode b_Arrays_fill 0 = .ok (.iconst 0, 1) := by decide +kernel
theorem d_Arrays_fill_1 : decode b_Arrays_fill 1 = .ok (.istore_n 2, 1) := by decide +kernel
theorem d_Arrays_fill_2 : decode b_Arrays_fill 2 = .ok (.aload_n 0, 1) := by decide +kernel
theorem d_Arrays_fill_3 : decode b_Arrays_fill 3 = .ok (.arraylength, 1) := by decide +kernel
theorem d_Arrays_fill_4 : decode b_Arrays_fill 4 = .ok (.istore_n 3, 1) := by decide +kernel
theorem d_Foreteller_clear_30 : decode b_Foreteller_clear 30 = .ok (.iload_n 1, 1) := by decide +kernel
theorem d_Foreteller_clear_31 : decode b_Foreteller_clear 31 = .ok (.iconst 3, 1) := by decide +kernel
theorem d_Foreteller_clear_32 : decode b_Foreteller_clear 32 = .ok (.if_icmp .ge 16, 3) := by decide +kernel
theorem d_Foreteller_clear_48 : decode b_Foreteller_clear 48 = .ok (.aload_n 0, 1) := by decide +kernel
theorem d_Foreteller_clear_49 : decode b_Foreteller_clear 49 = .ok (.getfield 31, 3) := by decide +kernel
theorem d_Foreteller_clear_52 : decode b_Foreteller_clear 52 = .ok (.bipush (-3), 2) := by decide +kernel
theorem d_Foreteller_clear_54 : decode b_Foreteller_clear 54 = .ok (.invokestatic 103, 3) := by decide +kernel
theorem d_Foreteller_clear_57 : decode b_Foreteller_clear 57 = .ok (.aload_n 0, 1) := by decide +kernel
theorem d_Foreteller_clear_58 : decode b_Foreteller_clear 58 = .ok (.getfield 34, 3) := by decide +kernel
theorem d_Foreteller_clear_61 : decode b_Foreteller_clear 61 = .ok (.bipush (-3), 2) := by decide +kernel
theorem d_Foreteller_clear_63 : decode b_Foreteller_clear 63 = .ok (.invokestatic 103, 3) := by decide +kernel
theorem d_Foreteller_clear_66 : decode b_Foreteller_clear 66 = .ok (.aload_n 0, 1) := by decide +kernel
theorem d_Foreteller_clear_67 : decode b_Foreteller_clear 67 = .ok (.getfield 37, 3) := by decide +kernel
theorem d_Foreteller_clear_70 : decode b_Foreteller_clear 70 = .ok (.bipush (-3), 2) := by decide +kernel
theorem d_Foreteller_clear_72 : decode b_Foreteller_clear 72 = .ok (.invokestatic 103, 3) := by decide +kernel
theorem d_Foreteller_clear_75 : decode b_Foreteller_clear 75 = .ok (.aload_n 0, 1) := by decide +kernel
theorem d_Foreteller_clear_76 : decode b_Foreteller_clear 76 = .ok (.getfield 22, 3) := by decide +kernel
theorem d_Foreteller_clear_79 : decode b_Foreteller_clear 79 = .ok (.bipush (-3), 2) := by decide +kernel
theorem d_Foreteller_clear_81 : decode b_Foreteller_clear 81 = .ok (.invokestatic 103, 3) := by decide +kernel
theorem d_Foreteller_clear_84 : decode b_Foreteller_clear 84 = .ok (.aload_n 0, 1) := by decide +kernel
theorem d_Foreteller_clear_85 : decode b_Foreteller_clear 85 = .ok (.getfield 19, 3) := by decide +kernel
theorem d_Foreteller_clear_88 : decode b_Foreteller_clear 88 = .ok (.iconst 0, 1) := by decide +kernel
theorem d_Foreteller_clear_89 : decode b_Foreteller_clear 89 = .ok (.invokestatic 103, 3) := by decide +kernel
theorem d_Foreteller_clear_92 : decode b_Foreteller_clear 92 = .ok (.return_, 1) := by decide +kernel
theorem d_Foreteller_clear_35 : decode b_Foreteller_clear 35 = .ok (.aload_n 0, 1) := by decide +kernel
theorem d_Foreteller_clear_36 : decode b_Foreteller_clear 36 = .ok (.getfield 25, 3) := by decide +kernel
theorem d_Foreteller_clear_39 : decode b_Foreteller_clear 39 = .ok (.iload_n 1, 1) := by decide +kernel
theorem d_Foreteller_clear_40 : decode b_Foreteller_clear 40 = .ok (.iconst 0, 1) := by decide +kernel
theorem d_Foreteller_clear_41 : decode b_Foreteller_clear 41 = .ok (.bastore, 1) := by decide +kernel
theorem d_Foreteller_clear_42 : decode b_Foreteller_clear 42 = .ok (.iinc 1 1, 3) := by decide +kernel
theorem d_Foreteller_clear_45 : decode b_Foreteller_clear 45 = .ok (.goto (-15), 3) := by decide +kernel
theorem d_Foreteller_clear_2 : decode b_Foreteller_clear 2 = .ok (.iload_n 1, 1) := by decide +kernel
theorem d_Foreteller_clear_3 : decode b_Foreteller_clear 3 = .ok (.bipush 100, 2) := by decide +kernel
theorem d_Foreteller_clear_5 : decode b_Foreteller_clear 5 = .ok (.if_icmp .ge 23, 3) := by decide +kernel
theorem d_Foreteller_clear_28 : decode b_Foreteller_clear 28 = .ok (.iconst 0, 1) := by decide +kernel
theorem d_Foreteller_clear_29 : decode b_Foreteller_clear 29 = .ok (.istore_n 1, 1) := by decide +kernel
theorem d_Foreteller_clear_8 : decode b_Foreteller_clear 8 = .ok (.aload_n 0, 1) := by decide +kernel
theorem d_Foreteller_clear_9 : decode b_Foreteller_clear 9 = .ok (.getfield 9, 3) := by decide +kernel
theorem d_Foreteller_clear_12 : decode b_Foreteller_clear 12 = .ok (.iload_n 1, 1) := by decide +kernel
theorem d_Foreteller_clear_13 : decode b_Foreteller_clear 13 = .ok (.iconst 0, 1) := by decide +kernel
theorem d_Foreteller_clear_14 : decode b_Foreteller_clear 14 = .ok (.bastore, 1) := by decide +kernel
theorem d_Foreteller_clear_15 : decode b_Foreteller_clear 15 = .ok (.aload_n 0, 1) := by decide +kernel
theorem d_Foreteller_clear_16 : decode b_Foreteller_clear 16 = .ok (.getfield 28, 3) := by decide +kernel
theorem d_Foreteller_clear_19 : decode b_Foreteller_clear 19 = .ok (.iload_n 1, 1) := by decide +kernel
theorem d_Foreteller_clear_20 : decode b_Foreteller_clear 20 = .ok (.iconst 0, 1) := by decide +kernel
theorem d_Foreteller_clear_21 : decode b_Foreteller_clear 21 = .ok (.bastore, 1) := by decide +kernel
theorem d_Foreteller_clear_22 : decode b_Foreteller_clear 22 = .ok (.iinc 1 1, 3) := by decide +kernel
theorem d_Foreteller_clear_25 : decode b_Foreteller_clear 25 = .ok (.goto (-23), 3) := by decide +kernel
theorem d_Foreteller_clear_0 : decode b_Foreteller_clear 0 = .ok (.iconst 0, 1) := by decide +kernel
theorem d_Foreteller_clear_1 : decode b_Foreteller_clear 1 = .ok (.istore_n 1, 1) := by decide +kernel
theorem d_Ranges_join_70 : decode b_Ranges_join 70 = .ok (.istore_n 3, 1) := by decide +kernel
theorem d_Ranges_join_71 : decode b_Ranges_join 71 = .ok (.iload_n 2, 1) := by decide +kernel
theorem d_Ranges_join_72 : decode b_Ranges_join 72 = .ok (.iload_n 3, 1) := by decide +kernel
theorem d_Ranges_join_73 : decode b_Ranges_join 73 = .ok (.ior, 1) := by decide +kernel
theorem d_Ranges_join_74 : decode b_Ranges_join 74 = .ok (.iload_n 0, 1) := by decide +kernel
theorem d_Ranges_join_75 : decode b_Ranges_join 75 = .ok (.iload_n 1, 1) := by decide +kernel
theorem d_Ranges_join_76 : decode b_Ranges_join 76 = .ok (.ior, 1) := by decide +kernel
theorem d_Ranges_join_77 : decode b_Ranges_join 77 = .ok (.sipush 4096, 3) := by decide +kernel
theorem d_Ranges_join_80 : decode b_Ranges_join 80 = .ok (.iand, 1) := by decide +kernel
theorem d_Ranges_join_81 : decode b_Ranges_join 81 = .ok (.ior, 1) := by decide +kernel
theorem d_Ranges_join_82 : decode b_Ranges_join 82 = .ok (.ireturn, 1) := by decide +kernel
theorem d_Ranges_join_43 : decode b_Ranges_join 43 = .ok (.istore_n 2, 1) := by decide +kernel
theorem d_Ranges_join_44 : decode b_Ranges_join 44 = .ok (.iload_n 0, 1) := by decide +kernel
theorem d_Ranges_join_45 : decode b_Ranges_join 45 = .ok (.sipush 4032, 3) := by decide +kernel
theorem d_Ranges_join_48 : decode b_Ranges_join 48 = .ok (.iand, 1) := by decide +kernel
theorem d_Ranges_join_49 : decode b_Ranges_join 49 = .ok (.iload_n 1, 1) := by decide +kernel
theorem d_Ranges_join_50 : decode b_Ranges_join 50 = .ok (.sipush 4032, 3) := by decide +kernel
theorem d_Ranges_join_53 : decode b_Ranges_join 53 = .ok (.iand, 1) := by decide +kernel
theorem d_Ranges_join_54 : decode b_Ranges_join 54 = .ok (.if_icmp .le 11, 3) := by decide +kernel
theorem d_Ranges_join_65 : decode b_Ranges_join 65 = .ok (.iload_n 1, 1) := by decide +kernel
theorem d_Ranges_join_66 : decode b_Ranges_join 66 = .ok (.sipush 4032, 3) := by decide +kernel
theorem d_Ranges_join_69 : decode b_Ranges_join 69 = .ok (.iand, 1) := by decide +kernel
theorem d_Ranges_join_57 : decode b_Ranges_join 57 = .ok (.iload_n 0, 1) := by decide +kernel
theorem d_Ranges_join_58 : decode b_Ranges_join 58 = .ok (.sipush 4032, 3) := by decide +kernel
theorem d_Ranges_join_61 : decode b_Ranges_join 61 = .ok (.iand, 1) := by decide +kernel
theorem d_Ranges_join_62 : decode b_Ranges_join 62 = .ok (.goto 8, 3) := by decide +kernel
theorem d_Ranges_join_0 : decode b_Ranges_join 0 = .ok (.iload_n 0, 1) := by decide +kernel
theorem d_Ranges_join_1 : decode b_Ranges_join 1 = .ok (.bipush (-3), 2) := by decide +kernel
theorem d_Ranges_join_3 : decode b_Ranges_join 3 = .ok (.if_icmp .ne 5, 3) := by decide +kernel
theorem d_Ranges_join_8 : decode b_Ranges_join 8 = .ok (.iload_n 1, 1) := by decide +kernel
theorem d_Ranges_join_9 : decode b_Ranges_join 9 = .ok (.bipush (-3), 2) := by decide +kernel
theorem d_Ranges_join_11 : decode b_Ranges_join 11 = .ok (.if_icmp .eq 8, 3) := by decide +kernel
theorem d_Ranges_join_19 : decode b_Ranges_join 19 = .ok (.iload_n 0, 1) := by decide +kernel
theorem d_Ranges_join_20 : decode b_Ranges_join 20 = .ok (.ireturn, 1) := by decide +kernel
theorem d_Ranges_join_14 : decode b_Ranges_join 14 = .ok (.iload_n 1, 1) := by decide +kernel
theorem d_Ranges_join_15 : decode b_Ranges_join 15 = .ok (.iload_n 0, 1) := by decide +kernel
theorem d_Ranges_join_16 : decode b_Ranges_join 16 = .ok (.if_icmp .ne 5, 3) := by decide +kernel
theorem d_Ranges_join_21 : decode b_Ranges_join 21 = .ok (.iload_n 0, 1) := by decide +kernel
theorem d_Ranges_join_22 : decode b_Ranges_join 22 = .ok (.bipush 63, 2) := by decide +kernel
theorem d_Ranges_join_24 : decode b_Ranges_join 24 = .ok (.iand, 1) := by decide +kernel
theorem d_Ranges_join_25 : decode b_Ranges_join 25 = .ok (.iload_n 1, 1) := by decide +kernel
theorem d_Ranges_join_26 : decode b_Ranges_join 26 = .ok (.bipush 63, 2) := by decide +kernel
theorem d_Ranges_join_28 : decode b_Ranges_join 28 = .ok (.iand, 1) := by decide +kernel
theorem d_Ranges_join_29 : decode b_Ranges_join 29 = .ok (.if_icmp .ge 10, 3) := by decide +kernel
theorem d_Ranges_join_39 : decode b_Ranges_join 39 = .ok (.iload_n 1, 1) := by decide +kernel
theorem d_Ranges_join_40 : decode b_Ranges_join 40 = .ok (.bipush 63, 2) := by decide +kernel
theorem d_Ranges_join_42 : decode b_Ranges_join 42 = .ok (.iand, 1) := by decide +kernel
theorem d_Ranges_join_32 : decode b_Ranges_join 32 = .ok (.iload_n 0, 1) := by decide +kernel
theorem d_Ranges_join_33 : decode b_Ranges_join 33 = .ok (.bipush 63, 2) := by decide +kernel
theorem d_Ranges_join_35 : decode b_Ranges_join 35 = .ok (.iand, 1) := by decide +kernel
theorem d_Ranges_join_36 : decode b_Ranges_join 36 = .ok (.goto 7, 3) := by decide +kernel
theorem d_Ranges_join_6 : decode b_Ranges_join 6 = .ok (.iload_n 1, 1) := by decide +kernel
theorem d_Ranges_join_7 : decode b_Ranges_join 7 = .ok (.ireturn, 1) := by decide +kernel
theorem d_Foreteller_joinInto_52 : decode b_Foreteller_joinInto 52 = .ok (.iinc 6 1, 3) := by decide +kernel
theorem d_Foreteller_joinInto_55 : decode b_Foreteller_joinInto 55 = .ok (.goto (-49), 3) := by decide +kernel
theorem d_Foreteller_joinInto_6 : decode b_Foreteller_joinInto 6 = .ok (.iload 6, 2) := by decide +kernel
theorem d_Foreteller_joinInto_8 : decode b_Foreteller_joinInto 8 = .ok (.iload 4, 2) := by decide +kernel
theorem d_Foreteller_joinInto_10 : decode b_Foreteller_joinInto 10 = .ok (.if_icmp .ge 48, 3) := by decide +kernel
theorem d_Foreteller_joinInto_58 : decode b_Foreteller_joinInto 58 = .ok (.iload 5, 2) := by decide +kernel
theorem d_Foreteller_joinInto_60 : decode b_Foreteller_joinInto 60 = .ok (.ireturn, 1) := by decide +kernel
theorem d_Foreteller_joinInto_13 : decode b_Foreteller_joinInto 13 = .ok (.aload_n 0, 1) := by decide +kernel
theorem d_Foreteller_joinInto_14 : decode b_Foreteller_joinInto 14 = .ok (.iload_n 1, 1) := by decide +kernel
theorem d_Foreteller_joinInto_15 : decode b_Foreteller_joinInto 15 = .ok (.iload 6, 2) := by decide +kernel
theorem d_Foreteller_joinInto_17 : decode b_Foreteller_joinInto 17 = .ok (.iadd, 1) := by decide +kernel
theorem d_Foreteller_joinInto_18 : decode b_Foreteller_joinInto 18 = .ok (.iaload, 1) := by decide +kernel
theorem d_Foreteller_joinInto_19 : decode b_Foreteller_joinInto 19 = .ok (.aload_n 2, 1) := by decide +kernel
theorem d_Foreteller_joinInto_20 : decode b_Foreteller_joinInto 20 = .ok (.iload_n 3, 1) := by decide +kernel
theorem d_Foreteller_joinInto_21 : decode b_Foreteller_joinInto 21 = .ok (.iload 6, 2) := by decide +kernel
theorem d_Foreteller_joinInto_23 : decode b_Foreteller_joinInto 23 = .ok (.iadd, 1) := by decide +kernel
theorem d_Foreteller_joinInto_24 : decode b_Foreteller_joinInto 24 = .ok (.iaload, 1) := by decide +kernel
theorem d_Foreteller_joinInto_25 : decode b_Foreteller_joinInto 25 = .ok (.invokestatic 157, 3) := by decide +kernel
theorem d_Foreteller_joinInto_28 : decode b_Foreteller_joinInto 28 = .ok (.istore 7, 2) := by decide +kernel
theorem d_Foreteller_joinInto_30 : decode b_Foreteller_joinInto 30 = .ok (.iload 7, 2) := by decide +kernel
theorem d_Foreteller_joinInto_32 : decode b_Foreteller_joinInto 32 = .ok (.aload_n 0, 1) := by decide +kernel
theorem d_Foreteller_joinInto_33 : decode b_Foreteller_joinInto 33 = .ok (.iload_n 1, 1) := by decide +kernel
theorem d_Foreteller_joinInto_34 : decode b_Foreteller_joinInto 34 = .ok (.iload 6, 2) := by decide +kernel
theorem d_Foreteller_joinInto_36 : decode b_Foreteller_joinInto 36 = .ok (.iadd, 1) := by decide +kernel
theorem d_Foreteller_joinInto_37 : decode b_Foreteller_joinInto 37 = .ok (.iaload, 1) := by decide +kernel
theorem d_Foreteller_joinInto_38 : decode b_Foreteller_joinInto 38 = .ok (.if_icmp .eq 14, 3) := by decide +kernel
theorem d_Foreteller_joinInto_41 : decode b_Foreteller_joinInto 41 = .ok (.aload_n 0, 1) := by decide +kernel
theorem d_Foreteller_joinInto_42 : decode b_Foreteller_joinInto 42 = .ok (.iload_n 1, 1) := by decide +kernel
theorem d_Foreteller_joinInto_43 : decode b_Foreteller_joinInto 43 = .ok (.iload 6, 2) := by decide +kernel
theorem d_Foreteller_joinInto_45 : decode b_Foreteller_joinInto 45 = .ok (.iadd, 1) := by decide +kernel
theorem d_Foreteller_joinInto_46 : decode b_Foreteller_joinInto 46 = .ok (.iload 7, 2) := by decide +kernel
theorem d_Foreteller_joinInto_48 : decode b_Foreteller_joinInto 48 = .ok (.iastore, 1) := by decide +kernel
theorem d_Foreteller_joinInto_49 : decode b_Foreteller_joinInto 49 = .ok (.iconst 1, 1) := by decide +kernel
theorem d_Foreteller_joinInto_50 : decode b_Foreteller_joinInto 50 = .ok (.istore 5, 2) := by decide +kernel
theorem d_Foreteller_joinInto_0 : decode b_Foreteller_joinInto 0 = .ok (.iconst 0, 1) := by decide +kernel
theorem d_Foreteller_joinInto_1 : decode b_Foreteller_joinInto 1 = .ok (.istore 5, 2) := by decide +kernel
theorem d_Foreteller_joinInto_3 : decode b_Foreteller_joinInto 3 = .ok (.iconst 0, 1) := by decide +kernel
theorem d_Foreteller_joinInto_4 : decode b_Foreteller_joinInto 4 = .ok (.istore 6, 2) := by decide +kernel
theorem d_Foreteller_arrive_84 : decode b_Foreteller_arrive 84 = .ok (.aload_n 0, 1) := by decide +kernel
theorem d_Foreteller_arrive_85 : decode b_Foreteller_arrive 85 = .ok (.getfield 9, 3) := by decide +kernel
theorem d_Foreteller_arrive_88 : decode b_Foreteller_arrive 88 = .ok (.iload_n 1, 1) := by decide +kernel
theorem d_Foreteller_arrive_89 : decode b_Foreteller_arrive 89 = .ok (.iconst 1, 1) := by decide +kernel
theorem d_Foreteller_arrive_90 : decode b_Foreteller_arrive 90 = .ok (.bastore, 1) := by decide +kernel
theorem d_Foreteller_arrive_91 : decode b_Foreteller_arrive 91 = .ok (.aload_n 0, 1) := by decide +kernel
theorem d_Foreteller_arrive_92 : decode b_Foreteller_arrive 92 = .ok (.getfield 28, 3) := by decide +kernel
theorem d_Foreteller_arrive_95 : decode b_Foreteller_arrive 95 = .ok (.iload_n 1, 1) := by decide +kernel
theorem d_Foreteller_arrive_96 : decode b_Foreteller_arrive 96 = .ok (.iconst 1, 1) := by decide +kernel
theorem d_Foreteller_arrive_97 : decode b_Foreteller_arrive 97 = .ok (.bastore, 1) := by decide +kernel
theorem d_Foreteller_arrive_98 : decode b_Foreteller_arrive 98 = .ok (.return_, 1) := by decide +kernel
theorem d_Foreteller_arrive_0 : decode b_Foreteller_arrive 0 = .ok (.aload_n 0, 1) := by decide +kernel
theorem d_Foreteller_arrive_1 : decode b_Foreteller_arrive 1 = .ok (.getfield 15, 3) := by decide +kernel
theorem d_Foreteller_arrive_4 : decode b_Foreteller_arrive 4 = .ok (.iload_n 1, 1) := by decide +kernel
theorem d_Foreteller_arrive_5 : decode b_Foreteller_arrive 5 = .ok (.aload_n 0, 1) := by decide +kernel
theorem d_Foreteller_arrive_6 : decode b_Foreteller_arrive 6 = .ok (.getfield 109, 3) := by decide +kernel
theorem d_Foreteller_arrive_9 : decode b_Foreteller_arrive 9 = .ok (.iastore, 1) := by decide +kernel
theorem d_Foreteller_arrive_10 : decode b_Foreteller_arrive 10 = .ok (.aload_n 0, 1) := by decide +kernel
theorem d_Foreteller_arrive_11 : decode b_Foreteller_arrive 11 = .ok (.getfield 46, 3) := by decide +kernel
theorem d_Foreteller_arrive_14 : decode b_Foreteller_arrive 14 = .ok (.aload_n 0, 1) := by decide +kernel
theorem d_Foreteller_arrive_15 : decode b_Foreteller_arrive 15 = .ok (.getfield 46, 3) := by decide +kernel
theorem d_Foreteller_arrive_18 : decode b_Foreteller_arrive 18 = .ok (.getfield 72, 3) := by decide +kernel
theorem d_Foreteller_arrive_21 : decode b_Foreteller_arrive 21 = .ok (.iload_n 1, 1) := by decide +kernel
theorem d_Foreteller_arrive_22 : decode b_Foreteller_arrive 22 = .ok (.iaload, 1) := by decide +kernel
theorem d_Foreteller_arrive_23 : decode b_Foreteller_arrive 23 = .ok (.invokevirtual 75, 3) := by decide +kernel
theorem d_Foreteller_arrive_26 : decode b_Foreteller_arrive 26 = .ok (.istore_n 2, 1) := by decide +kernel
theorem d_Foreteller_arrive_27 : decode b_Foreteller_arrive 27 = .ok (.aload_n 0, 1) := by decide +kernel
theorem d_Foreteller_arrive_28 : decode b_Foreteller_arrive 28 = .ok (.getfield 31, 3) := by decide +kernel
theorem d_Foreteller_arrive_31 : decode b_Foreteller_arrive 31 = .ok (.iload_n 1, 1) := by decide +kernel
theorem d_Foreteller_arrive_32 : decode b_Foreteller_arrive 32 = .ok (.bipush 10, 2) := by decide +kernel
theorem d_Foreteller_arrive_34 : decode b_Foreteller_arrive 34 = .ok (.imul, 1) := by decide +kernel
theorem d_Foreteller_arrive_35 : decode b_Foreteller_arrive 35 = .ok (.aload_n 0, 1) := by decide +kernel
theorem d_Foreteller_arrive_36 : decode b_Foreteller_arrive 36 = .ok (.getfield 40, 3) := by decide +kernel
theorem d_Foreteller_arrive_39 : decode b_Foreteller_arrive 39 = .ok (.iconst 0, 1) := by decide +kernel
theorem d_Foreteller_arrive_40 : decode b_Foreteller_arrive 40 = .ok (.aload_n 0, 1) := by decide +kernel
theorem d_Foreteller_arrive_41 : decode b_Foreteller_arrive 41 = .ok (.getfield 109, 3) := by decide +kernel
theorem d_Foreteller_arrive_44 : decode b_Foreteller_arrive 44 = .ok (.invokestatic 164, 3) := by decide +kernel
theorem d_Foreteller_arrive_47 : decode b_Foreteller_arrive 47 = .ok (.istore_n 3, 1) := by decide +kernel
theorem d_Foreteller_arrive_48 : decode b_Foreteller_arrive 48 = .ok (.aload_n 0, 1) := by decide +kernel
theorem d_Foreteller_arrive_49 : decode b_Foreteller_arrive 49 = .ok (.getfield 34, 3) := by decide +kernel
theorem d_Foreteller_arrive_52 : decode b_Foreteller_arrive 52 = .ok (.iload_n 1, 1) := by decide +kernel
theorem d_Foreteller_arrive_53 : decode b_Foreteller_arrive 53 = .ok (.iconst 4, 1) := by decide +kernel
theorem d_Foreteller_arrive_54 : decode b_Foreteller_arrive 54 = .ok (.imul, 1) := by decide +kernel
theorem d_Foreteller_arrive_55 : decode b_Foreteller_arrive 55 = .ok (.aload_n 0, 1) := by decide +kernel
theorem d_Foreteller_arrive_56 : decode b_Foreteller_arrive 56 = .ok (.getfield 43, 3) := by decide +kernel
theorem d_Foreteller_arrive_59 : decode b_Foreteller_arrive 59 = .ok (.iconst 0, 1) := by decide +kernel
theorem d_Foreteller_arrive_60 : decode b_Foreteller_arrive 60 = .ok (.iload_n 2, 1) := by decide +kernel
theorem d_Foreteller_arrive_61 : decode b_Foreteller_arrive 61 = .ok (.invokestatic 164, 3) := by decide +kernel
theorem d_Foreteller_arrive_64 : decode b_Foreteller_arrive 64 = .ok (.istore 4, 2) := by decide +kernel
theorem d_Foreteller_arrive_66 : decode b_Foreteller_arrive 66 = .ok (.aload_n 0, 1) := by decide +kernel
theorem d_Foreteller_arrive_67 : decode b_Foreteller_arrive 67 = .ok (.getfield 9, 3) := by decide +kernel
theorem d_Foreteller_arrive_70 : decode b_Foreteller_arrive 70 = .ok (.iload_n 1, 1) := by decide +kernel
theorem d_Foreteller_arrive_71 : decode b_Foreteller_arrive 71 = .ok (.baload, 1) := by decide +kernel
theorem d_Foreteller_arrive_72 : decode b_Foreteller_arrive 72 = .ok (.ifCond .eq 12, 3) := by decide +kernel
theorem d_Foreteller_arrive_75 : decode b_Foreteller_arrive 75 = .ok (.iload_n 3, 1) := by decide +kernel
theorem d_Foreteller_arrive_76 : decode b_Foreteller_arrive 76 = .ok (.ifCond .ne 8, 3) := by decide +kernel
theorem d_Foreteller_arrive_79 : decode b_Foreteller_arrive 79 = .ok (.iload 4, 2) := by decide +kernel
theorem d_Foreteller_arrive_81 : decode b_Foreteller_arrive 81 = .ok (.ifCond .eq 17, 3) := by decide +kernel
theorem d_Foreteller_enter_44 : decode b_Foreteller_enter 44 = .ok (.iastore, 1) := by decide +kernel
theorem d_Foreteller_enter_45 : decode b_Foreteller_enter 45 = .ok (.iinc 2 1, 3) := by decide +kernel
theorem d_Foreteller_enter_48 : decode b_Foreteller_enter 48 = .ok (.goto (-41), 3) := by decide +kernel
theorem d_Foreteller_enter_7 : decode b_Foreteller_enter 7 = .ok (.iload_n 2, 1) := by decide +kernel
theorem d_Foreteller_enter_8 : decode b_Foreteller_enter 8 = .ok (.iconst 4, 1) := by decide +kernel
theorem d_Foreteller_enter_9 : decode b_Foreteller_enter 9 = .ok (.if_icmp .ge 42, 3) := by decide +kernel
theorem d_Foreteller_enter_51 : decode b_Foreteller_enter 51 = .ok (.aload_n 0, 1) := by decide +kernel
theorem d_Foreteller_enter_52 : decode b_Foreteller_enter 52 = .ok (.aload_n 0, 1) := by decide +kernel
theorem d_Foreteller_enter_53 : decode b_Foreteller_enter 53 = .ok (.getfield 46, 3) := by decide +kernel
theorem d_Foreteller_enter_56 : decode b_Foreteller_enter 56 = .ok (.getfield 171, 3) := by decide +kernel
theorem d_Foreteller_enter_59 : decode b_Foreteller_enter 59 = .ok (.iload_n 1, 1) := by decide +kernel
theorem d_Foreteller_enter_60 : decode b_Foreteller_enter 60 = .ok (.iaload, 1) := by decide +kernel
theorem d_Foreteller_enter_61 : decode b_Foreteller_enter 61 = .ok (.invokevirtual 118, 3) := by decide +kernel
theorem d_Foreteller_enter_64 : decode b_Foreteller_enter 64 = .ok (.return_, 1) := by decide +kernel
theorem d_Foreteller_enter_12 : decode b_Foreteller_enter 12 = .ok (.aload_n 0, 1) := by decide +kernel
theorem d_Foreteller_enter_13 : decode b_Foreteller_enter 13 = .ok (.getfield 43, 3) := by decide +kernel
theorem d_Foreteller_enter_16 : decode b_Foreteller_enter 16 = .ok (.iload_n 2, 1) := by decide +kernel
theorem d_Foreteller_enter_17 : decode b_Foreteller_enter 17 = .ok (.iload_n 2, 1) := by decide +kernel
theorem d_Foreteller_enter_18 : decode b_Foreteller_enter 18 = .ok (.aload_n 0, 1) := by decide +kernel
theorem d_Foreteller_enter_19 : decode b_Foreteller_enter 19 = .ok (.getfield 46, 3) := by decide +kernel
theorem d_Foreteller_enter_22 : decode b_Foreteller_enter 22 = .ok (.getfield 163, 3) := by decide +kernel
theorem d_Foreteller_enter_25 : decode b_Foreteller_enter 25 = .ok (.iload_n 1, 1) := by decide +kernel
theorem d_Foreteller_enter_26 : decode b_Foreteller_enter 26 = .ok (.iaload, 1) := by decide +kernel
theorem d_Foreteller_enter_27 : decode b_Foreteller_enter 27 = .ok (.if_icmp .ge 16, 3) := by decide +kernel
theorem d_Foreteller_enter_43 : decode b_Foreteller_enter 43 = .ok (.iconst 0, 1) := by decide +kernel
theorem d_Foreteller_enter_30 : decode b_Foreteller_enter 30 = .ok (.aload_n 0, 1) := by decide +kernel
theorem d_Foreteller_enter_31 : decode b_Foreteller_enter 31 = .ok (.getfield 37, 3) := by decide +kernel
theorem d_Foreteller_enter_34 : decode b_Foreteller_enter 34 = .ok (.iload_n 1, 1) := by decide +kernel
theorem d_Foreteller_enter_35 : decode b_Foreteller_enter 35 = .ok (.iconst 2, 1) := by decide +kernel
theorem d_Foreteller_enter_36 : decode b_Foreteller_enter 36 = .ok (.imul, 1) := by decide +kernel
theorem d_Foreteller_enter_37 : decode b_Foreteller_enter 37 = .ok (.iload_n 2, 1) := by decide +kernel
theorem d_Foreteller_enter_38 : decode b_Foreteller_enter 38 = .ok (.iadd, 1) := by decide +kernel
theorem d_Foreteller_enter_39 : decode b_Foreteller_enter 39 = .ok (.iaload, 1) := by decide +kernel
theorem d_Foreteller_enter_40 : decode b_Foreteller_enter 40 = .ok (.goto 4, 3) := by decide +kernel
theorem d_Foreteller_enter_0 : decode b_Foreteller_enter 0 = .ok (.aload_n 0, 1) := by decide +kernel
theorem d_Foreteller_enter_1 : decode b_Foreteller_enter 1 = .ok (.iconst 0, 1) := by decide +kernel
theorem d_Foreteller_enter_2 : decode b_Foreteller_enter 2 = .ok (.putfield 109, 3) := by decide +kernel
theorem d_Foreteller_enter_5 : decode b_Foreteller_enter 5 = .ok (.iconst 0, 1) := by decide +kernel
theorem d_Foreteller_enter_6 : decode b_Foreteller_enter 6 = .ok (.istore_n 2, 1) := by decide +kernel
theorem d_Foreteller_recall_0 : decode b_Foreteller_recall 0 = .ok (.aload_n 0, 1) := by decide +kernel
theorem d_Foreteller_recall_1 : decode b_Foreteller_recall 1 = .ok (.aload_n 0, 1) := by decide +kernel
theorem d_Foreteller_recall_2 : decode b_Foreteller_recall 2 = .ok (.getfield 15, 3) := by decide +kernel
theorem d_Foreteller_recall_5 : decode b_Foreteller_recall 5 = .ok (.iload_n 1, 1) := by decide +kernel
theorem d_Foreteller_recall_6 : decode b_Foreteller_recall 6 = .ok (.iaload, 1) := by decide +kernel
theorem d_Foreteller_recall_7 : decode b_Foreteller_recall 7 = .ok (.putfield 109, 3) := by decide +kernel
theorem d_Foreteller_recall_10 : decode b_Foreteller_recall 10 = .ok (.aload_n 0, 1) := by decide +kernel
theorem d_Foreteller_recall_11 : decode b_Foreteller_recall 11 = .ok (.getfield 31, 3) := by decide +kernel
theorem d_Foreteller_recall_14 : decode b_Foreteller_recall 14 = .ok (.iload_n 1, 1) := by decide +kernel
theorem d_Foreteller_recall_15 : decode b_Foreteller_recall 15 = .ok (.bipush 10, 2) := by decide +kernel
theorem d_Foreteller_recall_17 : decode b_Foreteller_recall 17 = .ok (.imul, 1) := by decide +kernel
theorem d_Foreteller_recall_18 : decode b_Foreteller_recall 18 = .ok (.aload_n 0, 1) := by decide +kernel
theorem d_Foreteller_recall_19 : decode b_Foreteller_recall 19 = .ok (.getfield 40, 3) := by decide +kernel
theorem d_Foreteller_recall_22 : decode b_Foreteller_recall 22 = .ok (.iconst 0, 1) := by decide +kernel
theorem d_Foreteller_recall_23 : decode b_Foreteller_recall 23 = .ok (.bipush 10, 2) := by decide +kernel
theorem d_Foreteller_recall_25 : decode b_Foreteller_recall 25 = .ok (.invokestatic 112, 3) := by decide +kernel
theorem d_Foreteller_recall_28 : decode b_Foreteller_recall 28 = .ok (.aload_n 0, 1) := by decide +kernel
theorem d_Foreteller_recall_29 : decode b_Foreteller_recall 29 = .ok (.getfield 34, 3) := by decide +kernel
theorem d_Foreteller_recall_32 : decode b_Foreteller_recall 32 = .ok (.iload_n 1, 1) := by decide +kernel
theorem d_Foreteller_recall_33 : decode b_Foreteller_recall 33 = .ok (.iconst 4, 1) := by decide +kernel
theorem d_Foreteller_recall_34 : decode b_Foreteller_recall 34 = .ok (.imul, 1) := by decide +kernel
theorem d_Foreteller_recall_35 : decode b_Foreteller_recall 35 = .ok (.aload_n 0, 1) := by decide +kernel
theorem d_Foreteller_recall_36 : decode b_Foreteller_recall 36 = .ok (.getfield 43, 3) := by decide +kernel
theorem d_Foreteller_recall_39 : decode b_Foreteller_recall 39 = .ok (.iconst 0, 1) := by decide +kernel
theorem d_Foreteller_recall_40 : decode b_Foreteller_recall 40 = .ok (.iconst 4, 1) := by decide +kernel
theorem d_Foreteller_recall_41 : decode b_Foreteller_recall 41 = .ok (.invokestatic 112, 3) := by decide +kernel
theorem d_Foreteller_recall_44 : decode b_Foreteller_recall 44 = .ok (.return_, 1) := by decide +kernel
theorem d_Foreteller_pop_0 : decode b_Foreteller_pop 0 = .ok (.aload_n 0, 1) := by decide +kernel
theorem d_Foreteller_pop_1 : decode b_Foreteller_pop 1 = .ok (.dup, 1) := by decide +kernel
theorem d_Foreteller_pop_2 : decode b_Foreteller_pop 2 = .ok (.getfield 109, 3) := by decide +kernel
theorem d_Foreteller_pop_5 : decode b_Foreteller_pop 5 = .ok (.iconst 1, 1) := by decide +kernel
theorem d_Foreteller_pop_6 : decode b_Foreteller_pop 6 = .ok (.isub, 1) := by decide +kernel
theorem d_Foreteller_pop_7 : decode b_Foreteller_pop 7 = .ok (.putfield 109, 3) := by decide +kernel
theorem d_Foreteller_pop_10 : decode b_Foreteller_pop 10 = .ok (.aload_n 0, 1) := by decide +kernel
theorem d_Foreteller_pop_11 : decode b_Foreteller_pop 11 = .ok (.getfield 40, 3) := by decide +kernel
theorem d_Foreteller_pop_14 : decode b_Foreteller_pop 14 = .ok (.aload_n 0, 1) := by decide +kernel
theorem d_Foreteller_pop_15 : decode b_Foreteller_pop 15 = .ok (.getfield 109, 3) := by decide +kernel
theorem d_Foreteller_pop_18 : decode b_Foreteller_pop 18 = .ok (.iaload, 1) := by decide +kernel
theorem d_Foreteller_pop_19 : decode b_Foreteller_pop 19 = .ok (.ireturn, 1) := by decide +kernel
theorem d_Ranges_least_0 : decode b_Ranges_least 0 = .ok (.iload_n 0, 1) := by decide +kernel
theorem d_Ranges_least_1 : decode b_Ranges_least 1 = .ok (.bipush 63, 2) := by decide +kernel
theorem d_Ranges_least_3 : decode b_Ranges_least 3 = .ok (.iand, 1) := by decide +kernel
theorem d_Ranges_least_4 : decode b_Ranges_least 4 = .ok (.ireturn, 1) := by decide +kernel
theorem d_Ranges_greatest_0 : decode b_Ranges_greatest 0 = .ok (.iload_n 0, 1) := by decide +kernel
theorem d_Ranges_greatest_1 : decode b_Ranges_greatest 1 = .ok (.sipush 4032, 3) := by decide +kernel
theorem d_Ranges_greatest_4 : decode b_Ranges_greatest 4 = .ok (.iand, 1) := by decide +kernel
theorem d_Ranges_greatest_5 : decode b_Ranges_greatest 5 = .ok (.bipush 64, 2) := by decide +kernel
theorem d_Ranges_greatest_7 : decode b_Ranges_greatest 7 = .ok (.idiv, 1) := by decide +kernel
theorem d_Ranges_greatest_8 : decode b_Ranges_greatest 8 = .ok (.ireturn, 1) := by decide +kernel
theorem d_Ranges_leastBoth_81 : decode b_Ranges_leastBoth 81 = .ok (.iload 4, 2) := by decide +kernel
theorem d_Ranges_leastBoth_83 : decode b_Ranges_leastBoth 83 = .ok (.iconst 2, 1) := by decide +kernel
theorem d_Ranges_leastBoth_84 : decode b_Ranges_leastBoth 84 = .ok (.idiv, 1) := by decide +kernel
theorem d_Ranges_leastBoth_85 : decode b_Ranges_leastBoth 85 = .ok (.istore 4, 2) := by decide +kernel
theorem d_Ranges_leastBoth_87 : decode b_Ranges_leastBoth 87 = .ok (.goto (-73), 3) := by decide +kernel
theorem d_Ranges_leastBoth_14 : decode b_Ranges_leastBoth 14 = .ok (.iload 4, 2) := by decide +kernel
theorem d_Ranges_leastBoth_16 : decode b_Ranges_leastBoth 16 = .ok (.ifCond .le 74, 3) := by decide +kernel
theorem d_Ranges_leastBoth_90 : decode b_Ranges_leastBoth 90 = .ok (.iload_n 2, 1) := by decide +kernel
theorem d_Ranges_leastBoth_91 : decode b_Ranges_leastBoth 91 = .ok (.iload_n 3, 1) := by decide +kernel
theorem d_Ranges_leastBoth_92 : decode b_Ranges_leastBoth 92 = .ok (.iand, 1) := by decide +kernel
theorem d_Ranges_leastBoth_93 : decode b_Ranges_leastBoth 93 = .ok (.ireturn, 1) := by decide +kernel
theorem d_Ranges_leastBoth_19 : decode b_Ranges_leastBoth 19 = .ok (.iload_n 2, 1) := by decide +kernel
theorem d_Ranges_leastBoth_20 : decode b_Ranges_leastBoth 20 = .ok (.iload 4, 2) := by decide +kernel
theorem d_Ranges_leastBoth_22 : decode b_Ranges_leastBoth 22 = .ok (.iand, 1) := by decide +kernel
theorem d_Ranges_leastBoth_23 : decode b_Ranges_leastBoth 23 = .ok (.ifCond .ne 58, 3) := by decide +kernel
theorem d_Ranges_leastBoth_26 : decode b_Ranges_leastBoth 26 = .ok (.iload_n 3, 1) := by decide +kernel
theorem d_Ranges_leastBoth_27 : decode b_Ranges_leastBoth 27 = .ok (.iload 4, 2) := by decide +kernel
theorem d_Ranges_leastBoth_29 : decode b_Ranges_leastBoth 29 = .ok (.iand, 1) := by decide +kernel
theorem d_Ranges_leastBoth_30 : decode b_Ranges_leastBoth 30 = .ok (.ifCond .ne 51, 3) := by decide +kernel
theorem d_Ranges_leastBoth_33 : decode b_Ranges_leastBoth 33 = .ok (.iload_n 2, 1) := by decide +kernel
theorem d_Ranges_leastBoth_34 : decode b_Ranges_leastBoth 34 = .ok (.iload 4, 2) := by decide +kernel
theorem d_Ranges_leastBoth_36 : decode b_Ranges_leastBoth 36 = .ok (.ior, 1) := by decide +kernel
theorem d_Ranges_leastBoth_37 : decode b_Ranges_leastBoth 37 = .ok (.iload 4, 2) := by decide +kernel
theorem d_Ranges_leastBoth_39 : decode b_Ranges_leastBoth 39 = .ok (.ineg, 1) := by decide +kernel
theorem d_Ranges_leastBoth_40 : decode b_Ranges_leastBoth 40 = .ok (.iand, 1) := by decide +kernel
theorem d_Ranges_leastBoth_41 : decode b_Ranges_leastBoth 41 = .ok (.istore 5, 2) := by decide +kernel
theorem d_Ranges_leastBoth_43 : decode b_Ranges_leastBoth 43 = .ok (.iload_n 3, 1) := by decide +kernel
theorem d_Ranges_leastBoth_44 : decode b_Ranges_leastBoth 44 = .ok (.iload 4, 2) := by decide +kernel
theorem d_Ranges_leastBoth_46 : decode b_Ranges_leastBoth 46 = .ok (.ior, 1) := by decide +kernel
theorem d_Ranges_leastBoth_47 : decode b_Ranges_leastBoth 47 = .ok (.iload 4, 2) := by decide +kernel
theorem d_Ranges_leastBoth_49 : decode b_Ranges_leastBoth 49 = .ok (.ineg, 1) := by decide +kernel
theorem d_Ranges_leastBoth_50 : decode b_Ranges_leastBoth 50 = .ok (.iand, 1) := by decide +kernel
theorem d_Ranges_leastBoth_51 : decode b_Ranges_leastBoth 51 = .ok (.istore 6, 2) := by decide +kernel
theorem d_Ranges_leastBoth_53 : decode b_Ranges_leastBoth 53 = .ok (.iload 5, 2) := by decide +kernel
theorem d_Ranges_leastBoth_55 : decode b_Ranges_leastBoth 55 = .ok (.iload_n 0, 1) := by decide +kernel
theorem d_Ranges_leastBoth_56 : decode b_Ranges_leastBoth 56 = .ok (.invokestatic 15, 3) := by decide +kernel
theorem d_Ranges_leastBoth_59 : decode b_Ranges_leastBoth 59 = .ok (.if_icmp .gt 8, 3) := by decide +kernel
theorem d_Ranges_leastBoth_67 : decode b_Ranges_leastBoth 67 = .ok (.iload 6, 2) := by decide +kernel
theorem d_Ranges_leastBoth_69 : decode b_Ranges_leastBoth 69 = .ok (.iload_n 1, 1) := by decide +kernel
theorem d_Ranges_leastBoth_70 : decode b_Ranges_leastBoth 70 = .ok (.invokestatic 15, 3) := by decide +kernel
theorem d_Ranges_leastBoth_73 : decode b_Ranges_leastBoth 73 = .ok (.if_icmp .gt 8, 3) := by decide +kernel
theorem d_Ranges_leastBoth_76 : decode b_Ranges_leastBoth 76 = .ok (.iload_n 2, 1) := by decide +kernel
theorem d_Ranges_leastBoth_77 : decode b_Ranges_leastBoth 77 = .ok (.iload 6, 2) := by decide +kernel
theorem d_Ranges_leastBoth_79 : decode b_Ranges_leastBoth 79 = .ok (.iand, 1) := by decide +kernel
theorem d_Ranges_leastBoth_80 : decode b_Ranges_leastBoth 80 = .ok (.ireturn, 1) := by decide +kernel
theorem d_Ranges_leastBoth_62 : decode b_Ranges_leastBoth 62 = .ok (.iload 5, 2) := by decide +kernel
theorem d_Ranges_leastBoth_64 : decode b_Ranges_leastBoth 64 = .ok (.iload_n 3, 1) := by decide +kernel
theorem d_Ranges_leastBoth_65 : decode b_Ranges_leastBoth 65 = .ok (.iand, 1) := by decide +kernel
theorem d_Ranges_leastBoth_66 : decode b_Ranges_leastBoth 66 = .ok (.ireturn, 1) := by decide +kernel
theorem d_Ranges_leastBoth_0 : decode b_Ranges_leastBoth 0 = .ok (.iload_n 0, 1) := by decide +kernel
theorem d_Ranges_leastBoth_1 : decode b_Ranges_leastBoth 1 = .ok (.invokestatic 11, 3) := by decide +kernel
theorem d_Ranges_leastBoth_4 : decode b_Ranges_leastBoth 4 = .ok (.istore_n 2, 1) := by decide +kernel
theorem d_Ranges_leastBoth_5 : decode b_Ranges_leastBoth 5 = .ok (.iload_n 1, 1) := by decide +kernel
theorem d_Ranges_leastBoth_6 : decode b_Ranges_leastBoth 6 = .ok (.invokestatic 11, 3) := by decide +kernel
theorem d_Ranges_leastBoth_9 : decode b_Ranges_leastBoth 9 = .ok (.istore_n 3, 1) := by decide +kernel
theorem d_Ranges_leastBoth_10 : decode b_Ranges_leastBoth 10 = .ok (.bipush 32, 2) := by decide +kernel
theorem d_Ranges_leastBoth_12 : decode b_Ranges_leastBoth 12 = .ok (.istore 4, 2) := by decide +kernel
theorem d_Ranges_greatestBoth_101 : decode b_Ranges_greatestBoth 101 = .ok (.iload 4, 2) := by decide +kernel
theorem d_Ranges_greatestBoth_103 : decode b_Ranges_greatestBoth 103 = .ok (.iconst 2, 1) := by decide +kernel
theorem d_Ranges_greatestBoth_104 : decode b_Ranges_greatestBoth 104 = .ok (.idiv, 1) := by decide +kernel
theorem d_Ranges_greatestBoth_105 : decode b_Ranges_greatestBoth 105 = .ok (.istore 4, 2) := by decide +kernel
theorem d_Ranges_greatestBoth_107 : decode b_Ranges_greatestBoth 107 = .ok (.goto (-93), 3) := by decide +kernel
theorem d_Ranges_greatestBoth_73 : decode b_Ranges_greatestBoth 73 = .ok (.iload_n 2, 1) := by decide +kernel
theorem d_Ranges_greatestBoth_74 : decode b_Ranges_greatestBoth 74 = .ok (.iload 4, 2) := by decide +kernel
theorem d_Ranges_greatestBoth_76 : decode b_Ranges_greatestBoth 76 = .ok (.iand, 1) := by decide +kernel
theorem d_Ranges_greatestBoth_77 : decode b_Ranges_greatestBoth 77 = .ok (.ifCond .ne 24, 3) := by decide +kernel
theorem d_Ranges_greatestBoth_80 : decode b_Ranges_greatestBoth 80 = .ok (.iload_n 3, 1) := by decide +kernel
theorem d_Ranges_greatestBoth_81 : decode b_Ranges_greatestBoth 81 = .ok (.iload 4, 2) := by decide +kernel
theorem d_Ranges_greatestBoth_83 : decode b_Ranges_greatestBoth 83 = .ok (.iand, 1) := by decide +kernel
theorem d_Ranges_greatestBoth_84 : decode b_Ranges_greatestBoth 84 = .ok (.ifCond .eq 17, 3) := by decide +kernel
theorem d_Ranges_greatestBoth_87 : decode b_Ranges_greatestBoth 87 = .ok (.iload 6, 2) := by decide +kernel
theorem d_Ranges_greatestBoth_89 : decode b_Ranges_greatestBoth 89 = .ok (.iload_n 1, 1) := by decide +kernel
theorem d_Ranges_greatestBoth_90 : decode b_Ranges_greatestBoth 90 = .ok (.invokestatic 11, 3) := by decide +kernel
theorem d_Ranges_greatestBoth_93 : decode b_Ranges_greatestBoth 93 = .ok (.if_icmp .lt 8, 3) := by decide +kernel
theorem d_Ranges_greatestBoth_96 : decode b_Ranges_greatestBoth 96 = .ok (.iload_n 2, 1) := by decide +kernel
theorem d_Ranges_greatestBoth_97 : decode b_Ranges_greatestBoth 97 = .ok (.iload 6, 2) := by decide +kernel
theorem d_Ranges_greatestBoth_99 : decode b_Ranges_greatestBoth 99 = .ok (.iand, 1) := by decide +kernel
theorem d_Ranges_greatestBoth_100 : decode b_Ranges_greatestBoth 100 = .ok (.ireturn, 1) := by decide +kernel
theorem d_Ranges_greatestBoth_14 : decode b_Ranges_greatestBoth 14 = .ok (.iload 4, 2) := by decide +kernel
theorem d_Ranges_greatestBoth_16 : decode b_Ranges_greatestBoth 16 = .ok (.ifCond .le 94, 3) := by decide +kernel
theorem d_Ranges_greatestBoth_110 : decode b_Ranges_greatestBoth 110 = .ok (.iload_n 2, 1) := by decide +kernel
theorem d_Ranges_greatestBoth_111 : decode b_Ranges_greatestBoth 111 = .ok (.iload_n 3, 1) := by decide +kernel
theorem d_Ranges_greatestBoth_112 : decode b_Ranges_greatestBoth 112 = .ok (.iand, 1) := by decide +kernel
theorem d_Ranges_greatestBoth_113 : decode b_Ranges_greatestBoth 113 = .ok (.ireturn, 1) := by decide +kernel
theorem d_Ranges_greatestBoth_19 : decode b_Ranges_greatestBoth 19 = .ok (.iload_n 2, 1) := by decide +kernel
theorem d_Ranges_greatestBoth_20 : decode b_Ranges_greatestBoth 20 = .ok (.iload 4, 2) := by decide +kernel
theorem d_Ranges_greatestBoth_22 : decode b_Ranges_greatestBoth 22 = .ok (.iconst (-1), 1) := by decide +kernel
theorem d_Ranges_greatestBoth_23 : decode b_Ranges_greatestBoth 23 = .ok (.ixor, 1) := by decide +kernel
theorem d_Ranges_greatestBoth_24 : decode b_Ranges_greatestBoth 24 = .ok (.iand, 1) := by decide +kernel
theorem d_Ranges_greatestBoth_25 : decode b_Ranges_greatestBoth 25 = .ok (.iload 4, 2) := by decide +kernel
theorem d_Ranges_greatestBoth_27 : decode b_Ranges_greatestBoth 27 = .ok (.iconst 1, 1) := by decide +kernel
theorem d_Ranges_greatestBoth_28 : decode b_Ranges_greatestBoth 28 = .ok (.isub, 1) := by decide +kernel
theorem d_Ranges_greatestBoth_29 : decode b_Ranges_greatestBoth 29 = .ok (.ior, 1) := by decide +kernel
theorem d_Ranges_greatestBoth_30 : decode b_Ranges_greatestBoth 30 = .ok (.istore 5, 2) := by decide +kernel
theorem d_Ranges_greatestBoth_32 : decode b_Ranges_greatestBoth 32 = .ok (.iload_n 3, 1) := by decide +kernel
theorem d_Ranges_greatestBoth_33 : decode b_Ranges_greatestBoth 33 = .ok (.iload 4, 2) := by decide +kernel
theorem d_Ranges_greatestBoth_35 : decode b_Ranges_greatestBoth 35 = .ok (.iconst (-1), 1) := by decide +kernel
theorem d_Ranges_greatestBoth_36 : decode b_Ranges_greatestBoth 36 = .ok (.ixor, 1) := by decide +kernel
theorem d_Ranges_greatestBoth_37 : decode b_Ranges_greatestBoth 37 = .ok (.iand, 1) := by decide +kernel
theorem d_Ranges_greatestBoth_38 : decode b_Ranges_greatestBoth 38 = .ok (.iload 4, 2) := by decide +kernel
theorem d_Ranges_greatestBoth_40 : decode b_Ranges_greatestBoth 40 = .ok (.iconst 1, 1) := by decide +kernel
theorem d_Ranges_greatestBoth_41 : decode b_Ranges_greatestBoth 41 = .ok (.isub, 1) := by decide +kernel
theorem d_Ranges_greatestBoth_42 : decode b_Ranges_greatestBoth 42 = .ok (.ior, 1) := by decide +kernel
theorem d_Ranges_greatestBoth_43 : decode b_Ranges_greatestBoth 43 = .ok (.istore 6, 2) := by decide +kernel
theorem d_Ranges_greatestBoth_45 : decode b_Ranges_greatestBoth 45 = .ok (.iload_n 2, 1) := by decide +kernel
theorem d_Ranges_greatestBoth_46 : decode b_Ranges_greatestBoth 46 = .ok (.iload 4, 2) := by decide +kernel
theorem d_Ranges_greatestBoth_48 : decode b_Ranges_greatestBoth 48 = .ok (.iand, 1) := by decide +kernel
theorem d_Ranges_greatestBoth_49 : decode b_Ranges_greatestBoth 49 = .ok (.ifCond .eq 24, 3) := by decide +kernel
theorem d_Ranges_greatestBoth_52 : decode b_Ranges_greatestBoth 52 = .ok (.iload_n 3, 1) := by decide +kernel
theorem d_Ranges_greatestBoth_53 : decode b_Ranges_greatestBoth 53 = .ok (.iload 4, 2) := by decide +kernel
theorem d_Ranges_greatestBoth_55 : decode b_Ranges_greatestBoth 55 = .ok (.iand, 1) := by decide +kernel
theorem d_Ranges_greatestBoth_56 : decode b_Ranges_greatestBoth 56 = .ok (.ifCond .ne 17, 3) := by decide +kernel
theorem d_Ranges_greatestBoth_59 : decode b_Ranges_greatestBoth 59 = .ok (.iload 5, 2) := by decide +kernel
theorem d_Ranges_greatestBoth_61 : decode b_Ranges_greatestBoth 61 = .ok (.iload_n 0, 1) := by decide +kernel
theorem d_Ranges_greatestBoth_62 : decode b_Ranges_greatestBoth 62 = .ok (.invokestatic 11, 3) := by decide +kernel
theorem d_Ranges_greatestBoth_65 : decode b_Ranges_greatestBoth 65 = .ok (.if_icmp .lt 8, 3) := by decide +kernel
theorem d_Ranges_greatestBoth_68 : decode b_Ranges_greatestBoth 68 = .ok (.iload 5, 2) := by decide +kernel
theorem d_Ranges_greatestBoth_70 : decode b_Ranges_greatestBoth 70 = .ok (.iload_n 3, 1) := by decide +kernel
theorem d_Ranges_greatestBoth_71 : decode b_Ranges_greatestBoth 71 = .ok (.iand, 1) := by decide +kernel
theorem d_Ranges_greatestBoth_72 : decode b_Ranges_greatestBoth 72 = .ok (.ireturn, 1) := by decide +kernel
theorem d_Ranges_greatestBoth_0 : decode b_Ranges_greatestBoth 0 = .ok (.iload_n 0, 1) := by decide +kernel
theorem d_Ranges_greatestBoth_1 : decode b_Ranges_greatestBoth 1 = .ok (.invokestatic 15, 3) := by decide +kernel
theorem d_Ranges_greatestBoth_4 : decode b_Ranges_greatestBoth 4 = .ok (.istore_n 2, 1) := by decide +kernel
theorem d_Ranges_greatestBoth_5 : decode b_Ranges_greatestBoth 5 = .ok (.iload_n 1, 1) := by decide +kernel
theorem d_Ranges_greatestBoth_6 : decode b_Ranges_greatestBoth 6 = .ok (.invokestatic 15, 3) := by decide +kernel
theorem d_Ranges_greatestBoth_9 : decode b_Ranges_greatestBoth 9 = .ok (.istore_n 3, 1) := by decide +kernel
theorem d_Ranges_greatestBoth_10 : decode b_Ranges_greatestBoth 10 = .ok (.bipush 32, 2) := by decide +kernel
theorem d_Ranges_greatestBoth_12 : decode b_Ranges_greatestBoth 12 = .ok (.istore 4, 2) := by decide +kernel
theorem d_Ranges_of_0 : decode b_Ranges_of 0 = .ok (.iload_n 0, 1) := by decide +kernel
theorem d_Ranges_of_1 : decode b_Ranges_of 1 = .ok (.bipush 64, 2) := by decide +kernel
theorem d_Ranges_of_3 : decode b_Ranges_of 3 = .ok (.iload_n 1, 1) := by decide +kernel
theorem d_Ranges_of_4 : decode b_Ranges_of 4 = .ok (.imul, 1) := by decide +kernel
theorem d_Ranges_of_5 : decode b_Ranges_of 5 = .ok (.iadd, 1) := by decide +kernel
theorem d_Ranges_of_6 : decode b_Ranges_of 6 = .ok (.ireturn, 1) := by decide +kernel
theorem d_Ranges_rest_107 : decode b_Ranges_rest 107 = .ok (.invokestatic 71, 3) := by decide +kernel
theorem d_Ranges_rest_110 : decode b_Ranges_rest 110 = .ok (.istore_n 3, 1) := by decide +kernel
theorem d_Ranges_rest_111 : decode b_Ranges_rest 111 = .ok (.iinc 4 1, 3) := by decide +kernel
theorem d_Ranges_rest_114 : decode b_Ranges_rest 114 = .ok (.goto (-89), 3) := by decide +kernel
theorem d_Ranges_rest_88 : decode b_Ranges_rest 88 = .ok (.invokestatic 68, 3) := by decide +kernel
theorem d_Ranges_rest_91 : decode b_Ranges_rest 91 = .ok (.istore_n 2, 1) := by decide +kernel
theorem d_Ranges_rest_92 : decode b_Ranges_rest 92 = .ok (.iload_n 3, 1) := by decide +kernel
theorem d_Ranges_rest_93 : decode b_Ranges_rest 93 = .ok (.iload 7, 2) := by decide +kernel
theorem d_Ranges_rest_95 : decode b_Ranges_rest 95 = .ok (.ifCond .eq 10, 3) := by decide +kernel
theorem d_Ranges_rest_105 : decode b_Ranges_rest 105 = .ok (.iload 6, 2) := by decide +kernel
theorem d_Ranges_rest_98 : decode b_Ranges_rest 98 = .ok (.iload 4, 2) := by decide +kernel
theorem d_Ranges_rest_100 : decode b_Ranges_rest 100 = .ok (.iconst 1, 1) := by decide +kernel
theorem d_Ranges_rest_101 : decode b_Ranges_rest 101 = .ok (.isub, 1) := by decide +kernel
theorem d_Ranges_rest_102 : decode b_Ranges_rest 102 = .ok (.goto 5, 3) := by decide +kernel
theorem d_Ranges_rest_74 : decode b_Ranges_rest 74 = .ok (.istore 7, 2) := by decide +kernel
theorem d_Ranges_rest_76 : decode b_Ranges_rest 76 = .ok (.iload_n 2, 1) := by decide +kernel
theorem d_Ranges_rest_77 : decode b_Ranges_rest 77 = .ok (.iload 7, 2) := by decide +kernel
theorem d_Ranges_rest_79 : decode b_Ranges_rest 79 = .ok (.ifCond .eq 7, 3) := by decide +kernel
theorem d_Ranges_rest_86 : decode b_Ranges_rest 86 = .ok (.iload 5, 2) := by decide +kernel
theorem d_Ranges_rest_82 : decode b_Ranges_rest 82 = .ok (.iconst 0, 1) := by decide +kernel
theorem d_Ranges_rest_83 : decode b_Ranges_rest 83 = .ok (.goto 5, 3) := by decide +kernel
theorem d_Ranges_rest_25 : decode b_Ranges_rest 25 = .ok (.iload 4, 2) := by decide +kernel
theorem d_Ranges_rest_27 : decode b_Ranges_rest 27 = .ok (.iload_n 1, 1) := by decide +kernel
theorem d_Ranges_rest_28 : decode b_Ranges_rest 28 = .ok (.invokestatic 15, 3) := by decide +kernel
theorem d_Ranges_rest_31 : decode b_Ranges_rest 31 = .ok (.if_icmp .gt 86, 3) := by decide +kernel
theorem d_Ranges_rest_117 : decode b_Ranges_rest 117 = .ok (.iload_n 2, 1) := by decide +kernel
theorem d_Ranges_rest_118 : decode b_Ranges_rest 118 = .ok (.iload_n 3, 1) := by decide +kernel
theorem d_Ranges_rest_119 : decode b_Ranges_rest 119 = .ok (.invokestatic 57, 3) := by decide +kernel
theorem d_Ranges_rest_122 : decode b_Ranges_rest 122 = .ok (.ireturn, 1) := by decide +kernel
theorem d_Ranges_rest_34 : decode b_Ranges_rest 34 = .ok (.iload_n 0, 1) := by decide +kernel
theorem d_Ranges_rest_35 : decode b_Ranges_rest 35 = .ok (.invokestatic 11, 3) := by decide +kernel
theorem d_Ranges_rest_38 : decode b_Ranges_rest 38 = .ok (.iload 4, 2) := by decide +kernel
theorem d_Ranges_rest_40 : decode b_Ranges_rest 40 = .ok (.irem, 1) := by decide +kernel
theorem d_Ranges_rest_41 : decode b_Ranges_rest 41 = .ok (.istore 5, 2) := by decide +kernel
theorem d_Ranges_rest_43 : decode b_Ranges_rest 43 = .ok (.iload_n 0, 1) := by decide +kernel
theorem d_Ranges_rest_44 : decode b_Ranges_rest 44 = .ok (.invokestatic 15, 3) := by decide +kernel
theorem d_Ranges_rest_47 : decode b_Ranges_rest 47 = .ok (.iload 4, 2) := by decide +kernel
theorem d_Ranges_rest_49 : decode b_Ranges_rest 49 = .ok (.irem, 1) := by decide +kernel
theorem d_Ranges_rest_50 : decode b_Ranges_rest 50 = .ok (.istore 6, 2) := by decide +kernel
theorem d_Ranges_rest_52 : decode b_Ranges_rest 52 = .ok (.iload_n 0, 1) := by decide +kernel
theorem d_Ranges_rest_53 : decode b_Ranges_rest 53 = .ok (.invokestatic 11, 3) := by decide +kernel
theorem d_Ranges_rest_56 : decode b_Ranges_rest 56 = .ok (.iload 4, 2) := by decide +kernel
theorem d_Ranges_rest_58 : decode b_Ranges_rest 58 = .ok (.idiv, 1) := by decide +kernel
theorem d_Ranges_rest_59 : decode b_Ranges_rest 59 = .ok (.iload_n 0, 1) := by decide +kernel
theorem d_Ranges_rest_60 : decode b_Ranges_rest 60 = .ok (.invokestatic 15, 3) := by decide +kernel
theorem d_Ranges_rest_63 : decode b_Ranges_rest 63 = .ok (.iload 4, 2) := by decide +kernel
theorem d_Ranges_rest_65 : decode b_Ranges_rest 65 = .ok (.idiv, 1) := by decide +kernel
theorem d_Ranges_rest_66 : decode b_Ranges_rest 66 = .ok (.if_icmp .eq 7, 3) := by decide +kernel
theorem d_Ranges_rest_73 : decode b_Ranges_rest 73 = .ok (.iconst 0, 1) := by decide +kernel
theorem d_Ranges_rest_69 : decode b_Ranges_rest 69 = .ok (.iconst 1, 1) := by decide +kernel
theorem d_Ranges_rest_70 : decode b_Ranges_rest 70 = .ok (.goto 4, 3) := by decide +kernel
theorem d_Ranges_rest_0 : decode b_Ranges_rest 0 = .ok (.iload_n 1, 1) := by decide +kernel
theorem d_Ranges_rest_1 : decode b_Ranges_rest 1 = .ok (.invokestatic 15, 3) := by decide +kernel
theorem d_Ranges_rest_4 : decode b_Ranges_rest 4 = .ok (.ifCond .ne 6, 3) := by decide +kernel
theorem d_Ranges_rest_10 : decode b_Ranges_rest 10 = .ok (.bipush 63, 2) := by decide +kernel
theorem d_Ranges_rest_12 : decode b_Ranges_rest 12 = .ok (.istore_n 2, 1) := by decide +kernel
theorem d_Ranges_rest_13 : decode b_Ranges_rest 13 = .ok (.iconst 0, 1) := by decide +kernel
theorem d_Ranges_rest_14 : decode b_Ranges_rest 14 = .ok (.istore_n 3, 1) := by decide +kernel
theorem d_Ranges_rest_15 : decode b_Ranges_rest 15 = .ok (.iconst 1, 1) := by decide +kernel
theorem d_Ranges_rest_16 : decode b_Ranges_rest 16 = .ok (.iload_n 1, 1) := by decide +kernel
theorem d_Ranges_rest_17 : decode b_Ranges_rest 17 = .ok (.invokestatic 11, 3) := by decide +kernel
theorem d_Ranges_rest_20 : decode b_Ranges_rest 20 = .ok (.invokestatic 71, 3) := by decide +kernel
theorem d_Ranges_rest_23 : decode b_Ranges_rest 23 = .ok (.istore 4, 2) := by decide +kernel
theorem d_Ranges_rest_7 : decode b_Ranges_rest 7 = .ok (.bipush (-3), 2) := by decide +kernel
theorem d_Ranges_rest_9 : decode b_Ranges_rest 9 = .ok (.ireturn, 1) := by decide +kernel
theorem d_Ranges_over_0 : decode b_Ranges_over 0 = .ok (.iload_n 1, 1) := by decide +kernel
theorem d_Ranges_over_1 : decode b_Ranges_over 1 = .ok (.invokestatic 15, 3) := by decide +kernel
theorem d_Ranges_over_4 : decode b_Ranges_over 4 = .ok (.istore_n 2, 1) := by decide +kernel
theorem d_Ranges_over_5 : decode b_Ranges_over 5 = .ok (.iload_n 2, 1) := by decide +kernel
theorem d_Ranges_over_6 : decode b_Ranges_over 6 = .ok (.ifCond .ne 6, 3) := by decide +kernel
theorem d_Ranges_over_12 : decode b_Ranges_over 12 = .ok (.iload_n 0, 1) := by decide +kernel
theorem d_Ranges_over_13 : decode b_Ranges_over 13 = .ok (.invokestatic 11, 3) := by decide +kernel
theorem d_Ranges_over_16 : decode b_Ranges_over 16 = .ok (.iload_n 2, 1) := by decide +kernel
theorem d_Ranges_over_17 : decode b_Ranges_over 17 = .ok (.idiv, 1) := by decide +kernel
theorem d_Ranges_over_18 : decode b_Ranges_over 18 = .ok (.iload_n 0, 1) := by decide +kernel
theorem d_Ranges_over_19 : decode b_Ranges_over 19 = .ok (.invokestatic 15, 3) := by decide +kernel
theorem d_Ranges_over_22 : decode b_Ranges_over 22 = .ok (.iconst 1, 1) := by decide +kernel
theorem d_Ranges_over_23 : decode b_Ranges_over 23 = .ok (.iload_n 1, 1) := by decide +kernel
theorem d_Ranges_over_24 : decode b_Ranges_over 24 = .ok (.invokestatic 11, 3) := by decide +kernel
