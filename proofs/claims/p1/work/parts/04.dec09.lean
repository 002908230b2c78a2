theorem d_RangeTellerModel_memory_14 : decode b_RangeTellerModel_memory 14 = .ok (.if_icmp .le 8, 3) := by decide +kernel
theorem d_RangeTellerModel_memory_22 : decode b_RangeTellerModel_memory 22 = .ok (.aload_n 0, 1) := by decide +kernel
theorem d_RangeTellerModel_memory_23 : decode b_RangeTellerModel_memory 23 = .ok (.getfield 84, 3) := by decide +kernel
theorem d_RangeTellerModel_memory_26 : decode b_RangeTellerModel_memory 26 = .ok (.iload_n 1, 1) := by decide +kernel
theorem d_RangeTellerModel_memory_27 : decode b_RangeTellerModel_memory 27 = .ok (.iaload, 1) := by decide +kernel
theorem d_RangeTellerModel_flags_67 : decode b_RangeTellerModel_flags 67 = .ok (.iaload, 1) := by decide +kernel
theorem d_RangeTellerModel_flags_68 : decode b_RangeTellerModel_flags 68 = .ok (.aload_n 0, 1) := by decide +kernel
theorem d_RangeTellerModel_flags_69 : decode b_RangeTellerModel_flags 69 = .ok (.getfield 20, 3) := by decide +kernel
theorem d_RangeTellerModel_flags_72 : decode b_RangeTellerModel_flags 72 = .ok (.iload_n 1, 1) := by decide +kernel
theorem d_RangeTellerModel_flags_73 : decode b_RangeTellerModel_flags 73 = .ok (.iaload, 1) := by decide +kernel
theorem d_RangeTellerModel_flags_74 : decode b_RangeTellerModel_flags 74 = .ok (.iadd, 1) := by decide +kernel
theorem d_RangeTellerModel_flags_75 : decode b_RangeTellerModel_flags 75 = .ok (.bipush 15, 2) := by decide +kernel
theorem d_RangeTellerModel_flags_77 : decode b_RangeTellerModel_flags 77 = .ok (.if_icmp .le 7, 3) := by decide +kernel
theorem d_RangeTellerModel_flags_84 : decode b_RangeTellerModel_flags 84 = .ok (.iconst 0, 1) := by decide +kernel
theorem d_RangeTellerModel_flags_85 : decode b_RangeTellerModel_flags 85 = .ok (.ireturn, 1) := by decide +kernel
theorem d_RangeTellerModel_flags_80 : decode b_RangeTellerModel_flags 80 = .ok (.iconst 2, 1) := by decide +kernel
theorem d_RangeTellerModel_flags_81 : decode b_RangeTellerModel_flags 81 = .ok (.goto 4, 3) := by decide +kernel
theorem d_RangeTellerModel_flags_50 : decode b_RangeTellerModel_flags 50 = .ok (.aload_n 0, 1) := by decide +kernel
theorem d_RangeTellerModel_flags_51 : decode b_RangeTellerModel_flags 51 = .ok (.getfield 99, 3) := by decide +kernel
theorem d_RangeTellerModel_flags_54 : decode b_RangeTellerModel_flags 54 = .ok (.iload_n 2, 1) := by decide +kernel
theorem d_RangeTellerModel_flags_55 : decode b_RangeTellerModel_flags 55 = .ok (.bipush 15, 2) := by decide +kernel
theorem d_RangeTellerModel_flags_57 : decode b_RangeTellerModel_flags 57 = .ok (.if_icmp .ne 7, 3) := by decide +kernel
theorem d_RangeTellerModel_flags_64 : decode b_RangeTellerModel_flags 64 = .ok (.iload_n 3, 1) := by decide +kernel
theorem d_RangeTellerModel_flags_65 : decode b_RangeTellerModel_flags 65 = .ok (.iconst 1, 1) := by decide +kernel
theorem d_RangeTellerModel_flags_66 : decode b_RangeTellerModel_flags 66 = .ok (.isub, 1) := by decide +kernel
theorem d_RangeTellerModel_flags_60 : decode b_RangeTellerModel_flags 60 = .ok (.iload_n 3, 1) := by decide +kernel
theorem d_RangeTellerModel_flags_61 : decode b_RangeTellerModel_flags 61 = .ok (.goto 6, 3) := by decide +kernel
theorem d_RangeTellerModel_flags_98 : decode b_RangeTellerModel_flags 98 = .ok (.aload_n 0, 1) := by decide +kernel
theorem d_RangeTellerModel_flags_99 : decode b_RangeTellerModel_flags 99 = .ok (.getfield 96, 3) := by decide +kernel
theorem d_RangeTellerModel_flags_102 : decode b_RangeTellerModel_flags 102 = .ok (.iload_n 3, 1) := by decide +kernel
theorem d_RangeTellerModel_flags_103 : decode b_RangeTellerModel_flags 103 = .ok (.iaload, 1) := by decide +kernel
theorem d_RangeTellerModel_flags_104 : decode b_RangeTellerModel_flags 104 = .ok (.ifCond .ne 7, 3) := by decide +kernel
theorem d_RangeTellerModel_flags_111 : decode b_RangeTellerModel_flags 111 = .ok (.iconst 0, 1) := by decide +kernel
theorem d_RangeTellerModel_flags_112 : decode b_RangeTellerModel_flags 112 = .ok (.ireturn, 1) := by decide +kernel
theorem d_RangeTellerModel_flags_107 : decode b_RangeTellerModel_flags 107 = .ok (.iconst 4, 1) := by decide +kernel
theorem d_RangeTellerModel_flags_108 : decode b_RangeTellerModel_flags 108 = .ok (.goto 4, 3) := by decide +kernel
theorem d_RangeTellerModel_flags_0 : decode b_RangeTellerModel_flags 0 = .ok (.aload_n 0, 1) := by decide +kernel
theorem d_RangeTellerModel_flags_1 : decode b_RangeTellerModel_flags 1 = .ok (.getfield 90, 3) := by decide +kernel
theorem d_RangeTellerModel_flags_4 : decode b_RangeTellerModel_flags 4 = .ok (.iload_n 1, 1) := by decide +kernel
theorem d_RangeTellerModel_flags_5 : decode b_RangeTellerModel_flags 5 = .ok (.baload, 1) := by decide +kernel
theorem d_RangeTellerModel_flags_6 : decode b_RangeTellerModel_flags 6 = .ok (.ifCond .ne 5, 3) := by decide +kernel
theorem d_RangeTellerModel_flags_11 : decode b_RangeTellerModel_flags 11 = .ok (.aload_n 0, 1) := by decide +kernel
theorem d_RangeTellerModel_flags_12 : decode b_RangeTellerModel_flags 12 = .ok (.getfield 17, 3) := by decide +kernel
theorem d_RangeTellerModel_flags_15 : decode b_RangeTellerModel_flags 15 = .ok (.iload_n 1, 1) := by decide +kernel
theorem d_RangeTellerModel_flags_16 : decode b_RangeTellerModel_flags 16 = .ok (.iaload, 1) := by decide +kernel
theorem d_RangeTellerModel_flags_17 : decode b_RangeTellerModel_flags 17 = .ok (.istore_n 2, 1) := by decide +kernel
theorem d_RangeTellerModel_flags_18 : decode b_RangeTellerModel_flags 18 = .ok (.bipush 10, 2) := by decide +kernel
theorem d_RangeTellerModel_flags_20 : decode b_RangeTellerModel_flags 20 = .ok (.iload_n 1, 1) := by decide +kernel
theorem d_RangeTellerModel_flags_21 : decode b_RangeTellerModel_flags 21 = .ok (.imul, 1) := by decide +kernel
theorem d_RangeTellerModel_flags_22 : decode b_RangeTellerModel_flags 22 = .ok (.aload_n 0, 1) := by decide +kernel
theorem d_RangeTellerModel_flags_23 : decode b_RangeTellerModel_flags 23 = .ok (.getfield 32, 3) := by decide +kernel
theorem d_RangeTellerModel_flags_26 : decode b_RangeTellerModel_flags 26 = .ok (.iload_n 1, 1) := by decide +kernel
theorem d_RangeTellerModel_flags_27 : decode b_RangeTellerModel_flags 27 = .ok (.iaload, 1) := by decide +kernel
theorem d_RangeTellerModel_flags_28 : decode b_RangeTellerModel_flags 28 = .ok (.iadd, 1) := by decide +kernel
theorem d_RangeTellerModel_flags_29 : decode b_RangeTellerModel_flags 29 = .ok (.iconst 1, 1) := by decide +kernel
theorem d_RangeTellerModel_flags_30 : decode b_RangeTellerModel_flags 30 = .ok (.isub, 1) := by decide +kernel
theorem d_RangeTellerModel_flags_31 : decode b_RangeTellerModel_flags 31 = .ok (.istore_n 3, 1) := by decide +kernel
theorem d_RangeTellerModel_flags_32 : decode b_RangeTellerModel_flags 32 = .ok (.iload_n 2, 1) := by decide +kernel
theorem d_RangeTellerModel_flags_33 : decode b_RangeTellerModel_flags 33 = .ok (.ifCond .ne 5, 3) := by decide +kernel
theorem d_RangeTellerModel_flags_38 : decode b_RangeTellerModel_flags 38 = .ok (.iload_n 2, 1) := by decide +kernel
theorem d_RangeTellerModel_flags_39 : decode b_RangeTellerModel_flags 39 = .ok (.bipush 15, 2) := by decide +kernel
theorem d_RangeTellerModel_flags_41 : decode b_RangeTellerModel_flags 41 = .ok (.if_icmp .eq 9, 3) := by decide +kernel
theorem d_RangeTellerModel_flags_44 : decode b_RangeTellerModel_flags 44 = .ok (.iload_n 2, 1) := by decide +kernel
theorem d_RangeTellerModel_flags_45 : decode b_RangeTellerModel_flags 45 = .ok (.bipush 16, 2) := by decide +kernel
theorem d_RangeTellerModel_flags_47 : decode b_RangeTellerModel_flags 47 = .ok (.if_icmp .ne 39, 3) := by decide +kernel
theorem d_RangeTellerModel_flags_86 : decode b_RangeTellerModel_flags 86 = .ok (.iload_n 2, 1) := by decide +kernel
theorem d_RangeTellerModel_flags_87 : decode b_RangeTellerModel_flags 87 = .ok (.bipush 24, 2) := by decide +kernel
theorem d_RangeTellerModel_flags_89 : decode b_RangeTellerModel_flags 89 = .ok (.if_icmp .eq 9, 3) := by decide +kernel
theorem d_RangeTellerModel_flags_92 : decode b_RangeTellerModel_flags 92 = .ok (.iload_n 2, 1) := by decide +kernel
theorem d_RangeTellerModel_flags_93 : decode b_RangeTellerModel_flags 93 = .ok (.bipush 25, 2) := by decide +kernel
theorem d_RangeTellerModel_flags_95 : decode b_RangeTellerModel_flags 95 = .ok (.if_icmp .ne 18, 3) := by decide +kernel
theorem d_RangeTellerModel_flags_113 : decode b_RangeTellerModel_flags 113 = .ok (.iload_n 2, 1) := by decide +kernel
theorem d_RangeTellerModel_flags_114 : decode b_RangeTellerModel_flags 114 = .ok (.bipush 28, 2) := by decide +kernel
theorem d_RangeTellerModel_flags_116 : decode b_RangeTellerModel_flags 116 = .ok (.if_icmp .ne 17, 3) := by decide +kernel
theorem d_RangeTellerModel_flags_133 : decode b_RangeTellerModel_flags 133 = .ok (.iconst 0, 1) := by decide +kernel
theorem d_RangeTellerModel_flags_134 : decode b_RangeTellerModel_flags 134 = .ok (.ireturn, 1) := by decide +kernel
theorem d_RangeTellerModel_flags_119 : decode b_RangeTellerModel_flags 119 = .ok (.aload_n 0, 1) := by decide +kernel
theorem d_RangeTellerModel_flags_120 : decode b_RangeTellerModel_flags 120 = .ok (.getfield 102, 3) := by decide +kernel
theorem d_RangeTellerModel_flags_123 : decode b_RangeTellerModel_flags 123 = .ok (.iload_n 3, 1) := by decide +kernel
theorem d_RangeTellerModel_flags_124 : decode b_RangeTellerModel_flags 124 = .ok (.baload, 1) := by decide +kernel
theorem d_RangeTellerModel_flags_125 : decode b_RangeTellerModel_flags 125 = .ok (.ifCond .eq 8, 3) := by decide +kernel
theorem d_RangeTellerModel_flags_128 : decode b_RangeTellerModel_flags 128 = .ok (.bipush 8, 2) := by decide +kernel
theorem d_RangeTellerModel_flags_130 : decode b_RangeTellerModel_flags 130 = .ok (.goto 4, 3) := by decide +kernel
theorem d_RangeTellerModel_flags_36 : decode b_RangeTellerModel_flags 36 = .ok (.iconst 1, 1) := by decide +kernel
theorem d_RangeTellerModel_flags_37 : decode b_RangeTellerModel_flags 37 = .ok (.ireturn, 1) := by decide +kernel
theorem d_RangeTellerModel_flags_9 : decode b_RangeTellerModel_flags 9 = .ok (.iconst 0, 1) := by decide +kernel
theorem d_RangeTellerModel_flags_10 : decode b_RangeTellerModel_flags 10 = .ok (.ireturn, 1) := by decide +kernel
theorem d_RangeTellerModel_isInstruction_0 : decode b_RangeTellerModel_isInstruction 0 = .ok (.aload_n 0, 1) := by decide +kernel
theorem d_RangeTellerModel_isInstruction_1 : decode b_RangeTellerModel_isInstruction 1 = .ok (.getfield 227, 3) := by decide +kernel
theorem d_RangeTellerModel_isInstruction_4 : decode b_RangeTellerModel_isInstruction 4 = .ok (.ifCond .eq 19, 3) := by decide +kernel
theorem d_RangeTellerModel_isInstruction_23 : decode b_RangeTellerModel_isInstruction 23 = .ok (.iconst 0, 1) := by decide +kernel
theorem d_RangeTellerModel_isInstruction_24 : decode b_RangeTellerModel_isInstruction 24 = .ok (.ireturn, 1) := by decide +kernel
theorem d_RangeTellerModel_isInstruction_7 : decode b_RangeTellerModel_isInstruction 7 = .ok (.iload_n 1, 1) := by decide +kernel
theorem d_RangeTellerModel_isInstruction_8 : decode b_RangeTellerModel_isInstruction 8 = .ok (.ifCond .lt 15, 3) := by decide +kernel
theorem d_RangeTellerModel_isInstruction_11 : decode b_RangeTellerModel_isInstruction 11 = .ok (.iload_n 1, 1) := by decide +kernel
theorem d_RangeTellerModel_isInstruction_12 : decode b_RangeTellerModel_isInstruction 12 = .ok (.aload_n 0, 1) := by decide +kernel
theorem d_RangeTellerModel_isInstruction_13 : decode b_RangeTellerModel_isInstruction 13 = .ok (.getfield 171, 3) := by decide +kernel
theorem d_RangeTellerModel_isInstruction_16 : decode b_RangeTellerModel_isInstruction 16 = .ok (.if_icmp .ge 7, 3) := by decide +kernel
theorem d_RangeTellerModel_isInstruction_19 : decode b_RangeTellerModel_isInstruction 19 = .ok (.iconst 1, 1) := by decide +kernel
theorem d_RangeTellerModel_isInstruction_20 : decode b_RangeTellerModel_isInstruction 20 = .ok (.goto 4, 3) := by decide +kernel
theorem d_RangeTellerModel_instruction_0 : decode b_RangeTellerModel_instruction 0 = .ok (.aload_n 0, 1) := by decide +kernel
theorem d_RangeTellerModel_instruction_1 : decode b_RangeTellerModel_instruction 1 = .ok (.iload_n 1, 1) := by decide +kernel
theorem d_RangeTellerModel_instruction_2 : decode b_RangeTellerModel_instruction 2 = .ok (.invokevirtual 359, 3) := by decide +kernel
theorem d_RangeTellerModel_instruction_5 : decode b_RangeTellerModel_instruction 5 = .ok (.ifCond .ne 6, 3) := by decide +kernel
theorem d_RangeTellerModel_instruction_11 : decode b_RangeTellerModel_instruction 11 = .ok (.iload_n 2, 1) := by decide +kernel
theorem d_RangeTellerModel_instruction_12 : decode b_RangeTellerModel_instruction 12 = .ok (.tableswitch 119 0 5 #[40, 47, 54, 69, 75, 98], 40) := by decide +kernel
theorem d_RangeTellerModel_instruction_52 : decode b_RangeTellerModel_instruction 52 = .ok (.aload_n 0, 1) := by decide +kernel
theorem d_RangeTellerModel_instruction_53 : decode b_RangeTellerModel_instruction 53 = .ok (.getfield 17, 3) := by decide +kernel
theorem d_RangeTellerModel_instruction_56 : decode b_RangeTellerModel_instruction 56 = .ok (.iload_n 1, 1) := by decide +kernel
theorem d_RangeTellerModel_instruction_57 : decode b_RangeTellerModel_instruction 57 = .ok (.iaload, 1) := by decide +kernel
theorem d_RangeTellerModel_instruction_58 : decode b_RangeTellerModel_instruction 58 = .ok (.ireturn, 1) := by decide +kernel
theorem d_RangeTellerModel_instruction_59 : decode b_RangeTellerModel_instruction 59 = .ok (.aload_n 0, 1) := by decide +kernel
theorem d_RangeTellerModel_instruction_60 : decode b_RangeTellerModel_instruction 60 = .ok (.getfield 20, 3) := by decide +kernel
theorem d_RangeTellerModel_instruction_63 : decode b_RangeTellerModel_instruction 63 = .ok (.iload_n 1, 1) := by decide +kernel
theorem d_RangeTellerModel_instruction_64 : decode b_RangeTellerModel_instruction 64 = .ok (.iaload, 1) := by decide +kernel
theorem d_RangeTellerModel_instruction_65 : decode b_RangeTellerModel_instruction 65 = .ok (.ireturn, 1) := by decide +kernel
theorem d_RangeTellerModel_instruction_66 : decode b_RangeTellerModel_instruction 66 = .ok (.aload_n 0, 1) := by decide +kernel
theorem d_RangeTellerModel_instruction_67 : decode b_RangeTellerModel_instruction 67 = .ok (.getfield 90, 3) := by decide +kernel
theorem d_RangeTellerModel_instruction_70 : decode b_RangeTellerModel_instruction 70 = .ok (.iload_n 1, 1) := by decide +kernel
theorem d_RangeTellerModel_instruction_71 : decode b_RangeTellerModel_instruction 71 = .ok (.baload, 1) := by decide +kernel
theorem d_RangeTellerModel_instruction_72 : decode b_RangeTellerModel_instruction 72 = .ok (.ifCond .eq 7, 3) := by decide +kernel
theorem d_RangeTellerModel_instruction_79 : decode b_RangeTellerModel_instruction 79 = .ok (.iconst 0, 1) := by decide +kernel
theorem d_RangeTellerModel_instruction_80 : decode b_RangeTellerModel_instruction 80 = .ok (.ireturn, 1) := by decide +kernel
theorem d_RangeTellerModel_instruction_75 : decode b_RangeTellerModel_instruction 75 = .ok (.iconst 1, 1) := by decide +kernel
theorem d_RangeTellerModel_instruction_76 : decode b_RangeTellerModel_instruction 76 = .ok (.goto 4, 3) := by decide +kernel
theorem d_RangeTellerModel_instruction_81 : decode b_RangeTellerModel_instruction 81 = .ok (.aload_n 0, 1) := by decide +kernel
theorem d_RangeTellerModel_instruction_82 : decode b_RangeTellerModel_instruction 82 = .ok (.iload_n 1, 1) := by decide +kernel
theorem d_RangeTellerModel_instruction_83 : decode b_RangeTellerModel_instruction 83 = .ok (.invokevirtual 362, 3) := by decide +kernel
theorem d_RangeTellerModel_instruction_86 : decode b_RangeTellerModel_instruction 86 = .ok (.ireturn, 1) := by decide +kernel
theorem d_RangeTellerModel_instruction_87 : decode b_RangeTellerModel_instruction 87 = .ok (.aload_n 0, 1) := by decide +kernel
theorem d_RangeTellerModel_instruction_88 : decode b_RangeTellerModel_instruction 88 = .ok (.getfield 26, 3) := by decide +kernel
theorem d_RangeTellerModel_instruction_91 : decode b_RangeTellerModel_instruction 91 = .ok (.iload_n 1, 1) := by decide +kernel
theorem d_RangeTellerModel_instruction_92 : decode b_RangeTellerModel_instruction 92 = .ok (.iaload, 1) := by decide +kernel
theorem d_RangeTellerModel_instruction_93 : decode b_RangeTellerModel_instruction 93 = .ok (.ifCond .lt 14, 3) := by decide +kernel
theorem d_RangeTellerModel_instruction_107 : decode b_RangeTellerModel_instruction 107 = .ok (.bipush (-3), 2) := by decide +kernel
theorem d_RangeTellerModel_instruction_109 : decode b_RangeTellerModel_instruction 109 = .ok (.ireturn, 1) := by decide +kernel
theorem d_RangeTellerModel_instruction_96 : decode b_RangeTellerModel_instruction 96 = .ok (.aload_n 0, 1) := by decide +kernel
theorem d_RangeTellerModel_instruction_97 : decode b_RangeTellerModel_instruction 97 = .ok (.getfield 26, 3) := by decide +kernel
theorem d_RangeTellerModel_instruction_100 : decode b_RangeTellerModel_instruction 100 = .ok (.iload_n 1, 1) := by decide +kernel
theorem d_RangeTellerModel_instruction_101 : decode b_RangeTellerModel_instruction 101 = .ok (.iaload, 1) := by decide +kernel
theorem d_RangeTellerModel_instruction_102 : decode b_RangeTellerModel_instruction 102 = .ok (.iconst 1, 1) := by decide +kernel
theorem d_RangeTellerModel_instruction_103 : decode b_RangeTellerModel_instruction 103 = .ok (.iadd, 1) := by decide +kernel
theorem d_RangeTellerModel_instruction_104 : decode b_RangeTellerModel_instruction 104 = .ok (.goto 5, 3) := by decide +kernel
theorem d_RangeTellerModel_instruction_110 : decode b_RangeTellerModel_instruction 110 = .ok (.aload_n 0, 1) := by decide +kernel
theorem d_RangeTellerModel_instruction_111 : decode b_RangeTellerModel_instruction 111 = .ok (.getfield 90, 3) := by decide +kernel
theorem d_RangeTellerModel_instruction_114 : decode b_RangeTellerModel_instruction 114 = .ok (.iload_n 1, 1) := by decide +kernel
theorem d_RangeTellerModel_instruction_115 : decode b_RangeTellerModel_instruction 115 = .ok (.baload, 1) := by decide +kernel
theorem d_RangeTellerModel_instruction_116 : decode b_RangeTellerModel_instruction 116 = .ok (.ifCond .eq 12, 3) := by decide +kernel
theorem d_RangeTellerModel_instruction_128 : decode b_RangeTellerModel_instruction 128 = .ok (.bipush (-3), 2) := by decide +kernel
theorem d_RangeTellerModel_instruction_130 : decode b_RangeTellerModel_instruction 130 = .ok (.ireturn, 1) := by decide +kernel
theorem d_RangeTellerModel_instruction_119 : decode b_RangeTellerModel_instruction 119 = .ok (.aload_n 0, 1) := by decide +kernel
theorem d_RangeTellerModel_instruction_120 : decode b_RangeTellerModel_instruction 120 = .ok (.getfield 32, 3) := by decide +kernel
theorem d_RangeTellerModel_instruction_123 : decode b_RangeTellerModel_instruction 123 = .ok (.iload_n 1, 1) := by decide +kernel
theorem d_RangeTellerModel_instruction_124 : decode b_RangeTellerModel_instruction 124 = .ok (.iaload, 1) := by decide +kernel
theorem d_RangeTellerModel_instruction_125 : decode b_RangeTellerModel_instruction 125 = .ok (.goto 5, 3) := by decide +kernel
theorem d_RangeTellerModel_instruction_131 : decode b_RangeTellerModel_instruction 131 = .ok (.bipush (-3), 2) := by decide +kernel
theorem d_RangeTellerModel_instruction_133 : decode b_RangeTellerModel_instruction 133 = .ok (.ireturn, 1) := by decide +kernel
theorem d_RangeTellerModel_instruction_8 : decode b_RangeTellerModel_instruction 8 = .ok (.bipush (-3), 2) := by decide +kernel
theorem d_RangeTellerModel_instruction_10 : decode b_RangeTellerModel_instruction 10 = .ok (.ireturn, 1) := by decide +kernel
theorem d_RangeTellerModel_code_0 : decode b_RangeTellerModel_code 0 = .ok (.iload_n 0, 1) := by decide +kernel
theorem d_RangeTellerModel_code_1 : decode b_RangeTellerModel_code 1 = .ok (.bipush 64, 2) := by decide +kernel
theorem d_RangeTellerModel_code_3 : decode b_RangeTellerModel_code 3 = .ok (.iload_n 1, 1) := by decide +kernel
theorem d_RangeTellerModel_code_4 : decode b_RangeTellerModel_code 4 = .ok (.imul, 1) := by decide +kernel
theorem d_RangeTellerModel_code_5 : decode b_RangeTellerModel_code 5 = .ok (.iadd, 1) := by decide +kernel
theorem d_RangeTellerModel_code_6 : decode b_RangeTellerModel_code 6 = .ok (.iload_n 2, 1) := by decide +kernel
theorem d_RangeTellerModel_code_7 : decode b_RangeTellerModel_code 7 = .ok (.ifCond .eq 9, 3) := by decide +kernel
theorem d_RangeTellerModel_code_16 : decode b_RangeTellerModel_code 16 = .ok (.iconst 0, 1) := by decide +kernel
theorem d_RangeTellerModel_code_17 : decode b_RangeTellerModel_code 17 = .ok (.iadd, 1) := by decide +kernel
theorem d_RangeTellerModel_code_18 : decode b_RangeTellerModel_code 18 = .ok (.ireturn, 1) := by decide +kernel
theorem d_RangeTellerModel_code_10 : decode b_RangeTellerModel_code 10 = .ok (.sipush 4096, 3) := by decide +kernel
theorem d_RangeTellerModel_code_13 : decode b_RangeTellerModel_code 13 = .ok (.goto 4, 3) := by decide +kernel
theorem d_RangeTellerModel_operand_0 : decode b_RangeTellerModel_operand 0 = .ok (.aload_n 0, 1) := by decide +kernel
theorem d_RangeTellerModel_operand_1 : decode b_RangeTellerModel_operand 1 = .ok (.iload_n 1, 1) := by decide +kernel
theorem d_RangeTellerModel_operand_2 : decode b_RangeTellerModel_operand 2 = .ok (.invokevirtual 359, 3) := by decide +kernel
theorem d_RangeTellerModel_operand_5 : decode b_RangeTellerModel_operand 5 = .ok (.ifCond .ne 6, 3) := by decide +kernel
theorem d_RangeTellerModel_operand_11 : decode b_RangeTellerModel_operand 11 = .ok (.aload_n 0, 1) := by decide +kernel
theorem d_RangeTellerModel_operand_12 : decode b_RangeTellerModel_operand 12 = .ok (.getfield 90, 3) := by decide +kernel
theorem d_RangeTellerModel_operand_15 : decode b_RangeTellerModel_operand 15 = .ok (.iload_n 1, 1) := by decide +kernel
theorem d_RangeTellerModel_operand_16 : decode b_RangeTellerModel_operand 16 = .ok (.baload, 1) := by decide +kernel
theorem d_RangeTellerModel_operand_17 : decode b_RangeTellerModel_operand 17 = .ok (.ifCond .eq 17, 3) := by decide +kernel
theorem d_RangeTellerModel_operand_34 : decode b_RangeTellerModel_operand 34 = .ok (.bipush (-3), 2) := by decide +kernel
theorem d_RangeTellerModel_operand_36 : decode b_RangeTellerModel_operand 36 = .ok (.ireturn, 1) := by decide +kernel
theorem d_RangeTellerModel_operand_20 : decode b_RangeTellerModel_operand 20 = .ok (.iload_n 2, 1) := by decide +kernel
theorem d_RangeTellerModel_operand_21 : decode b_RangeTellerModel_operand 21 = .ok (.ifCond .lt 13, 3) := by decide +kernel
theorem d_RangeTellerModel_operand_24 : decode b_RangeTellerModel_operand 24 = .ok (.iload_n 2, 1) := by decide +kernel
theorem d_RangeTellerModel_operand_25 : decode b_RangeTellerModel_operand 25 = .ok (.aload_n 0, 1) := by decide +kernel
theorem d_RangeTellerModel_operand_26 : decode b_RangeTellerModel_operand 26 = .ok (.getfield 32, 3) := by decide +kernel
theorem d_RangeTellerModel_operand_29 : decode b_RangeTellerModel_operand 29 = .ok (.iload_n 1, 1) := by decide +kernel
theorem d_RangeTellerModel_operand_30 : decode b_RangeTellerModel_operand 30 = .ok (.iaload, 1) := by decide +kernel
theorem d_RangeTellerModel_operand_31 : decode b_RangeTellerModel_operand 31 = .ok (.if_icmp .lt 6, 3) := by decide +kernel
theorem d_RangeTellerModel_operand_37 : decode b_RangeTellerModel_operand 37 = .ok (.bipush 10, 2) := by decide +kernel
theorem d_RangeTellerModel_operand_39 : decode b_RangeTellerModel_operand 39 = .ok (.iload_n 1, 1) := by decide +kernel
theorem d_RangeTellerModel_operand_40 : decode b_RangeTellerModel_operand 40 = .ok (.imul, 1) := by decide +kernel
theorem d_RangeTellerModel_operand_41 : decode b_RangeTellerModel_operand 41 = .ok (.aload_n 0, 1) := by decide +kernel
theorem d_RangeTellerModel_operand_42 : decode b_RangeTellerModel_operand 42 = .ok (.getfield 32, 3) := by decide +kernel
theorem d_RangeTellerModel_operand_45 : decode b_RangeTellerModel_operand 45 = .ok (.iload_n 1, 1) := by decide +kernel
theorem d_RangeTellerModel_operand_46 : decode b_RangeTellerModel_operand 46 = .ok (.iaload, 1) := by decide +kernel
theorem d_RangeTellerModel_operand_47 : decode b_RangeTellerModel_operand 47 = .ok (.iadd, 1) := by decide +kernel
theorem d_RangeTellerModel_operand_48 : decode b_RangeTellerModel_operand 48 = .ok (.iconst 1, 1) := by decide +kernel
theorem d_RangeTellerModel_operand_49 : decode b_RangeTellerModel_operand 49 = .ok (.isub, 1) := by decide +kernel
theorem d_RangeTellerModel_operand_50 : decode b_RangeTellerModel_operand 50 = .ok (.iload_n 2, 1) := by decide +kernel
theorem d_RangeTellerModel_operand_51 : decode b_RangeTellerModel_operand 51 = .ok (.isub, 1) := by decide +kernel
theorem d_RangeTellerModel_operand_52 : decode b_RangeTellerModel_operand 52 = .ok (.istore_n 3, 1) := by decide +kernel
theorem d_RangeTellerModel_operand_53 : decode b_RangeTellerModel_operand 53 = .ok (.aload_n 0, 1) := by decide +kernel
theorem d_RangeTellerModel_operand_54 : decode b_RangeTellerModel_operand 54 = .ok (.getfield 96, 3) := by decide +kernel
theorem d_RangeTellerModel_operand_57 : decode b_RangeTellerModel_operand 57 = .ok (.iload_n 3, 1) := by decide +kernel
theorem d_RangeTellerModel_operand_58 : decode b_RangeTellerModel_operand 58 = .ok (.iaload, 1) := by decide +kernel
theorem d_RangeTellerModel_operand_59 : decode b_RangeTellerModel_operand 59 = .ok (.aload_n 0, 1) := by decide +kernel
theorem d_RangeTellerModel_operand_60 : decode b_RangeTellerModel_operand 60 = .ok (.getfield 99, 3) := by decide +kernel
theorem d_RangeTellerModel_operand_63 : decode b_RangeTellerModel_operand 63 = .ok (.iload_n 3, 1) := by decide +kernel
theorem d_RangeTellerModel_operand_64 : decode b_RangeTellerModel_operand 64 = .ok (.iaload, 1) := by decide +kernel
theorem d_RangeTellerModel_operand_65 : decode b_RangeTellerModel_operand 65 = .ok (.aload_n 0, 1) := by decide +kernel
theorem d_RangeTellerModel_operand_66 : decode b_RangeTellerModel_operand 66 = .ok (.getfield 102, 3) := by decide +kernel
theorem d_RangeTellerModel_operand_69 : decode b_RangeTellerModel_operand 69 = .ok (.iload_n 3, 1) := by decide +kernel
theorem d_RangeTellerModel_operand_70 : decode b_RangeTellerModel_operand 70 = .ok (.baload, 1) := by decide +kernel
theorem d_RangeTellerModel_operand_71 : decode b_RangeTellerModel_operand 71 = .ok (.invokestatic 365, 3) := by decide +kernel
theorem d_RangeTellerModel_operand_74 : decode b_RangeTellerModel_operand 74 = .ok (.ireturn, 1) := by decide +kernel
theorem d_RangeTellerModel_operand_8 : decode b_RangeTellerModel_operand 8 = .ok (.bipush (-3), 2) := by decide +kernel
theorem d_RangeTellerModel_operand_10 : decode b_RangeTellerModel_operand 10 = .ok (.ireturn, 1) := by decide +kernel
theorem d_RangeTellerModel_local_0 : decode b_RangeTellerModel_local 0 = .ok (.aload_n 0, 1) := by decide +kernel
theorem d_RangeTellerModel_local_1 : decode b_RangeTellerModel_local 1 = .ok (.iload_n 1, 1) := by decide +kernel
theorem d_RangeTellerModel_local_2 : decode b_RangeTellerModel_local 2 = .ok (.invokevirtual 359, 3) := by decide +kernel
theorem d_RangeTellerModel_local_5 : decode b_RangeTellerModel_local 5 = .ok (.ifCond .ne 6, 3) := by decide +kernel
theorem d_RangeTellerModel_local_11 : decode b_RangeTellerModel_local 11 = .ok (.aload_n 0, 1) := by decide +kernel
theorem d_RangeTellerModel_local_12 : decode b_RangeTellerModel_local 12 = .ok (.getfield 90, 3) := by decide +kernel
theorem d_RangeTellerModel_local_15 : decode b_RangeTellerModel_local 15 = .ok (.iload_n 1, 1) := by decide +kernel
theorem d_RangeTellerModel_local_16 : decode b_RangeTellerModel_local 16 = .ok (.baload, 1) := by decide +kernel
theorem d_RangeTellerModel_local_17 : decode b_RangeTellerModel_local 17 = .ok (.ifCond .eq 34, 3) := by decide +kernel
theorem d_RangeTellerModel_local_51 : decode b_RangeTellerModel_local 51 = .ok (.bipush (-3), 2) := by decide +kernel
theorem d_RangeTellerModel_local_53 : decode b_RangeTellerModel_local 53 = .ok (.ireturn, 1) := by decide +kernel
theorem d_RangeTellerModel_local_20 : decode b_RangeTellerModel_local 20 = .ok (.iload_n 2, 1) := by decide +kernel
theorem d_RangeTellerModel_local_21 : decode b_RangeTellerModel_local 21 = .ok (.ifCond .lt 30, 3) := by decide +kernel
theorem d_RangeTellerModel_local_24 : decode b_RangeTellerModel_local 24 = .ok (.iload_n 2, 1) := by decide +kernel
theorem d_RangeTellerModel_local_25 : decode b_RangeTellerModel_local 25 = .ok (.aload_n 0, 1) := by decide +kernel
theorem d_RangeTellerModel_local_26 : decode b_RangeTellerModel_local 26 = .ok (.getfield 44, 3) := by decide +kernel
theorem d_RangeTellerModel_local_29 : decode b_RangeTellerModel_local 29 = .ok (.aload_n 0, 1) := by decide +kernel
theorem d_RangeTellerModel_local_30 : decode b_RangeTellerModel_local 30 = .ok (.getfield 23, 3) := by decide +kernel
theorem d_RangeTellerModel_local_33 : decode b_RangeTellerModel_local 33 = .ok (.iload_n 1, 1) := by decide +kernel
theorem d_RangeTellerModel_local_34 : decode b_RangeTellerModel_local 34 = .ok (.iaload, 1) := by decide +kernel
theorem d_RangeTellerModel_local_35 : decode b_RangeTellerModel_local 35 = .ok (.iaload, 1) := by decide +kernel
theorem d_RangeTellerModel_local_36 : decode b_RangeTellerModel_local 36 = .ok (.aload_n 0, 1) := by decide +kernel
theorem d_RangeTellerModel_local_37 : decode b_RangeTellerModel_local 37 = .ok (.getfield 47, 3) := by decide +kernel
theorem d_RangeTellerModel_local_40 : decode b_RangeTellerModel_local 40 = .ok (.aload_n 0, 1) := by decide +kernel
theorem d_RangeTellerModel_local_41 : decode b_RangeTellerModel_local 41 = .ok (.getfield 23, 3) := by decide +kernel
theorem d_RangeTellerModel_local_44 : decode b_RangeTellerModel_local 44 = .ok (.iload_n 1, 1) := by decide +kernel
theorem d_RangeTellerModel_local_45 : decode b_RangeTellerModel_local 45 = .ok (.iaload, 1) := by decide +kernel
theorem d_RangeTellerModel_local_46 : decode b_RangeTellerModel_local 46 = .ok (.iaload, 1) := by decide +kernel
theorem d_RangeTellerModel_local_47 : decode b_RangeTellerModel_local 47 = .ok (.iadd, 1) := by decide +kernel
theorem d_RangeTellerModel_local_48 : decode b_RangeTellerModel_local 48 = .ok (.if_icmp .lt 6, 3) := by decide +kernel
theorem d_RangeTellerModel_local_54 : decode b_RangeTellerModel_local 54 = .ok (.aload_n 0, 1) := by decide +kernel
theorem d_RangeTellerModel_local_55 : decode b_RangeTellerModel_local 55 = .ok (.getfield 105, 3) := by decide +kernel
theorem d_RangeTellerModel_local_58 : decode b_RangeTellerModel_local 58 = .ok (.iconst 4, 1) := by decide +kernel
theorem d_RangeTellerModel_local_59 : decode b_RangeTellerModel_local 59 = .ok (.iload_n 1, 1) := by decide +kernel
theorem d_RangeTellerModel_local_60 : decode b_RangeTellerModel_local 60 = .ok (.imul, 1) := by decide +kernel
theorem d_RangeTellerModel_local_61 : decode b_RangeTellerModel_local 61 = .ok (.iload_n 2, 1) := by decide +kernel
theorem d_RangeTellerModel_local_62 : decode b_RangeTellerModel_local 62 = .ok (.iadd, 1) := by decide +kernel
theorem d_RangeTellerModel_local_63 : decode b_RangeTellerModel_local 63 = .ok (.iaload, 1) := by decide +kernel
theorem d_RangeTellerModel_local_64 : decode b_RangeTellerModel_local 64 = .ok (.aload_n 0, 1) := by decide +kernel
theorem d_RangeTellerModel_local_65 : decode b_RangeTellerModel_local 65 = .ok (.getfield 108, 3) := by decide +kernel
theorem d_RangeTellerModel_local_68 : decode b_RangeTellerModel_local 68 = .ok (.iconst 4, 1) := by decide +kernel
theorem d_RangeTellerModel_local_69 : decode b_RangeTellerModel_local 69 = .ok (.iload_n 1, 1) := by decide +kernel
theorem d_RangeTellerModel_local_70 : decode b_RangeTellerModel_local 70 = .ok (.imul, 1) := by decide +kernel
theorem d_RangeTellerModel_local_71 : decode b_RangeTellerModel_local 71 = .ok (.iload_n 2, 1) := by decide +kernel
theorem d_RangeTellerModel_local_72 : decode b_RangeTellerModel_local 72 = .ok (.iadd, 1) := by decide +kernel
theorem d_RangeTellerModel_local_73 : decode b_RangeTellerModel_local 73 = .ok (.iaload, 1) := by decide +kernel
theorem d_RangeTellerModel_local_74 : decode b_RangeTellerModel_local 74 = .ok (.aload_n 0, 1) := by decide +kernel
theorem d_RangeTellerModel_local_75 : decode b_RangeTellerModel_local 75 = .ok (.getfield 111, 3) := by decide +kernel
theorem d_RangeTellerModel_local_78 : decode b_RangeTellerModel_local 78 = .ok (.iconst 4, 1) := by decide +kernel
theorem d_RangeTellerModel_local_79 : decode b_RangeTellerModel_local 79 = .ok (.iload_n 1, 1) := by decide +kernel
theorem d_RangeTellerModel_local_80 : decode b_RangeTellerModel_local 80 = .ok (.imul, 1) := by decide +kernel
theorem d_RangeTellerModel_local_81 : decode b_RangeTellerModel_local 81 = .ok (.iload_n 2, 1) := by decide +kernel
theorem d_RangeTellerModel_local_82 : decode b_RangeTellerModel_local 82 = .ok (.iadd, 1) := by decide +kernel
theorem d_RangeTellerModel_local_83 : decode b_RangeTellerModel_local 83 = .ok (.baload, 1) := by decide +kernel
theorem d_RangeTellerModel_local_84 : decode b_RangeTellerModel_local 84 = .ok (.invokestatic 365, 3) := by decide +kernel
theorem d_RangeTellerModel_local_87 : decode b_RangeTellerModel_local 87 = .ok (.ireturn, 1) := by decide +kernel
theorem d_RangeTellerModel_local_8 : decode b_RangeTellerModel_local 8 = .ok (.bipush (-3), 2) := by decide +kernel
theorem d_RangeTellerModel_local_10 : decode b_RangeTellerModel_local 10 = .ok (.ireturn, 1) := by decide +kernel
theorem d_RangeTellerModel_cell_0 : decode b_RangeTellerModel_cell 0 = .ok (.aload_n 0, 1) := by decide +kernel
theorem d_RangeTellerModel_cell_1 : decode b_RangeTellerModel_cell 1 = .ok (.getfield 227, 3) := by decide +kernel
theorem d_RangeTellerModel_cell_4 : decode b_RangeTellerModel_cell 4 = .ok (.ifCond .eq 13, 3) := by decide +kernel
theorem d_RangeTellerModel_cell_17 : decode b_RangeTellerModel_cell 17 = .ok (.bipush (-3), 2) := by decide +kernel
theorem d_RangeTellerModel_cell_19 : decode b_RangeTellerModel_cell 19 = .ok (.goto 24, 3) := by decide +kernel
theorem d_RangeTellerModel_cell_43 : decode b_RangeTellerModel_cell 43 = .ok (.ireturn, 1) := by decide +kernel
theorem d_RangeTellerModel_cell_7 : decode b_RangeTellerModel_cell 7 = .ok (.iload_n 1, 1) := by decide +kernel
theorem d_RangeTellerModel_cell_8 : decode b_RangeTellerModel_cell 8 = .ok (.ifCond .lt 9, 3) := by decide +kernel
theorem d_RangeTellerModel_cell_11 : decode b_RangeTellerModel_cell 11 = .ok (.iload_n 1, 1) := by decide +kernel
theorem d_RangeTellerModel_cell_12 : decode b_RangeTellerModel_cell 12 = .ok (.bipush 15, 2) := by decide +kernel
theorem d_RangeTellerModel_cell_14 : decode b_RangeTellerModel_cell 14 = .ok (.if_icmp .le 8, 3) := by decide +kernel
theorem d_RangeTellerModel_cell_22 : decode b_RangeTellerModel_cell 22 = .ok (.aload_n 0, 1) := by decide +kernel
theorem d_RangeTellerModel_cell_23 : decode b_RangeTellerModel_cell 23 = .ok (.getfield 114, 3) := by decide +kernel
theorem d_RangeTellerModel_cell_26 : decode b_RangeTellerModel_cell 26 = .ok (.iload_n 1, 1) := by decide +kernel
theorem d_RangeTellerModel_cell_27 : decode b_RangeTellerModel_cell 27 = .ok (.iaload, 1) := by decide +kernel
theorem d_RangeTellerModel_cell_28 : decode b_RangeTellerModel_cell 28 = .ok (.aload_n 0, 1) := by decide +kernel
theorem d_RangeTellerModel_cell_29 : decode b_RangeTellerModel_cell 29 = .ok (.getfield 117, 3) := by decide +kernel
theorem d_RangeTellerModel_cell_32 : decode b_RangeTellerModel_cell 32 = .ok (.iload_n 1, 1) := by decide +kernel
theorem d_RangeTellerModel_cell_33 : decode b_RangeTellerModel_cell 33 = .ok (.iaload, 1) := by decide +kernel
theorem d_RangeTellerModel_cell_34 : decode b_RangeTellerModel_cell 34 = .ok (.aload_n 0, 1) := by decide +kernel
theorem d_RangeTellerModel_cell_35 : decode b_RangeTellerModel_cell 35 = .ok (.getfield 120, 3) := by decide +kernel
theorem d_RangeTellerModel_cell_38 : decode b_RangeTellerModel_cell 38 = .ok (.iload_n 1, 1) := by decide +kernel
theorem d_RangeTellerModel_cell_39 : decode b_RangeTellerModel_cell 39 = .ok (.baload, 1) := by decide +kernel
theorem d_RangeTellerModel_cell_40 : decode b_RangeTellerModel_cell 40 = .ok (.invokestatic 365, 3) := by decide +kernel
theorem d_RangeTellerModel_function_0 : decode b_RangeTellerModel_function 0 = .ok (.aload_n 0, 1) := by decide +kernel
theorem d_RangeTellerModel_function_1 : decode b_RangeTellerModel_function 1 = .ok (.getfield 227, 3) := by decide +kernel
theorem d_RangeTellerModel_function_4 : decode b_RangeTellerModel_function 4 = .ok (.ifCond .eq 15, 3) := by decide +kernel
theorem d_RangeTellerModel_function_19 : decode b_RangeTellerModel_function 19 = .ok (.bipush (-3), 2) := by decide +kernel
theorem d_RangeTellerModel_function_21 : decode b_RangeTellerModel_function 21 = .ok (.ireturn, 1) := by decide +kernel
theorem d_RangeTellerModel_function_7 : decode b_RangeTellerModel_function 7 = .ok (.iload_n 1, 1) := by decide +kernel
theorem d_RangeTellerModel_function_8 : decode b_RangeTellerModel_function 8 = .ok (.ifCond .lt 11, 3) := by decide +kernel
theorem d_RangeTellerModel_function_11 : decode b_RangeTellerModel_function 11 = .ok (.iload_n 1, 1) := by decide +kernel
theorem d_RangeTellerModel_function_12 : decode b_RangeTellerModel_function 12 = .ok (.aload_n 0, 1) := by decide +kernel
theorem d_RangeTellerModel_function_13 : decode b_RangeTellerModel_function 13 = .ok (.getfield 185, 3) := by decide +kernel
theorem d_RangeTellerModel_function_16 : decode b_RangeTellerModel_function 16 = .ok (.if_icmp .lt 6, 3) := by decide +kernel
theorem d_RangeTellerModel_function_22 : decode b_RangeTellerModel_function 22 = .ok (.iload_n 2, 1) := by decide +kernel
theorem d_RangeTellerModel_function_23 : decode b_RangeTellerModel_function 23 = .ok (.tableswitch 126 0 5 #[37, 44, 51, 58, 65, 111], 37) := by decide +kernel
theorem d_RangeTellerModel_function_60 : decode b_RangeTellerModel_function 60 = .ok (.aload_n 0, 1) := by decide +kernel
theorem d_RangeTellerModel_function_61 : decode b_RangeTellerModel_function 61 = .ok (.getfield 53, 3) := by decide +kernel
theorem d_RangeTellerModel_function_64 : decode b_RangeTellerModel_function 64 = .ok (.iload_n 1, 1) := by decide +kernel
theorem d_RangeTellerModel_function_65 : decode b_RangeTellerModel_function 65 = .ok (.iaload, 1) := by decide +kernel
theorem d_RangeTellerModel_function_66 : decode b_RangeTellerModel_function 66 = .ok (.ireturn, 1) := by decide +kernel
theorem d_RangeTellerModel_function_67 : decode b_RangeTellerModel_function 67 = .ok (.aload_n 0, 1) := by decide +kernel
theorem d_RangeTellerModel_function_68 : decode b_RangeTellerModel_function 68 = .ok (.getfield 44, 3) := by decide +kernel
theorem d_RangeTellerModel_function_71 : decode b_RangeTellerModel_function 71 = .ok (.iload_n 1, 1) := by decide +kernel
theorem d_RangeTellerModel_function_72 : decode b_RangeTellerModel_function 72 = .ok (.iaload, 1) := by decide +kernel
theorem d_RangeTellerModel_function_73 : decode b_RangeTellerModel_function 73 = .ok (.ireturn, 1) := by decide +kernel
theorem d_RangeTellerModel_function_74 : decode b_RangeTellerModel_function 74 = .ok (.aload_n 0, 1) := by decide +kernel
theorem d_RangeTellerModel_function_75 : decode b_RangeTellerModel_function 75 = .ok (.getfield 47, 3) := by decide +kernel
theorem d_RangeTellerModel_function_78 : decode b_RangeTellerModel_function 78 = .ok (.iload_n 1, 1) := by decide +kernel
theorem d_RangeTellerModel_function_79 : decode b_RangeTellerModel_function 79 = .ok (.iaload, 1) := by decide +kernel
theorem d_RangeTellerModel_function_80 : decode b_RangeTellerModel_function 80 = .ok (.ireturn, 1) := by decide +kernel
theorem d_RangeTellerModel_function_81 : decode b_RangeTellerModel_function 81 = .ok (.aload_n 0, 1) := by decide +kernel
theorem d_RangeTellerModel_function_82 : decode b_RangeTellerModel_function 82 = .ok (.getfield 50, 3) := by decide +kernel
theorem d_RangeTellerModel_function_85 : decode b_RangeTellerModel_function 85 = .ok (.iload_n 1, 1) := by decide +kernel
theorem d_RangeTellerModel_function_86 : decode b_RangeTellerModel_function 86 = .ok (.iaload, 1) := by decide +kernel
theorem d_RangeTellerModel_function_87 : decode b_RangeTellerModel_function 87 = .ok (.ireturn, 1) := by decide +kernel
theorem d_RangeTellerModel_function_88 : decode b_RangeTellerModel_function 88 = .ok (.aload_n 0, 1) := by decide +kernel
theorem d_RangeTellerModel_function_89 : decode b_RangeTellerModel_function 89 = .ok (.getfield 50, 3) := by decide +kernel
theorem d_RangeTellerModel_function_92 : decode b_RangeTellerModel_function 92 = .ok (.iload_n 1, 1) := by decide +kernel
theorem d_RangeTellerModel_function_93 : decode b_RangeTellerModel_function 93 = .ok (.iaload, 1) := by decide +kernel
theorem d_RangeTellerModel_function_94 : decode b_RangeTellerModel_function 94 = .ok (.iconst 1, 1) := by decide +kernel
theorem d_RangeTellerModel_function_95 : decode b_RangeTellerModel_function 95 = .ok (.if_icmp .ne 36, 3) := by decide +kernel
theorem d_RangeTellerModel_function_131 : decode b_RangeTellerModel_function 131 = .ok (.bipush (-3), 2) := by decide +kernel
theorem d_RangeTellerModel_function_133 : decode b_RangeTellerModel_function 133 = .ok (.ireturn, 1) := by decide +kernel
theorem d_RangeTellerModel_function_98 : decode b_RangeTellerModel_function 98 = .ok (.aload_n 0, 1) := by decide +kernel
theorem d_RangeTellerModel_function_99 : decode b_RangeTellerModel_function 99 = .ok (.getfield 132, 3) := by decide +kernel
theorem d_RangeTellerModel_function_102 : decode b_RangeTellerModel_function 102 = .ok (.iload_n 1, 1) := by decide +kernel
theorem d_RangeTellerModel_function_103 : decode b_RangeTellerModel_function 103 = .ok (.baload, 1) := by decide +kernel
theorem d_RangeTellerModel_function_104 : decode b_RangeTellerModel_function 104 = .ok (.ifCond .eq 27, 3) := by decide +kernel
theorem d_RangeTellerModel_function_107 : decode b_RangeTellerModel_function 107 = .ok (.aload_n 0, 1) := by decide +kernel
theorem d_RangeTellerModel_function_108 : decode b_RangeTellerModel_function 108 = .ok (.getfield 123, 3) := by decide +kernel
theorem d_RangeTellerModel_function_111 : decode b_RangeTellerModel_function 111 = .ok (.iload_n 1, 1) := by decide +kernel
theorem d_RangeTellerModel_function_112 : decode b_RangeTellerModel_function 112 = .ok (.iaload, 1) := by decide +kernel
theorem d_RangeTellerModel_function_113 : decode b_RangeTellerModel_function 113 = .ok (.aload_n 0, 1) := by decide +kernel
theorem d_RangeTellerModel_function_114 : decode b_RangeTellerModel_function 114 = .ok (.getfield 126, 3) := by decide +kernel
theorem d_RangeTellerModel_function_117 : decode b_RangeTellerModel_function 117 = .ok (.iload_n 1, 1) := by decide +kernel
theorem d_RangeTellerModel_function_118 : decode b_RangeTellerModel_function 118 = .ok (.iaload, 1) := by decide +kernel
theorem d_RangeTellerModel_function_119 : decode b_RangeTellerModel_function 119 = .ok (.aload_n 0, 1) := by decide +kernel
theorem d_RangeTellerModel_function_120 : decode b_RangeTellerModel_function 120 = .ok (.getfield 129, 3) := by decide +kernel
theorem d_RangeTellerModel_function_123 : decode b_RangeTellerModel_function 123 = .ok (.iload_n 1, 1) := by decide +kernel
theorem d_RangeTellerModel_function_124 : decode b_RangeTellerModel_function 124 = .ok (.baload, 1) := by decide +kernel
theorem d_RangeTellerModel_function_125 : decode b_RangeTellerModel_function 125 = .ok (.invokestatic 365, 3) := by decide +kernel
theorem d_RangeTellerModel_function_128 : decode b_RangeTellerModel_function 128 = .ok (.goto 5, 3) := by decide +kernel
theorem d_RangeTellerModel_function_134 : decode b_RangeTellerModel_function 134 = .ok (.aload_n 0, 1) := by decide +kernel
theorem d_RangeTellerModel_function_135 : decode b_RangeTellerModel_function 135 = .ok (.getfield 132, 3) := by decide +kernel
theorem d_RangeTellerModel_function_138 : decode b_RangeTellerModel_function 138 = .ok (.iload_n 1, 1) := by decide +kernel
theorem d_RangeTellerModel_function_139 : decode b_RangeTellerModel_function 139 = .ok (.baload, 1) := by decide +kernel
theorem d_RangeTellerModel_function_140 : decode b_RangeTellerModel_function 140 = .ok (.ifCond .eq 7, 3) := by decide +kernel
theorem d_RangeTellerModel_function_147 : decode b_RangeTellerModel_function 147 = .ok (.iconst 0, 1) := by decide +kernel
theorem d_RangeTellerModel_function_148 : decode b_RangeTellerModel_function 148 = .ok (.ireturn, 1) := by decide +kernel
theorem d_RangeTellerModel_function_143 : decode b_RangeTellerModel_function 143 = .ok (.iconst 1, 1) := by decide +kernel
theorem d_RangeTellerModel_function_144 : decode b_RangeTellerModel_function 144 = .ok (.goto 4, 3) := by decide +kernel
theorem d_RangeTellerModel_function_149 : decode b_RangeTellerModel_function 149 = .ok (.bipush (-3), 2) := by decide +kernel
theorem d_RangeTellerModel_function_151 : decode b_RangeTellerModel_function 151 = .ok (.ireturn, 1) := by decide +kernel
theorem d_Program_init_0 : decode b_Program_init 0 = .ok (.aload_n 0, 1) := by decide +kernel
theorem d_Program_init_1 : decode b_Program_init 1 = .ok (.invokespecial 3, 3) := by decide +kernel
theorem d_Program_init_4 : decode b_Program_init 4 = .ok (.aload_n 0, 1) := by decide +kernel
theorem d_Program_init_5 : decode b_Program_init 5 = .ok (.bipush 100, 2) := by decide +kernel
theorem d_Program_init_7 : decode b_Program_init 7 = .ok (.newarray .int, 2) := by decide +kernel
theorem d_Program_init_9 : decode b_Program_init 9 = .ok (.putfield 9, 3) := by decide +kernel
theorem d_Program_init_12 : decode b_Program_init 12 = .ok (.aload_n 0, 1) := by decide +kernel
theorem d_Program_init_13 : decode b_Program_init 13 = .ok (.bipush 100, 2) := by decide +kernel
theorem d_Program_init_15 : decode b_Program_init 15 = .ok (.newarray .int, 2) := by decide +kernel
theorem d_Program_init_17 : decode b_Program_init 17 = .ok (.putfield 15, 3) := by decide +kernel
theorem d_Program_init_20 : decode b_Program_init 20 = .ok (.aload_n 0, 1) := by decide +kernel
theorem d_Program_init_21 : decode b_Program_init 21 = .ok (.bipush 100, 2) := by decide +kernel
theorem d_Program_init_23 : decode b_Program_init 23 = .ok (.newarray .int, 2) := by decide +kernel
theorem d_Program_init_25 : decode b_Program_init 25 = .ok (.putfield 18, 3) := by decide +kernel
theorem d_Program_init_28 : decode b_Program_init 28 = .ok (.aload_n 0, 1) := by decide +kernel
theorem d_Program_init_29 : decode b_Program_init 29 = .ok (.bipush 100, 2) := by decide +kernel
theorem d_Program_init_31 : decode b_Program_init 31 = .ok (.newarray .int, 2) := by decide +kernel
theorem d_Program_init_33 : decode b_Program_init 33 = .ok (.putfield 21, 3) := by decide +kernel
theorem d_Program_init_36 : decode b_Program_init 36 = .ok (.aload_n 0, 1) := by decide +kernel
theorem d_Program_init_37 : decode b_Program_init 37 = .ok (.bipush 100, 2) := by decide +kernel
theorem d_Program_init_39 : decode b_Program_init 39 = .ok (.newarray .int, 2) := by decide +kernel
theorem d_Program_init_41 : decode b_Program_init 41 = .ok (.putfield 24, 3) := by decide +kernel
theorem d_Program_init_44 : decode b_Program_init 44 = .ok (.aload_n 0, 1) := by decide +kernel
theorem d_Program_init_45 : decode b_Program_init 45 = .ok (.bipush 100, 2) := by decide +kernel
theorem d_Program_init_47 : decode b_Program_init 47 = .ok (.newarray .int, 2) := by decide +kernel
theorem d_Program_init_49 : decode b_Program_init 49 = .ok (.putfield 27, 3) := by decide +kernel
theorem d_Program_init_52 : decode b_Program_init 52 = .ok (.aload_n 0, 1) := by decide +kernel
theorem d_Program_init_53 : decode b_Program_init 53 = .ok (.bipush 100, 2) := by decide +kernel
theorem d_Program_init_55 : decode b_Program_init 55 = .ok (.newarray .int, 2) := by decide +kernel
theorem d_Program_init_57 : decode b_Program_init 57 = .ok (.putfield 30, 3) := by decide +kernel
theorem d_Program_init_60 : decode b_Program_init 60 = .ok (.aload_n 0, 1) := by decide +kernel
theorem d_Program_init_61 : decode b_Program_init 61 = .ok (.bipush 100, 2) := by decide +kernel
theorem d_Program_init_63 : decode b_Program_init 63 = .ok (.newarray .int, 2) := by decide +kernel
theorem d_Program_init_65 : decode b_Program_init 65 = .ok (.putfield 33, 3) := by decide +kernel
theorem d_Program_init_68 : decode b_Program_init 68 = .ok (.aload_n 0, 1) := by decide +kernel
theorem d_Program_init_69 : decode b_Program_init 69 = .ok (.iconst 3, 1) := by decide +kernel
theorem d_Program_init_70 : decode b_Program_init 70 = .ok (.newarray .int, 2) := by decide +kernel
theorem d_Program_init_72 : decode b_Program_init 72 = .ok (.putfield 36, 3) := by decide +kernel
theorem d_Program_init_75 : decode b_Program_init 75 = .ok (.aload_n 0, 1) := by decide +kernel
theorem d_Program_init_76 : decode b_Program_init 76 = .ok (.iconst 3, 1) := by decide +kernel
theorem d_Program_init_77 : decode b_Program_init 77 = .ok (.newarray .int, 2) := by decide +kernel
theorem d_Program_init_79 : decode b_Program_init 79 = .ok (.putfield 39, 3) := by decide +kernel
theorem d_Program_init_82 : decode b_Program_init 82 = .ok (.aload_n 0, 1) := by decide +kernel
theorem d_Program_init_83 : decode b_Program_init 83 = .ok (.iconst 3, 1) := by decide +kernel
theorem d_Program_init_84 : decode b_Program_init 84 = .ok (.newarray .int, 2) := by decide +kernel
theorem d_Program_init_86 : decode b_Program_init 86 = .ok (.putfield 42, 3) := by decide +kernel
theorem d_Program_init_89 : decode b_Program_init 89 = .ok (.aload_n 0, 1) := by decide +kernel
theorem d_Program_init_90 : decode b_Program_init 90 = .ok (.iconst 3, 1) := by decide +kernel
theorem d_Program_init_91 : decode b_Program_init 91 = .ok (.newarray .int, 2) := by decide +kernel
theorem d_Program_init_93 : decode b_Program_init 93 = .ok (.putfield 45, 3) := by decide +kernel
theorem d_Program_init_96 : decode b_Program_init 96 = .ok (.return_, 1) := by decide +kernel
theorem d_Reader_init_0 : decode b_Reader_init 0 = .ok (.aload_n 0, 1) := by decide +kernel
theorem d_Reader_init_1 : decode b_Reader_init 1 = .ok (.invokespecial 3, 3) := by decide +kernel
theorem d_Reader_init_4 : decode b_Reader_init 4 = .ok (.aload_n 0, 1) := by decide +kernel
theorem d_Reader_init_5 : decode b_Reader_init 5 = .ok (.bipush 100, 2) := by decide +kernel
theorem d_Reader_init_7 : decode b_Reader_init 7 = .ok (.newarray .int, 2) := by decide +kernel
theorem d_Reader_init_9 : decode b_Reader_init 9 = .ok (.putfield 9, 3) := by decide +kernel
theorem d_Reader_init_12 : decode b_Reader_init 12 = .ok (.aload_n 0, 1) := by decide +kernel
theorem d_Reader_init_13 : decode b_Reader_init 13 = .ok (.bipush 100, 2) := by decide +kernel
theorem d_Reader_init_15 : decode b_Reader_init 15 = .ok (.newarray .int, 2) := by decide +kernel
theorem d_Reader_init_17 : decode b_Reader_init 17 = .ok (.putfield 15, 3) := by decide +kernel
theorem d_Reader_init_20 : decode b_Reader_init 20 = .ok (.aload_n 0, 1) := by decide +kernel
theorem d_Reader_init_21 : decode b_Reader_init 21 = .ok (.aload_n 1, 1) := by decide +kernel
theorem d_Reader_init_22 : decode b_Reader_init 22 = .ok (.putfield 18, 3) := by decide +kernel
theorem d_Reader_init_25 : decode b_Reader_init 25 = .ok (.return_, 1) := by decide +kernel
theorem d_Checker_init_0 : decode b_Checker_init 0 = .ok (.aload_n 0, 1) := by decide +kernel
theorem d_Checker_init_1 : decode b_Checker_init 1 = .ok (.invokespecial 3, 3) := by decide +kernel
theorem d_Checker_init_4 : decode b_Checker_init 4 = .ok (.aload_n 0, 1) := by decide +kernel
theorem d_Checker_init_5 : decode b_Checker_init 5 = .ok (.bipush 101, 2) := by decide +kernel
theorem d_Checker_init_7 : decode b_Checker_init 7 = .ok (.newarray .int, 2) := by decide +kernel
theorem d_Checker_init_9 : decode b_Checker_init 9 = .ok (.putfield 9, 3) := by decide +kernel
theorem d_Checker_init_12 : decode b_Checker_init 12 = .ok (.aload_n 0, 1) := by decide +kernel
theorem d_Checker_init_13 : decode b_Checker_init 13 = .ok (.bipush 101, 2) := by decide +kernel
theorem d_Checker_init_15 : decode b_Checker_init 15 = .ok (.newarray .int, 2) := by decide +kernel
theorem d_Checker_init_17 : decode b_Checker_init 17 = .ok (.putfield 15, 3) := by decide +kernel
theorem d_Checker_init_20 : decode b_Checker_init 20 = .ok (.aload_n 0, 1) := by decide +kernel
theorem d_Checker_init_21 : decode b_Checker_init 21 = .ok (.bipush 101, 2) := by decide +kernel
theorem d_Checker_init_23 : decode b_Checker_init 23 = .ok (.newarray .boolean, 2) := by decide +kernel
theorem d_Checker_init_25 : decode b_Checker_init 25 = .ok (.putfield 18, 3) := by decide +kernel
theorem d_Checker_init_28 : decode b_Checker_init 28 = .ok (.aload_n 0, 1) := by decide +kernel
theorem d_Checker_init_29 : decode b_Checker_init 29 = .ok (.aload_n 1, 1) := by decide +kernel
theorem d_Checker_init_30 : decode b_Checker_init 30 = .ok (.putfield 22, 3) := by decide +kernel
theorem d_Checker_init_33 : decode b_Checker_init 33 = .ok (.return_, 1) := by decide +kernel
theorem d_Runner_init_0 : decode b_Runner_init 0 = .ok (.aload_n 0, 1) := by decide +kernel
theorem d_Runner_init_1 : decode b_Runner_init 1 = .ok (.invokespecial 3, 3) := by decide +kernel
theorem d_Runner_init_4 : decode b_Runner_init 4 = .ok (.aload_n 0, 1) := by decide +kernel
theorem d_Runner_init_5 : decode b_Runner_init 5 = .ok (.bipush 12, 2) := by decide +kernel
theorem d_Runner_init_7 : decode b_Runner_init 7 = .ok (.newarray .int, 2) := by decide +kernel
theorem d_Runner_init_9 : decode b_Runner_init 9 = .ok (.putfield 9, 3) := by decide +kernel
theorem d_Runner_init_12 : decode b_Runner_init 12 = .ok (.aload_n 0, 1) := by decide +kernel
theorem d_Runner_init_13 : decode b_Runner_init 13 = .ok (.bipush 16, 2) := by decide +kernel
theorem d_Runner_init_15 : decode b_Runner_init 15 = .ok (.newarray .int, 2) := by decide +kernel
theorem d_Runner_init_17 : decode b_Runner_init 17 = .ok (.putfield 15, 3) := by decide +kernel
theorem d_Runner_init_20 : decode b_Runner_init 20 = .ok (.aload_n 0, 1) := by decide +kernel
theorem d_Runner_init_21 : decode b_Runner_init 21 = .ok (.bipush 20, 2) := by decide +kernel
theorem d_Runner_init_23 : decode b_Runner_init 23 = .ok (.newarray .int, 2) := by decide +kernel
theorem d_Runner_init_25 : decode b_Runner_init 25 = .ok (.putfield 18, 3) := by decide +kernel
theorem d_Runner_init_28 : decode b_Runner_init 28 = .ok (.aload_n 0, 1) := by decide +kernel
theorem d_Runner_init_29 : decode b_Runner_init 29 = .ok (.bipush 70, 2) := by decide +kernel
theorem d_Runner_init_31 : decode b_Runner_init 31 = .ok (.newarray .int, 2) := by decide +kernel
theorem d_Runner_init_33 : decode b_Runner_init 33 = .ok (.putfield 21, 3) := by decide +kernel
theorem d_Runner_init_36 : decode b_Runner_init 36 = .ok (.aload_n 0, 1) := by decide +kernel
theorem d_Runner_init_37 : decode b_Runner_init 37 = .ok (.bipush 28, 2) := by decide +kernel
theorem d_Runner_init_39 : decode b_Runner_init 39 = .ok (.newarray .int, 2) := by decide +kernel
theorem d_Runner_init_41 : decode b_Runner_init 41 = .ok (.putfield 24, 3) := by decide +kernel
theorem d_Runner_init_44 : decode b_Runner_init 44 = .ok (.aload_n 0, 1) := by decide +kernel
theorem d_Runner_init_45 : decode b_Runner_init 45 = .ok (.bipush 7, 2) := by decide +kernel
theorem d_Runner_init_47 : decode b_Runner_init 47 = .ok (.newarray .int, 2) := by decide +kernel
theorem d_Runner_init_49 : decode b_Runner_init 49 = .ok (.putfield 27, 3) := by decide +kernel
theorem d_Runner_init_52 : decode b_Runner_init 52 = .ok (.aload_n 0, 1) := by decide +kernel
theorem d_Runner_init_53 : decode b_Runner_init 53 = .ok (.bipush 7, 2) := by decide +kernel
theorem d_Runner_init_55 : decode b_Runner_init 55 = .ok (.newarray .int, 2) := by decide +kernel
theorem d_Runner_init_57 : decode b_Runner_init 57 = .ok (.putfield 30, 3) := by decide +kernel
theorem d_Runner_init_60 : decode b_Runner_init 60 = .ok (.aload_n 0, 1) := by decide +kernel
theorem d_Runner_init_61 : decode b_Runner_init 61 = .ok (.aload_n 1, 1) := by decide +kernel
theorem d_Runner_init_62 : decode b_Runner_init 62 = .ok (.putfield 33, 3) := by decide +kernel
theorem d_Runner_init_65 : decode b_Runner_init 65 = .ok (.return_, 1) := by decide +kernel
theorem d_Foreteller_init_0 : decode b_Foreteller_init 0 = .ok (.aload_n 0, 1) := by decide +kernel
theorem d_Foreteller_init_1 : decode b_Foreteller_init 1 = .ok (.invokespecial 3, 3) := by decide +kernel
theorem d_Foreteller_init_4 : decode b_Foreteller_init 4 = .ok (.aload_n 0, 1) := by decide +kernel
theorem d_Foreteller_init_5 : decode b_Foreteller_init 5 = .ok (.bipush 100, 2) := by decide +kernel
theorem d_Foreteller_init_7 : decode b_Foreteller_init 7 = .ok (.newarray .boolean, 2) := by decide +kernel
theorem d_Foreteller_init_9 : decode b_Foreteller_init 9 = .ok (.putfield 9, 3) := by decide +kernel
theorem d_Foreteller_init_12 : decode b_Foreteller_init 12 = .ok (.aload_n 0, 1) := by decide +kernel
theorem d_Foreteller_init_13 : decode b_Foreteller_init 13 = .ok (.bipush 100, 2) := by decide +kernel
theorem d_Foreteller_init_15 : decode b_Foreteller_init 15 = .ok (.newarray .int, 2) := by decide +kernel
theorem d_Foreteller_init_17 : decode b_Foreteller_init 17 = .ok (.putfield 15, 3) := by decide +kernel
theorem d_Foreteller_init_20 : decode b_Foreteller_init 20 = .ok (.aload_n 0, 1) := by decide +kernel
theorem d_Foreteller_init_21 : decode b_Foreteller_init 21 = .ok (.bipush 16, 2) := by decide +kernel
theorem d_Foreteller_init_23 : decode b_Foreteller_init 23 = .ok (.newarray .int, 2) := by decide +kernel
theorem d_Foreteller_init_25 : decode b_Foreteller_init 25 = .ok (.putfield 19, 3) := by decide +kernel
theorem d_Foreteller_init_28 : decode b_Foreteller_init 28 = .ok (.aload_n 0, 1) := by decide +kernel
theorem d_Foreteller_init_29 : decode b_Foreteller_init 29 = .ok (.iconst 3, 1) := by decide +kernel
theorem d_Foreteller_init_30 : decode b_Foreteller_init 30 = .ok (.newarray .int, 2) := by decide +kernel
theorem d_Foreteller_init_32 : decode b_Foreteller_init 32 = .ok (.putfield 22, 3) := by decide +kernel
theorem d_Foreteller_init_35 : decode b_Foreteller_init 35 = .ok (.aload_n 0, 1) := by decide +kernel
theorem d_Foreteller_init_36 : decode b_Foreteller_init 36 = .ok (.iconst 3, 1) := by decide +kernel
theorem d_Foreteller_init_37 : decode b_Foreteller_init 37 = .ok (.newarray .boolean, 2) := by decide +kernel
theorem d_Foreteller_init_39 : decode b_Foreteller_init 39 = .ok (.putfield 25, 3) := by decide +kernel
theorem d_Foreteller_init_42 : decode b_Foreteller_init 42 = .ok (.aload_n 0, 1) := by decide +kernel
theorem d_Foreteller_init_43 : decode b_Foreteller_init 43 = .ok (.bipush 100, 2) := by decide +kernel
theorem d_Foreteller_init_45 : decode b_Foreteller_init 45 = .ok (.newarray .boolean, 2) := by decide +kernel
theorem d_Foreteller_init_47 : decode b_Foreteller_init 47 = .ok (.putfield 28, 3) := by decide +kernel
theorem d_Foreteller_init_50 : decode b_Foreteller_init 50 = .ok (.aload_n 0, 1) := by decide +kernel
theorem d_Foreteller_init_51 : decode b_Foreteller_init 51 = .ok (.sipush 1000, 3) := by decide +kernel
theorem d_Foreteller_init_54 : decode b_Foreteller_init 54 = .ok (.newarray .int, 2) := by decide +kernel
theorem d_Foreteller_init_56 : decode b_Foreteller_init 56 = .ok (.putfield 31, 3) := by decide +kernel
theorem d_Foreteller_init_59 : decode b_Foreteller_init 59 = .ok (.aload_n 0, 1) := by decide +kernel
theorem d_Foreteller_init_60 : decode b_Foreteller_init 60 = .ok (.sipush 400, 3) := by decide +kernel
theorem d_Foreteller_init_63 : decode b_Foreteller_init 63 = .ok (.newarray .int, 2) := by decide +kernel
theorem d_Foreteller_init_65 : decode b_Foreteller_init 65 = .ok (.putfield 34, 3) := by decide +kernel
theorem d_Foreteller_init_68 : decode b_Foreteller_init 68 = .ok (.aload_n 0, 1) := by decide +kernel
theorem d_Foreteller_init_69 : decode b_Foreteller_init 69 = .ok (.bipush 6, 2) := by decide +kernel
theorem d_Foreteller_init_71 : decode b_Foreteller_init 71 = .ok (.newarray .int, 2) := by decide +kernel
theorem d_Foreteller_init_73 : decode b_Foreteller_init 73 = .ok (.putfield 37, 3) := by decide +kernel
theorem d_Foreteller_init_76 : decode b_Foreteller_init 76 = .ok (.aload_n 0, 1) := by decide +kernel
theorem d_Foreteller_init_77 : decode b_Foreteller_init 77 = .ok (.bipush 10, 2) := by decide +kernel
theorem d_Foreteller_init_79 : decode b_Foreteller_init 79 = .ok (.newarray .int, 2) := by decide +kernel
theorem d_Foreteller_init_81 : decode b_Foreteller_init 81 = .ok (.putfield 40, 3) := by decide +kernel
theorem d_Foreteller_init_84 : decode b_Foreteller_init 84 = .ok (.aload_n 0, 1) := by decide +kernel
theorem d_Foreteller_init_85 : decode b_Foreteller_init 85 = .ok (.iconst 4, 1) := by decide +kernel
theorem d_Foreteller_init_86 : decode b_Foreteller_init 86 = .ok (.newarray .int, 2) := by decide +kernel
theorem d_Foreteller_init_88 : decode b_Foreteller_init 88 = .ok (.putfield 43, 3) := by decide +kernel
theorem d_Foreteller_init_91 : decode b_Foreteller_init 91 = .ok (.aload_n 0, 1) := by decide +kernel
theorem d_Foreteller_init_92 : decode b_Foreteller_init 92 = .ok (.aload_n 1, 1) := by decide +kernel
theorem d_Foreteller_init_93 : decode b_Foreteller_init 93 = .ok (.putfield 46, 3) := by decide +kernel
theorem d_Foreteller_init_96 : decode b_Foreteller_init 96 = .ok (.return_, 1) := by decide +kernel
theorem d_RangeTeller_init_0 : decode b_RangeTeller_init 0 = .ok (.aload_n 0, 1) := by decide +kernel
theorem d_RangeTeller_init_1 : decode b_RangeTeller_init 1 = .ok (.invokespecial 1, 3) := by decide +kernel
theorem d_RangeTeller_init_4 : decode b_RangeTeller_init 4 = .ok (.new 7, 3) := by decide +kernel
theorem d_RangeTeller_init_7 : decode b_RangeTeller_init 7 = .ok (.dup, 1) := by decide +kernel
theorem d_RangeTeller_init_8 : decode b_RangeTeller_init 8 = .ok (.invokespecial 9, 3) := by decide +kernel
theorem d_RangeTeller_init_11 : decode b_RangeTeller_init 11 = .ok (.astore_n 1, 1) := by decide +kernel
theorem d_RangeTeller_init_12 : decode b_RangeTeller_init 12 = .ok (.aload_n 0, 1) := by decide +kernel
theorem d_RangeTeller_init_13 : decode b_RangeTeller_init 13 = .ok (.aload_n 1, 1) := by decide +kernel
theorem d_RangeTeller_init_14 : decode b_RangeTeller_init 14 = .ok (.putfield 10, 3) := by decide +kernel
theorem d_RangeTeller_init_17 : decode b_RangeTeller_init 17 = .ok (.aload_n 0, 1) := by decide +kernel
theorem d_RangeTeller_init_18 : decode b_RangeTeller_init 18 = .ok (.new 16, 3) := by decide +kernel
theorem d_RangeTeller_init_21 : decode b_RangeTeller_init 21 = .ok (.dup, 1) := by decide +kernel
theorem d_RangeTeller_init_22 : decode b_RangeTeller_init 22 = .ok (.aload_n 1, 1) := by decide +kernel
theorem d_RangeTeller_init_23 : decode b_RangeTeller_init 23 = .ok (.invokespecial 18, 3) := by decide +kernel
theorem d_RangeTeller_init_26 : decode b_RangeTeller_init 26 = .ok (.putfield 21, 3) := by decide +kernel
theorem d_RangeTeller_init_29 : decode b_RangeTeller_init 29 = .ok (.aload_n 0, 1) := by decide +kernel
theorem d_RangeTeller_init_30 : decode b_RangeTeller_init 30 = .ok (.new 25, 3) := by decide +kernel
theorem d_RangeTeller_init_33 : decode b_RangeTeller_init 33 = .ok (.dup, 1) := by decide +kernel
theorem d_RangeTeller_init_34 : decode b_RangeTeller_init 34 = .ok (.aload_n 1, 1) := by decide +kernel
theorem d_RangeTeller_init_35 : decode b_RangeTeller_init 35 = .ok (.invokespecial 27, 3) := by decide +kernel
theorem d_RangeTeller_init_38 : decode b_RangeTeller_init 38 = .ok (.putfield 28, 3) := by decide +kernel
theorem d_RangeTeller_init_41 : decode b_RangeTeller_init 41 = .ok (.aload_n 0, 1) := by decide +kernel
theorem d_RangeTeller_init_42 : decode b_RangeTeller_init 42 = .ok (.new 32, 3) := by decide +kernel
theorem d_RangeTeller_init_45 : decode b_RangeTeller_init 45 = .ok (.dup, 1) := by decide +kernel
theorem d_RangeTeller_init_46 : decode b_RangeTeller_init 46 = .ok (.aload_n 1, 1) := by decide +kernel
theorem d_RangeTeller_init_47 : decode b_RangeTeller_init 47 = .ok (.invokespecial 34, 3) := by decide +kernel
theorem d_RangeTeller_init_50 : decode b_RangeTeller_init 50 = .ok (.putfield 35, 3) := by decide +kernel
theorem d_RangeTeller_init_53 : decode b_RangeTeller_init 53 = .ok (.aload_n 0, 1) := by decide +kernel
theorem d_RangeTeller_init_54 : decode b_RangeTeller_init 54 = .ok (.new 39, 3) := by decide +kernel
theorem d_RangeTeller_init_57 : decode b_RangeTeller_init 57 = .ok (.dup, 1) := by decide +kernel
theorem d_RangeTeller_init_58 : decode b_RangeTeller_init 58 = .ok (.aload_n 1, 1) := by decide +kernel
theorem d_RangeTeller_init_59 : decode b_RangeTeller_init 59 = .ok (.invokespecial 41, 3) := by decide +kernel
theorem d_RangeTeller_init_62 : decode b_RangeTeller_init 62 = .ok (.putfield 42, 3) := by decide +kernel
theorem d_RangeTeller_init_65 : decode b_RangeTeller_init 65 = .ok (.aload_n 0, 1) := by decide +kernel
theorem d_RangeTeller_init_66 : decode b_RangeTeller_init 66 = .ok (.iconst 0, 1) := by decide +kernel
theorem d_RangeTeller_init_67 : decode b_RangeTeller_init 67 = .ok (.putfield 46, 3) := by decide +kernel
theorem d_RangeTeller_init_70 : decode b_RangeTeller_init 70 = .ok (.aload_n 0, 1) := by decide +kernel
theorem d_RangeTeller_init_71 : decode b_RangeTeller_init 71 = .ok (.bipush (-3), 2) := by decide +kernel
theorem d_RangeTeller_init_73 : decode b_RangeTeller_init 73 = .ok (.putfield 50, 3) := by decide +kernel
theorem d_RangeTeller_init_76 : decode b_RangeTeller_init 76 = .ok (.return_, 1) := by decide +kernel
theorem d_RangeTellerModel_init_0 : decode b_RangeTellerModel_init 0 = .ok (.aload_n 0, 1) := by decide +kernel
theorem d_RangeTellerModel_init_1 : decode b_RangeTellerModel_init 1 = .ok (.invokespecial 1, 3) := by decide +kernel
theorem d_RangeTellerModel_init_4 : decode b_RangeTellerModel_init 4 = .ok (.aload_n 0, 1) := by decide +kernel
theorem d_RangeTellerModel_init_5 : decode b_RangeTellerModel_init 5 = .ok (.bipush 100, 2) := by decide +kernel
theorem d_RangeTellerModel_init_7 : decode b_RangeTellerModel_init 7 = .ok (.newarray .int, 2) := by decide +kernel
theorem d_RangeTellerModel_init_9 : decode b_RangeTellerModel_init 9 = .ok (.putfield 7, 3) := by decide +kernel
theorem d_RangeTellerModel_init_12 : decode b_RangeTellerModel_init 12 = .ok (.aload_n 0, 1) := by decide +kernel
theorem d_RangeTellerModel_init_13 : decode b_RangeTellerModel_init 13 = .ok (.bipush (-3), 2) := by decide +kernel
theorem d_RangeTellerModel_init_15 : decode b_RangeTellerModel_init 15 = .ok (.putfield 13, 3) := by decide +kernel
theorem d_RangeTellerModel_init_18 : decode b_RangeTellerModel_init 18 = .ok (.aload_n 0, 1) := by decide +kernel
theorem d_RangeTellerModel_init_19 : decode b_RangeTellerModel_init 19 = .ok (.bipush 100, 2) := by decide +kernel
theorem d_RangeTellerModel_init_21 : decode b_RangeTellerModel_init 21 = .ok (.newarray .int, 2) := by decide +kernel
theorem d_RangeTellerModel_init_23 : decode b_RangeTellerModel_init 23 = .ok (.putfield 17, 3) := by decide +kernel
theorem d_RangeTellerModel_init_26 : decode b_RangeTellerModel_init 26 = .ok (.aload_n 0, 1) := by decide +kernel
theorem d_RangeTellerModel_init_27 : decode b_RangeTellerModel_init 27 = .ok (.bipush 100, 2) := by decide +kernel
theorem d_RangeTellerModel_init_29 : decode b_RangeTellerModel_init 29 = .ok (.newarray .int, 2) := by decide +kernel
theorem d_RangeTellerModel_init_31 : decode b_RangeTellerModel_init 31 = .ok (.putfield 20, 3) := by decide +kernel
theorem d_RangeTellerModel_init_34 : decode b_RangeTellerModel_init 34 = .ok (.aload_n 0, 1) := by decide +kernel
theorem d_RangeTellerModel_init_35 : decode b_RangeTellerModel_init 35 = .ok (.bipush 100, 2) := by decide +kernel
theorem d_RangeTellerModel_init_37 : decode b_RangeTellerModel_init 37 = .ok (.newarray .int, 2) := by decide +kernel
theorem d_RangeTellerModel_init_39 : decode b_RangeTellerModel_init 39 = .ok (.putfield 23, 3) := by decide +kernel
theorem d_RangeTellerModel_init_42 : decode b_RangeTellerModel_init 42 = .ok (.aload_n 0, 1) := by decide +kernel
theorem d_RangeTellerModel_init_43 : decode b_RangeTellerModel_init 43 = .ok (.bipush 100, 2) := by decide +kernel
theorem d_RangeTellerModel_init_45 : decode b_RangeTellerModel_init 45 = .ok (.newarray .int, 2) := by decide +kernel
theorem d_RangeTellerModel_init_47 : decode b_RangeTellerModel_init 47 = .ok (.putfield 26, 3) := by decide +kernel
theorem d_RangeTellerModel_init_50 : decode b_RangeTellerModel_init 50 = .ok (.aload_n 0, 1) := by decide +kernel
theorem d_RangeTellerModel_init_51 : decode b_RangeTellerModel_init 51 = .ok (.bipush 100, 2) := by decide +kernel
theorem d_RangeTellerModel_init_53 : decode b_RangeTellerModel_init 53 = .ok (.newarray .int, 2) := by decide +kernel
theorem d_RangeTellerModel_init_55 : decode b_RangeTellerModel_init 55 = .ok (.putfield 29, 3) := by decide +kernel
theorem d_RangeTellerModel_init_58 : decode b_RangeTellerModel_init 58 = .ok (.aload_n 0, 1) := by decide +kernel
theorem d_RangeTellerModel_init_59 : decode b_RangeTellerModel_init 59 = .ok (.bipush 101, 2) := by decide +kernel
theorem d_RangeTellerModel_init_61 : decode b_RangeTellerModel_init 61 = .ok (.newarray .int, 2) := by decide +kernel
theorem d_RangeTellerModel_init_63 : decode b_RangeTellerModel_init 63 = .ok (.putfield 32, 3) := by decide +kernel
theorem d_RangeTellerModel_init_66 : decode b_RangeTellerModel_init 66 = .ok (.aload_n 0, 1) := by decide +kernel
theorem d_RangeTellerModel_init_67 : decode b_RangeTellerModel_init 67 = .ok (.bipush 100, 2) := by decide +kernel
theorem d_RangeTellerModel_init_69 : decode b_RangeTellerModel_init 69 = .ok (.newarray .int, 2) := by decide +kernel
theorem d_RangeTellerModel_init_71 : decode b_RangeTellerModel_init 71 = .ok (.putfield 35, 3) := by decide +kernel
theorem d_RangeTellerModel_init_74 : decode b_RangeTellerModel_init 74 = .ok (.aload_n 0, 1) := by decide +kernel
theorem d_RangeTellerModel_init_75 : decode b_RangeTellerModel_init 75 = .ok (.bipush 100, 2) := by decide +kernel
theorem d_RangeTellerModel_init_77 : decode b_RangeTellerModel_init 77 = .ok (.newarray .int, 2) := by decide +kernel
theorem d_RangeTellerModel_init_79 : decode b_RangeTellerModel_init 79 = .ok (.putfield 38, 3) := by decide +kernel
theorem d_RangeTellerModel_init_82 : decode b_RangeTellerModel_init 82 = .ok (.aload_n 0, 1) := by decide +kernel
theorem d_RangeTellerModel_init_83 : decode b_RangeTellerModel_init 83 = .ok (.bipush 100, 2) := by decide +kernel
theorem d_RangeTellerModel_init_85 : decode b_RangeTellerModel_init 85 = .ok (.newarray .int, 2) := by decide +kernel
theorem d_RangeTellerModel_init_87 : decode b_RangeTellerModel_init 87 = .ok (.putfield 41, 3) := by decide +kernel
theorem d_RangeTellerModel_init_90 : decode b_RangeTellerModel_init 90 = .ok (.aload_n 0, 1) := by decide +kernel
theorem d_RangeTellerModel_init_91 : decode b_RangeTellerModel_init 91 = .ok (.iconst 3, 1) := by decide +kernel
theorem d_RangeTellerModel_init_92 : decode b_RangeTellerModel_init 92 = .ok (.newarray .int, 2) := by decide +kernel
theorem d_RangeTellerModel_init_94 : decode b_RangeTellerModel_init 94 = .ok (.putfield 44, 3) := by decide +kernel
theorem d_RangeTellerModel_init_97 : decode b_RangeTellerModel_init 97 = .ok (.aload_n 0, 1) := by decide +kernel
theorem d_RangeTellerModel_init_98 : decode b_RangeTellerModel_init 98 = .ok (.iconst 3, 1) := by decide +kernel
theorem d_RangeTellerModel_init_99 : decode b_RangeTellerModel_init 99 = .ok (.newarray .int, 2) := by decide +kernel
theorem d_RangeTellerModel_init_101 : decode b_RangeTellerModel_init 101 = .ok (.putfield 47, 3) := by decide +kernel
theorem d_RangeTellerModel_init_104 : decode b_RangeTellerModel_init 104 = .ok (.aload_n 0, 1) := by decide +kernel
theorem d_RangeTellerModel_init_105 : decode b_RangeTellerModel_init 105 = .ok (.iconst 3, 1) := by decide +kernel
theorem d_RangeTellerModel_init_106 : decode b_RangeTellerModel_init 106 = .ok (.newarray .int, 2) := by decide +kernel
theorem d_RangeTellerModel_init_108 : decode b_RangeTellerModel_init 108 = .ok (.putfield 50, 3) := by decide +kernel
theorem d_RangeTellerModel_init_111 : decode b_RangeTellerModel_init 111 = .ok (.aload_n 0, 1) := by decide +kernel
theorem d_RangeTellerModel_init_112 : decode b_RangeTellerModel_init 112 = .ok (.iconst 3, 1) := by decide +kernel
theorem d_RangeTellerModel_init_113 : decode b_RangeTellerModel_init 113 = .ok (.newarray .int, 2) := by decide +kernel
theorem d_RangeTellerModel_init_115 : decode b_RangeTellerModel_init 115 = .ok (.putfield 53, 3) := by decide +kernel
theorem d_RangeTellerModel_init_118 : decode b_RangeTellerModel_init 118 = .ok (.aload_n 0, 1) := by decide +kernel
theorem d_RangeTellerModel_init_119 : decode b_RangeTellerModel_init 119 = .ok (.bipush 101, 2) := by decide +kernel
theorem d_RangeTellerModel_init_121 : decode b_RangeTellerModel_init 121 = .ok (.newarray .int, 2) := by decide +kernel
theorem d_RangeTellerModel_init_123 : decode b_RangeTellerModel_init 123 = .ok (.putfield 56, 3) := by decide +kernel
theorem d_RangeTellerModel_init_126 : decode b_RangeTellerModel_init 126 = .ok (.aload_n 0, 1) := by decide +kernel
theorem d_RangeTellerModel_init_127 : decode b_RangeTellerModel_init 127 = .ok (.bipush 101, 2) := by decide +kernel
theorem d_RangeTellerModel_init_129 : decode b_RangeTellerModel_init 129 = .ok (.newarray .int, 2) := by decide +kernel
theorem d_RangeTellerModel_init_131 : decode b_RangeTellerModel_init 131 = .ok (.putfield 59, 3) := by decide +kernel
theorem d_RangeTellerModel_init_134 : decode b_RangeTellerModel_init 134 = .ok (.aload_n 0, 1) := by decide +kernel
theorem d_RangeTellerModel_init_135 : decode b_RangeTellerModel_init 135 = .ok (.bipush 101, 2) := by decide +kernel
theorem d_RangeTellerModel_init_137 : decode b_RangeTellerModel_init 137 = .ok (.newarray .int, 2) := by decide +kernel
theorem d_RangeTellerModel_init_139 : decode b_RangeTellerModel_init 139 = .ok (.putfield 62, 3) := by decide +kernel
theorem d_RangeTellerModel_init_142 : decode b_RangeTellerModel_init 142 = .ok (.aload_n 0, 1) := by decide +kernel
theorem d_RangeTellerModel_init_143 : decode b_RangeTellerModel_init 143 = .ok (.bipush 101, 2) := by decide +kernel
theorem d_RangeTellerModel_init_145 : decode b_RangeTellerModel_init 145 = .ok (.newarray .boolean, 2) := by decide +kernel
theorem d_RangeTellerModel_init_147 : decode b_RangeTellerModel_init 147 = .ok (.putfield 65, 3) := by decide +kernel
theorem d_RangeTellerModel_init_150 : decode b_RangeTellerModel_init 150 = .ok (.aload_n 0, 1) := by decide +kernel
theorem d_RangeTellerModel_init_151 : decode b_RangeTellerModel_init 151 = .ok (.bipush 12, 2) := by decide +kernel
theorem d_RangeTellerModel_init_153 : decode b_RangeTellerModel_init 153 = .ok (.newarray .int, 2) := by decide +kernel
theorem d_RangeTellerModel_init_155 : decode b_RangeTellerModel_init 155 = .ok (.putfield 69, 3) := by decide +kernel
theorem d_RangeTellerModel_init_158 : decode b_RangeTellerModel_init 158 = .ok (.aload_n 0, 1) := by decide +kernel
theorem d_RangeTellerModel_init_159 : decode b_RangeTellerModel_init 159 = .ok (.bipush 8, 2) := by decide +kernel
theorem d_RangeTellerModel_init_161 : decode b_RangeTellerModel_init 161 = .ok (.newarray .int, 2) := by decide +kernel
theorem d_RangeTellerModel_init_163 : decode b_RangeTellerModel_init 163 = .ok (.putfield 72, 3) := by decide +kernel
theorem d_RangeTellerModel_init_166 : decode b_RangeTellerModel_init 166 = .ok (.aload_n 0, 1) := by decide +kernel
theorem d_RangeTellerModel_init_167 : decode b_RangeTellerModel_init 167 = .ok (.bipush 80, 2) := by decide +kernel
theorem d_RangeTellerModel_init_169 : decode b_RangeTellerModel_init 169 = .ok (.newarray .int, 2) := by decide +kernel
theorem d_RangeTellerModel_init_171 : decode b_RangeTellerModel_init 171 = .ok (.putfield 75, 3) := by decide +kernel
theorem d_RangeTellerModel_init_174 : decode b_RangeTellerModel_init 174 = .ok (.aload_n 0, 1) := by decide +kernel
theorem d_RangeTellerModel_init_175 : decode b_RangeTellerModel_init 175 = .ok (.bipush 32, 2) := by decide +kernel
theorem d_RangeTellerModel_init_177 : decode b_RangeTellerModel_init 177 = .ok (.newarray .int, 2) := by decide +kernel
theorem d_RangeTellerModel_init_179 : decode b_RangeTellerModel_init 179 = .ok (.putfield 78, 3) := by decide +kernel
theorem d_RangeTellerModel_init_182 : decode b_RangeTellerModel_init 182 = .ok (.aload_n 0, 1) := by decide +kernel
theorem d_RangeTellerModel_init_183 : decode b_RangeTellerModel_init 183 = .ok (.bipush 8, 2) := by decide +kernel
theorem d_RangeTellerModel_init_185 : decode b_RangeTellerModel_init 185 = .ok (.newarray .int, 2) := by decide +kernel
theorem d_RangeTellerModel_init_187 : decode b_RangeTellerModel_init 187 = .ok (.putfield 81, 3) := by decide +kernel
theorem d_RangeTellerModel_init_190 : decode b_RangeTellerModel_init 190 = .ok (.aload_n 0, 1) := by decide +kernel
theorem d_RangeTellerModel_init_191 : decode b_RangeTellerModel_init 191 = .ok (.bipush 16, 2) := by decide +kernel
theorem d_RangeTellerModel_init_193 : decode b_RangeTellerModel_init 193 = .ok (.newarray .int, 2) := by decide +kernel
theorem d_RangeTellerModel_init_195 : decode b_RangeTellerModel_init 195 = .ok (.putfield 84, 3) := by decide +kernel
theorem d_RangeTellerModel_init_198 : decode b_RangeTellerModel_init 198 = .ok (.aload_n 0, 1) := by decide +kernel
theorem d_RangeTellerModel_init_199 : decode b_RangeTellerModel_init 199 = .ok (.bipush 20, 2) := by decide +kernel
theorem d_RangeTellerModel_init_201 : decode b_RangeTellerModel_init 201 = .ok (.newarray .int, 2) := by decide +kernel
theorem d_RangeTellerModel_init_203 : decode b_RangeTellerModel_init 203 = .ok (.putfield 87, 3) := by decide +kernel
theorem d_RangeTellerModel_init_206 : decode b_RangeTellerModel_init 206 = .ok (.aload_n 0, 1) := by decide +kernel
theorem d_RangeTellerModel_init_207 : decode b_RangeTellerModel_init 207 = .ok (.bipush 101, 2) := by decide +kernel
theorem d_RangeTellerModel_init_209 : decode b_RangeTellerModel_init 209 = .ok (.newarray .boolean, 2) := by decide +kernel
theorem d_RangeTellerModel_init_211 : decode b_RangeTellerModel_init 211 = .ok (.putfield 90, 3) := by decide +kernel
theorem d_RangeTellerModel_init_214 : decode b_RangeTellerModel_init 214 = .ok (.aload_n 0, 1) := by decide +kernel
theorem d_RangeTellerModel_init_215 : decode b_RangeTellerModel_init 215 = .ok (.bipush 101, 2) := by decide +kernel
theorem d_RangeTellerModel_init_217 : decode b_RangeTellerModel_init 217 = .ok (.newarray .boolean, 2) := by decide +kernel
theorem d_RangeTellerModel_init_219 : decode b_RangeTellerModel_init 219 = .ok (.putfield 93, 3) := by decide +kernel
theorem d_RangeTellerModel_init_222 : decode b_RangeTellerModel_init 222 = .ok (.aload_n 0, 1) := by decide +kernel
theorem d_RangeTellerModel_init_223 : decode b_RangeTellerModel_init 223 = .ok (.sipush 1000, 3) := by decide +kernel
theorem d_RangeTellerModel_init_226 : decode b_RangeTellerModel_init 226 = .ok (.newarray .int, 2) := by decide +kernel
theorem d_RangeTellerModel_init_228 : decode b_RangeTellerModel_init 228 = .ok (.putfield 96, 3) := by decide +kernel
theorem d_RangeTellerModel_init_231 : decode b_RangeTellerModel_init 231 = .ok (.aload_n 0, 1) := by decide +kernel
theorem d_RangeTellerModel_init_232 : decode b_RangeTellerModel_init 232 = .ok (.sipush 1000, 3) := by decide +kernel
theorem d_RangeTellerModel_init_235 : decode b_RangeTellerModel_init 235 = .ok (.newarray .int, 2) := by decide +kernel
theorem d_RangeTellerModel_init_237 : decode b_RangeTellerModel_init 237 = .ok (.putfield 99, 3) := by decide +kernel
theorem d_RangeTellerModel_init_240 : decode b_RangeTellerModel_init 240 = .ok (.aload_n 0, 1) := by decide +kernel
theorem d_RangeTellerModel_init_241 : decode b_RangeTellerModel_init 241 = .ok (.sipush 1000, 3) := by decide +kernel
theorem d_RangeTellerModel_init_244 : decode b_RangeTellerModel_init 244 = .ok (.newarray .boolean, 2) := by decide +kernel
theorem d_RangeTellerModel_init_246 : decode b_RangeTellerModel_init 246 = .ok (.putfield 102, 3) := by decide +kernel
theorem d_RangeTellerModel_init_249 : decode b_RangeTellerModel_init 249 = .ok (.aload_n 0, 1) := by decide +kernel
theorem d_RangeTellerModel_init_250 : decode b_RangeTellerModel_init 250 = .ok (.sipush 400, 3) := by decide +kernel
theorem d_RangeTellerModel_init_253 : decode b_RangeTellerModel_init 253 = .ok (.newarray .int, 2) := by decide +kernel
theorem d_RangeTellerModel_init_255 : decode b_RangeTellerModel_init 255 = .ok (.putfield 105, 3) := by decide +kernel
theorem d_RangeTellerModel_init_258 : decode b_RangeTellerModel_init 258 = .ok (.aload_n 0, 1) := by decide +kernel
theorem d_RangeTellerModel_init_259 : decode b_RangeTellerModel_init 259 = .ok (.sipush 400, 3) := by decide +kernel
theorem d_RangeTellerModel_init_262 : decode b_RangeTellerModel_init 262 = .ok (.newarray .int, 2) := by decide +kernel
theorem d_RangeTellerModel_init_264 : decode b_RangeTellerModel_init 264 = .ok (.putfield 108, 3) := by decide +kernel
theorem d_RangeTellerModel_init_267 : decode b_RangeTellerModel_init 267 = .ok (.aload_n 0, 1) := by decide +kernel
theorem d_RangeTellerModel_init_268 : decode b_RangeTellerModel_init 268 = .ok (.sipush 400, 3) := by decide +kernel
theorem d_RangeTellerModel_init_271 : decode b_RangeTellerModel_init 271 = .ok (.newarray .boolean, 2) := by decide +kernel
theorem d_RangeTellerModel_init_273 : decode b_RangeTellerModel_init 273 = .ok (.putfield 111, 3) := by decide +kernel
theorem d_RangeTellerModel_init_276 : decode b_RangeTellerModel_init 276 = .ok (.aload_n 0, 1) := by decide +kernel
theorem d_RangeTellerModel_init_277 : decode b_RangeTellerModel_init 277 = .ok (.bipush 16, 2) := by decide +kernel
theorem d_RangeTellerModel_init_279 : decode b_RangeTellerModel_init 279 = .ok (.newarray .int, 2) := by decide +kernel
theorem d_RangeTellerModel_init_281 : decode b_RangeTellerModel_init 281 = .ok (.putfield 114, 3) := by decide +kernel
theorem d_RangeTellerModel_init_284 : decode b_RangeTellerModel_init 284 = .ok (.aload_n 0, 1) := by decide +kernel
theorem d_RangeTellerModel_init_285 : decode b_RangeTellerModel_init 285 = .ok (.bipush 16, 2) := by decide +kernel
theorem d_RangeTellerModel_init_287 : decode b_RangeTellerModel_init 287 = .ok (.newarray .int, 2) := by decide +kernel
theorem d_RangeTellerModel_init_289 : decode b_RangeTellerModel_init 289 = .ok (.putfield 117, 3) := by decide +kernel
theorem d_RangeTellerModel_init_292 : decode b_RangeTellerModel_init 292 = .ok (.aload_n 0, 1) := by decide +kernel
theorem d_RangeTellerModel_init_293 : decode b_RangeTellerModel_init 293 = .ok (.bipush 16, 2) := by decide +kernel
theorem d_RangeTellerModel_init_295 : decode b_RangeTellerModel_init 295 = .ok (.newarray .boolean, 2) := by decide +kernel
theorem d_RangeTellerModel_init_297 : decode b_RangeTellerModel_init 297 = .ok (.putfield 120, 3) := by decide +kernel
theorem d_RangeTellerModel_init_300 : decode b_RangeTellerModel_init 300 = .ok (.aload_n 0, 1) := by decide +kernel
theorem d_RangeTellerModel_init_301 : decode b_RangeTellerModel_init 301 = .ok (.iconst 3, 1) := by decide +kernel
theorem d_RangeTellerModel_init_302 : decode b_RangeTellerModel_init 302 = .ok (.newarray .int, 2) := by decide +kernel
theorem d_RangeTellerModel_init_304 : decode b_RangeTellerModel_init 304 = .ok (.putfield 123, 3) := by decide +kernel
theorem d_RangeTellerModel_init_307 : decode b_RangeTellerModel_init 307 = .ok (.aload_n 0, 1) := by decide +kernel
theorem d_RangeTellerModel_init_308 : decode b_RangeTellerModel_init 308 = .ok (.iconst 3, 1) := by decide +kernel
theorem d_RangeTellerModel_init_309 : decode b_RangeTellerModel_init 309 = .ok (.newarray .int, 2) := by decide +kernel
theorem d_RangeTellerModel_init_311 : decode b_RangeTellerModel_init 311 = .ok (.putfield 126, 3) := by decide +kernel
theorem d_RangeTellerModel_init_314 : decode b_RangeTellerModel_init 314 = .ok (.aload_n 0, 1) := by decide +kernel
theorem d_RangeTellerModel_init_315 : decode b_RangeTellerModel_init 315 = .ok (.iconst 3, 1) := by decide +kernel
theorem d_RangeTellerModel_init_316 : decode b_RangeTellerModel_init 316 = .ok (.newarray .boolean, 2) := by decide +kernel
theorem d_RangeTellerModel_init_318 : decode b_RangeTellerModel_init 318 = .ok (.putfield 129, 3) := by decide +kernel
theorem d_RangeTellerModel_init_321 : decode b_RangeTellerModel_init 321 = .ok (.aload_n 0, 1) := by decide +kernel
theorem d_RangeTellerModel_init_322 : decode b_RangeTellerModel_init 322 = .ok (.iconst 3, 1) := by decide +kernel
theorem d_RangeTellerModel_init_323 : decode b_RangeTellerModel_init 323 = .ok (.newarray .boolean, 2) := by decide +kernel
theorem d_RangeTellerModel_init_325 : decode b_RangeTellerModel_init 325 = .ok (.putfield 132, 3) := by decide +kernel
theorem d_RangeTellerModel_init_328 : decode b_RangeTellerModel_init 328 = .ok (.aload_n 0, 1) := by decide +kernel
theorem d_RangeTellerModel_init_329 : decode b_RangeTellerModel_init 329 = .ok (.bipush 12, 2) := by decide +kernel
theorem d_RangeTellerModel_init_331 : decode b_RangeTellerModel_init 331 = .ok (.newarray .int, 2) := by decide +kernel
theorem d_RangeTellerModel_init_333 : decode b_RangeTellerModel_init 333 = .ok (.putfield 135, 3) := by decide +kernel
theorem d_RangeTellerModel_init_336 : decode b_RangeTellerModel_init 336 = .ok (.aload_n 0, 1) := by decide +kernel
theorem d_RangeTellerModel_init_337 : decode b_RangeTellerModel_init 337 = .ok (.bipush 12, 2) := by decide +kernel
theorem d_RangeTellerModel_init_339 : decode b_RangeTellerModel_init 339 = .ok (.newarray .int, 2) := by decide +kernel
theorem d_RangeTellerModel_init_341 : decode b_RangeTellerModel_init 341 = .ok (.putfield 138, 3) := by decide +kernel
theorem d_RangeTellerModel_init_344 : decode b_RangeTellerModel_init 344 = .ok (.aload_n 0, 1) := by decide +kernel
theorem d_RangeTellerModel_init_345 : decode b_RangeTellerModel_init 345 = .ok (.bipush 12, 2) := by decide +kernel
theorem d_RangeTellerModel_init_347 : decode b_RangeTellerModel_init 347 = .ok (.newarray .boolean, 2) := by decide +kernel
theorem d_RangeTellerModel_init_349 : decode b_RangeTellerModel_init 349 = .ok (.putfield 141, 3) := by decide +kernel
theorem d_RangeTellerModel_init_352 : decode b_RangeTellerModel_init 352 = .ok (.aload_n 0, 1) := by decide +kernel
theorem d_RangeTellerModel_init_353 : decode b_RangeTellerModel_init 353 = .ok (.iconst 4, 1) := by decide +kernel
theorem d_RangeTellerModel_init_354 : decode b_RangeTellerModel_init 354 = .ok (.newarray .int, 2) := by decide +kernel
theorem d_RangeTellerModel_init_356 : decode b_RangeTellerModel_init 356 = .ok (.putfield 144, 3) := by decide +kernel
theorem d_RangeTellerModel_init_359 : decode b_RangeTellerModel_init 359 = .ok (.aload_n 0, 1) := by decide +kernel
theorem d_RangeTellerModel_init_360 : decode b_RangeTellerModel_init 360 = .ok (.iconst 4, 1) := by decide +kernel
theorem d_RangeTellerModel_init_361 : decode b_RangeTellerModel_init 361 = .ok (.newarray .int, 2) := by decide +kernel
theorem d_RangeTellerModel_init_363 : decode b_RangeTellerModel_init 363 = .ok (.putfield 147, 3) := by decide +kernel
theorem d_RangeTellerModel_init_366 : decode b_RangeTellerModel_init 366 = .ok (.aload_n 0, 1) := by decide +kernel
theorem d_RangeTellerModel_init_367 : decode b_RangeTellerModel_init 367 = .ok (.iconst 4, 1) := by decide +kernel
theorem d_RangeTellerModel_init_368 : decode b_RangeTellerModel_init 368 = .ok (.newarray .boolean, 2) := by decide +kernel
theorem d_RangeTellerModel_init_370 : decode b_RangeTellerModel_init 370 = .ok (.putfield 150, 3) := by decide +kernel
theorem d_RangeTellerModel_init_373 : decode b_RangeTellerModel_init 373 = .ok (.return_, 1) := by decide +kernel
