theorem d_RangeTeller_output_1 : decode b_RangeTeller_output 1 = .ok (.getfield 35, 3) := by decide +kernel
theorem d_RangeTeller_output_4 : decode b_RangeTeller_output 4 = .ok (.getfield 91, 3) := by decide +kernel
theorem d_RangeTeller_output_7 : decode b_RangeTeller_output 7 = .ok (.ifCond .eq 24, 3) := by decide +kernel
theorem d_RangeTeller_output_31 : decode b_RangeTeller_output 31 = .ok (.bipush (-3), 2) := by decide +kernel
theorem d_RangeTeller_output_33 : decode b_RangeTeller_output 33 = .ok (.ireturn, 1) := by decide +kernel
theorem d_RangeTeller_output_10 : decode b_RangeTeller_output 10 = .ok (.iload_n 1, 1) := by decide +kernel
theorem d_RangeTeller_output_11 : decode b_RangeTeller_output 11 = .ok (.ifCond .lt 20, 3) := by decide +kernel
theorem d_RangeTeller_output_14 : decode b_RangeTeller_output 14 = .ok (.iload_n 1, 1) := by decide +kernel
theorem d_RangeTeller_output_15 : decode b_RangeTeller_output 15 = .ok (.bipush 20, 2) := by decide +kernel
theorem d_RangeTeller_output_17 : decode b_RangeTeller_output 17 = .ok (.if_icmp .ge 14, 3) := by decide +kernel
theorem d_RangeTeller_output_20 : decode b_RangeTeller_output 20 = .ok (.iload_n 1, 1) := by decide +kernel
theorem d_RangeTeller_output_21 : decode b_RangeTeller_output 21 = .ok (.aload_n 0, 1) := by decide +kernel
theorem d_RangeTeller_output_22 : decode b_RangeTeller_output 22 = .ok (.getfield 35, 3) := by decide +kernel
theorem d_RangeTeller_output_25 : decode b_RangeTeller_output 25 = .ok (.getfield 106, 3) := by decide +kernel
theorem d_RangeTeller_output_28 : decode b_RangeTeller_output 28 = .ok (.if_icmp .lt 6, 3) := by decide +kernel
theorem d_RangeTeller_output_34 : decode b_RangeTeller_output 34 = .ok (.aload_n 0, 1) := by decide +kernel
theorem d_RangeTeller_output_35 : decode b_RangeTeller_output 35 = .ok (.getfield 35, 3) := by decide +kernel
theorem d_RangeTeller_output_38 : decode b_RangeTeller_output 38 = .ok (.getfield 109, 3) := by decide +kernel
theorem d_RangeTeller_output_41 : decode b_RangeTeller_output 41 = .ok (.iload_n 1, 1) := by decide +kernel
theorem d_RangeTeller_output_42 : decode b_RangeTeller_output 42 = .ok (.iaload, 1) := by decide +kernel
theorem d_RangeTeller_output_43 : decode b_RangeTeller_output 43 = .ok (.ireturn, 1) := by decide +kernel
theorem d_RangeTeller_memory_0 : decode b_RangeTeller_memory 0 = .ok (.aload_n 0, 1) := by decide +kernel
theorem d_RangeTeller_memory_1 : decode b_RangeTeller_memory 1 = .ok (.getfield 35, 3) := by decide +kernel
theorem d_RangeTeller_memory_4 : decode b_RangeTeller_memory 4 = .ok (.getfield 91, 3) := by decide +kernel
theorem d_RangeTeller_memory_7 : decode b_RangeTeller_memory 7 = .ok (.ifCond .eq 13, 3) := by decide +kernel
theorem d_RangeTeller_memory_20 : decode b_RangeTeller_memory 20 = .ok (.bipush (-3), 2) := by decide +kernel
theorem d_RangeTeller_memory_22 : decode b_RangeTeller_memory 22 = .ok (.ireturn, 1) := by decide +kernel
theorem d_RangeTeller_memory_10 : decode b_RangeTeller_memory 10 = .ok (.iload_n 1, 1) := by decide +kernel
theorem d_RangeTeller_memory_11 : decode b_RangeTeller_memory 11 = .ok (.ifCond .lt 9, 3) := by decide +kernel
theorem d_RangeTeller_memory_14 : decode b_RangeTeller_memory 14 = .ok (.iload_n 1, 1) := by decide +kernel
theorem d_RangeTeller_memory_15 : decode b_RangeTeller_memory 15 = .ok (.bipush 16, 2) := by decide +kernel
theorem d_RangeTeller_memory_17 : decode b_RangeTeller_memory 17 = .ok (.if_icmp .lt 6, 3) := by decide +kernel
theorem d_RangeTeller_memory_23 : decode b_RangeTeller_memory 23 = .ok (.aload_n 0, 1) := by decide +kernel
theorem d_RangeTeller_memory_24 : decode b_RangeTeller_memory 24 = .ok (.getfield 35, 3) := by decide +kernel
theorem d_RangeTeller_memory_27 : decode b_RangeTeller_memory 27 = .ok (.getfield 113, 3) := by decide +kernel
theorem d_RangeTeller_memory_30 : decode b_RangeTeller_memory 30 = .ok (.iload_n 1, 1) := by decide +kernel
theorem d_RangeTeller_memory_31 : decode b_RangeTeller_memory 31 = .ok (.iaload, 1) := by decide +kernel
theorem d_RangeTeller_memory_32 : decode b_RangeTeller_memory 32 = .ok (.ireturn, 1) := by decide +kernel
theorem d_RangeTeller_isInstruction_0 : decode b_RangeTeller_isInstruction 0 = .ok (.aload_n 0, 1) := by decide +kernel
theorem d_RangeTeller_isInstruction_1 : decode b_RangeTeller_isInstruction 1 = .ok (.getfield 46, 3) := by decide +kernel
theorem d_RangeTeller_isInstruction_4 : decode b_RangeTeller_isInstruction 4 = .ok (.ifCond .eq 22, 3) := by decide +kernel
theorem d_RangeTeller_isInstruction_26 : decode b_RangeTeller_isInstruction 26 = .ok (.iconst 0, 1) := by decide +kernel
theorem d_RangeTeller_isInstruction_27 : decode b_RangeTeller_isInstruction 27 = .ok (.ireturn, 1) := by decide +kernel
theorem d_RangeTeller_isInstruction_7 : decode b_RangeTeller_isInstruction 7 = .ok (.iload_n 1, 1) := by decide +kernel
theorem d_RangeTeller_isInstruction_8 : decode b_RangeTeller_isInstruction 8 = .ok (.ifCond .lt 18, 3) := by decide +kernel
theorem d_RangeTeller_isInstruction_11 : decode b_RangeTeller_isInstruction 11 = .ok (.iload_n 1, 1) := by decide +kernel
theorem d_RangeTeller_isInstruction_12 : decode b_RangeTeller_isInstruction 12 = .ok (.aload_n 0, 1) := by decide +kernel
theorem d_RangeTeller_isInstruction_13 : decode b_RangeTeller_isInstruction 13 = .ok (.getfield 10, 3) := by decide +kernel
theorem d_RangeTeller_isInstruction_16 : decode b_RangeTeller_isInstruction 16 = .ok (.getfield 71, 3) := by decide +kernel
theorem d_RangeTeller_isInstruction_19 : decode b_RangeTeller_isInstruction 19 = .ok (.if_icmp .ge 7, 3) := by decide +kernel
theorem d_RangeTeller_isInstruction_22 : decode b_RangeTeller_isInstruction 22 = .ok (.iconst 1, 1) := by decide +kernel
theorem d_RangeTeller_isInstruction_23 : decode b_RangeTeller_isInstruction 23 = .ok (.goto 4, 3) := by decide +kernel
theorem d_Foreteller_operandAt_0 : decode b_Foreteller_operandAt 0 = .ok (.aload_n 0, 1) := by decide +kernel
theorem d_Foreteller_operandAt_1 : decode b_Foreteller_operandAt 1 = .ok (.getfield 9, 3) := by decide +kernel
theorem d_Foreteller_operandAt_4 : decode b_Foreteller_operandAt 4 = .ok (.iload_n 1, 1) := by decide +kernel
theorem d_Foreteller_operandAt_5 : decode b_Foreteller_operandAt 5 = .ok (.baload, 1) := by decide +kernel
theorem d_Foreteller_operandAt_6 : decode b_Foreteller_operandAt 6 = .ok (.ifCond .eq 17, 3) := by decide +kernel
theorem d_Foreteller_operandAt_23 : decode b_Foreteller_operandAt 23 = .ok (.bipush (-3), 2) := by decide +kernel
theorem d_Foreteller_operandAt_25 : decode b_Foreteller_operandAt 25 = .ok (.ireturn, 1) := by decide +kernel
theorem d_Foreteller_operandAt_9 : decode b_Foreteller_operandAt 9 = .ok (.iload_n 2, 1) := by decide +kernel
theorem d_Foreteller_operandAt_10 : decode b_Foreteller_operandAt 10 = .ok (.ifCond .lt 13, 3) := by decide +kernel
theorem d_Foreteller_operandAt_13 : decode b_Foreteller_operandAt 13 = .ok (.iload_n 2, 1) := by decide +kernel
theorem d_Foreteller_operandAt_14 : decode b_Foreteller_operandAt 14 = .ok (.aload_n 0, 1) := by decide +kernel
theorem d_Foreteller_operandAt_15 : decode b_Foreteller_operandAt 15 = .ok (.getfield 15, 3) := by decide +kernel
theorem d_Foreteller_operandAt_18 : decode b_Foreteller_operandAt 18 = .ok (.iload_n 1, 1) := by decide +kernel
theorem d_Foreteller_operandAt_19 : decode b_Foreteller_operandAt 19 = .ok (.iaload, 1) := by decide +kernel
theorem d_Foreteller_operandAt_20 : decode b_Foreteller_operandAt 20 = .ok (.if_icmp .lt 6, 3) := by decide +kernel
theorem d_Foreteller_operandAt_26 : decode b_Foreteller_operandAt 26 = .ok (.aload_n 0, 1) := by decide +kernel
theorem d_Foreteller_operandAt_27 : decode b_Foreteller_operandAt 27 = .ok (.getfield 31, 3) := by decide +kernel
theorem d_Foreteller_operandAt_30 : decode b_Foreteller_operandAt 30 = .ok (.iload_n 1, 1) := by decide +kernel
theorem d_Foreteller_operandAt_31 : decode b_Foreteller_operandAt 31 = .ok (.bipush 10, 2) := by decide +kernel
theorem d_Foreteller_operandAt_33 : decode b_Foreteller_operandAt 33 = .ok (.imul, 1) := by decide +kernel
theorem d_Foreteller_operandAt_34 : decode b_Foreteller_operandAt 34 = .ok (.aload_n 0, 1) := by decide +kernel
theorem d_Foreteller_operandAt_35 : decode b_Foreteller_operandAt 35 = .ok (.getfield 15, 3) := by decide +kernel
theorem d_Foreteller_operandAt_38 : decode b_Foreteller_operandAt 38 = .ok (.iload_n 1, 1) := by decide +kernel
theorem d_Foreteller_operandAt_39 : decode b_Foreteller_operandAt 39 = .ok (.iaload, 1) := by decide +kernel
theorem d_Foreteller_operandAt_40 : decode b_Foreteller_operandAt 40 = .ok (.iadd, 1) := by decide +kernel
theorem d_Foreteller_operandAt_41 : decode b_Foreteller_operandAt 41 = .ok (.iconst 1, 1) := by decide +kernel
theorem d_Foreteller_operandAt_42 : decode b_Foreteller_operandAt 42 = .ok (.isub, 1) := by decide +kernel
theorem d_Foreteller_operandAt_43 : decode b_Foreteller_operandAt 43 = .ok (.iload_n 2, 1) := by decide +kernel
theorem d_Foreteller_operandAt_44 : decode b_Foreteller_operandAt 44 = .ok (.isub, 1) := by decide +kernel
theorem d_Foreteller_operandAt_45 : decode b_Foreteller_operandAt 45 = .ok (.iaload, 1) := by decide +kernel
theorem d_Foreteller_operandAt_46 : decode b_Foreteller_operandAt 46 = .ok (.ireturn, 1) := by decide +kernel
theorem d_Foreteller_canMiss_0 : decode b_Foreteller_canMiss 0 = .ok (.iload_n 0, 1) := by decide +kernel
theorem d_Foreteller_canMiss_1 : decode b_Foreteller_canMiss 1 = .ok (.invokestatic 100, 3) := by decide +kernel
theorem d_Foreteller_canMiss_4 : decode b_Foreteller_canMiss 4 = .ok (.iload_n 1, 1) := by decide +kernel
theorem d_Foreteller_canMiss_5 : decode b_Foreteller_canMiss 5 = .ok (.iadd, 1) := by decide +kernel
theorem d_Foreteller_canMiss_6 : decode b_Foreteller_canMiss 6 = .ok (.bipush 16, 2) := by decide +kernel
theorem d_Foreteller_canMiss_8 : decode b_Foreteller_canMiss 8 = .ok (.if_icmp .lt 7, 3) := by decide +kernel
theorem d_Foreteller_canMiss_15 : decode b_Foreteller_canMiss 15 = .ok (.iconst 0, 1) := by decide +kernel
theorem d_Foreteller_canMiss_16 : decode b_Foreteller_canMiss 16 = .ok (.ireturn, 1) := by decide +kernel
theorem d_Foreteller_canMiss_11 : decode b_Foreteller_canMiss 11 = .ok (.iconst 1, 1) := by decide +kernel
theorem d_Foreteller_canMiss_12 : decode b_Foreteller_canMiss 12 = .ok (.goto 4, 3) := by decide +kernel
theorem d_Foreteller_flagsAt_0 : decode b_Foreteller_flagsAt 0 = .ok (.aload_n 0, 1) := by decide +kernel
theorem d_Foreteller_flagsAt_1 : decode b_Foreteller_flagsAt 1 = .ok (.getfield 9, 3) := by decide +kernel
theorem d_Foreteller_flagsAt_4 : decode b_Foreteller_flagsAt 4 = .ok (.iload_n 1, 1) := by decide +kernel
theorem d_Foreteller_flagsAt_5 : decode b_Foreteller_flagsAt 5 = .ok (.baload, 1) := by decide +kernel
theorem d_Foreteller_flagsAt_6 : decode b_Foreteller_flagsAt 6 = .ok (.ifCond .ne 5, 3) := by decide +kernel
theorem d_Foreteller_flagsAt_11 : decode b_Foreteller_flagsAt 11 = .ok (.aload_n 0, 1) := by decide +kernel
theorem d_Foreteller_flagsAt_12 : decode b_Foreteller_flagsAt 12 = .ok (.getfield 46, 3) := by decide +kernel
theorem d_Foreteller_flagsAt_15 : decode b_Foreteller_flagsAt 15 = .ok (.getfield 79, 3) := by decide +kernel
theorem d_Foreteller_flagsAt_18 : decode b_Foreteller_flagsAt 18 = .ok (.iload_n 1, 1) := by decide +kernel
theorem d_Foreteller_flagsAt_19 : decode b_Foreteller_flagsAt 19 = .ok (.iaload, 1) := by decide +kernel
theorem d_Foreteller_flagsAt_20 : decode b_Foreteller_flagsAt 20 = .ok (.lookupswitch 153 #[(0, 60), (15, 62), (16, 89), (24, 116), (25, 116), (28, 134)], 60) := by decide +kernel
theorem d_Foreteller_flagsAt_80 : decode b_Foreteller_flagsAt 80 = .ok (.iconst 1, 1) := by decide +kernel
theorem d_Foreteller_flagsAt_81 : decode b_Foreteller_flagsAt 81 = .ok (.ireturn, 1) := by decide +kernel
theorem d_Foreteller_flagsAt_82 : decode b_Foreteller_flagsAt 82 = .ok (.aload_n 0, 1) := by decide +kernel
theorem d_Foreteller_flagsAt_83 : decode b_Foreteller_flagsAt 83 = .ok (.iload_n 1, 1) := by decide +kernel
theorem d_Foreteller_flagsAt_84 : decode b_Foreteller_flagsAt 84 = .ok (.iconst 0, 1) := by decide +kernel
theorem d_Foreteller_flagsAt_85 : decode b_Foreteller_flagsAt 85 = .ok (.invokevirtual 82, 3) := by decide +kernel
theorem d_Foreteller_flagsAt_88 : decode b_Foreteller_flagsAt 88 = .ok (.aload_n 0, 1) := by decide +kernel
theorem d_Foreteller_flagsAt_89 : decode b_Foreteller_flagsAt 89 = .ok (.getfield 46, 3) := by decide +kernel
theorem d_Foreteller_flagsAt_92 : decode b_Foreteller_flagsAt 92 = .ok (.getfield 86, 3) := by decide +kernel
theorem d_Foreteller_flagsAt_95 : decode b_Foreteller_flagsAt 95 = .ok (.iload_n 1, 1) := by decide +kernel
theorem d_Foreteller_flagsAt_96 : decode b_Foreteller_flagsAt 96 = .ok (.iaload, 1) := by decide +kernel
theorem d_Foreteller_flagsAt_97 : decode b_Foreteller_flagsAt 97 = .ok (.invokestatic 89, 3) := by decide +kernel
theorem d_Foreteller_flagsAt_100 : decode b_Foreteller_flagsAt 100 = .ok (.ifCond .eq 7, 3) := by decide +kernel
theorem d_Foreteller_flagsAt_107 : decode b_Foreteller_flagsAt 107 = .ok (.iconst 0, 1) := by decide +kernel
theorem d_Foreteller_flagsAt_108 : decode b_Foreteller_flagsAt 108 = .ok (.ireturn, 1) := by decide +kernel
theorem d_Foreteller_flagsAt_103 : decode b_Foreteller_flagsAt 103 = .ok (.iconst 2, 1) := by decide +kernel
theorem d_Foreteller_flagsAt_104 : decode b_Foreteller_flagsAt 104 = .ok (.goto 4, 3) := by decide +kernel
theorem d_Foreteller_flagsAt_109 : decode b_Foreteller_flagsAt 109 = .ok (.aload_n 0, 1) := by decide +kernel
theorem d_Foreteller_flagsAt_110 : decode b_Foreteller_flagsAt 110 = .ok (.iload_n 1, 1) := by decide +kernel
theorem d_Foreteller_flagsAt_111 : decode b_Foreteller_flagsAt 111 = .ok (.iconst 1, 1) := by decide +kernel
theorem d_Foreteller_flagsAt_112 : decode b_Foreteller_flagsAt 112 = .ok (.invokevirtual 82, 3) := by decide +kernel
theorem d_Foreteller_flagsAt_115 : decode b_Foreteller_flagsAt 115 = .ok (.aload_n 0, 1) := by decide +kernel
theorem d_Foreteller_flagsAt_116 : decode b_Foreteller_flagsAt 116 = .ok (.getfield 46, 3) := by decide +kernel
theorem d_Foreteller_flagsAt_119 : decode b_Foreteller_flagsAt 119 = .ok (.getfield 86, 3) := by decide +kernel
theorem d_Foreteller_flagsAt_122 : decode b_Foreteller_flagsAt 122 = .ok (.iload_n 1, 1) := by decide +kernel
theorem d_Foreteller_flagsAt_123 : decode b_Foreteller_flagsAt 123 = .ok (.iaload, 1) := by decide +kernel
theorem d_Foreteller_flagsAt_124 : decode b_Foreteller_flagsAt 124 = .ok (.invokestatic 89, 3) := by decide +kernel
theorem d_Foreteller_flagsAt_127 : decode b_Foreteller_flagsAt 127 = .ok (.ifCond .eq 7, 3) := by decide +kernel
theorem d_Foreteller_flagsAt_134 : decode b_Foreteller_flagsAt 134 = .ok (.iconst 0, 1) := by decide +kernel
theorem d_Foreteller_flagsAt_135 : decode b_Foreteller_flagsAt 135 = .ok (.ireturn, 1) := by decide +kernel
theorem d_Foreteller_flagsAt_130 : decode b_Foreteller_flagsAt 130 = .ok (.iconst 2, 1) := by decide +kernel
theorem d_Foreteller_flagsAt_131 : decode b_Foreteller_flagsAt 131 = .ok (.goto 4, 3) := by decide +kernel
theorem d_Foreteller_flagsAt_136 : decode b_Foreteller_flagsAt 136 = .ok (.aload_n 0, 1) := by decide +kernel
theorem d_Foreteller_flagsAt_137 : decode b_Foreteller_flagsAt 137 = .ok (.iload_n 1, 1) := by decide +kernel
theorem d_Foreteller_flagsAt_138 : decode b_Foreteller_flagsAt 138 = .ok (.iconst 0, 1) := by decide +kernel
theorem d_Foreteller_flagsAt_139 : decode b_Foreteller_flagsAt 139 = .ok (.invokevirtual 82, 3) := by decide +kernel
theorem d_Foreteller_flagsAt_142 : decode b_Foreteller_flagsAt 142 = .ok (.invokestatic 93, 3) := by decide +kernel
theorem d_Foreteller_flagsAt_145 : decode b_Foreteller_flagsAt 145 = .ok (.ifCond .eq 7, 3) := by decide +kernel
theorem d_Foreteller_flagsAt_152 : decode b_Foreteller_flagsAt 152 = .ok (.iconst 0, 1) := by decide +kernel
theorem d_Foreteller_flagsAt_153 : decode b_Foreteller_flagsAt 153 = .ok (.ireturn, 1) := by decide +kernel
theorem d_Foreteller_flagsAt_148 : decode b_Foreteller_flagsAt 148 = .ok (.iconst 4, 1) := by decide +kernel
theorem d_Foreteller_flagsAt_149 : decode b_Foreteller_flagsAt 149 = .ok (.goto 4, 3) := by decide +kernel
theorem d_Foreteller_flagsAt_154 : decode b_Foreteller_flagsAt 154 = .ok (.aload_n 0, 1) := by decide +kernel
theorem d_Foreteller_flagsAt_155 : decode b_Foreteller_flagsAt 155 = .ok (.iload_n 1, 1) := by decide +kernel
theorem d_Foreteller_flagsAt_156 : decode b_Foreteller_flagsAt 156 = .ok (.iconst 0, 1) := by decide +kernel
theorem d_Foreteller_flagsAt_157 : decode b_Foreteller_flagsAt 157 = .ok (.invokevirtual 82, 3) := by decide +kernel
theorem d_Foreteller_flagsAt_160 : decode b_Foreteller_flagsAt 160 = .ok (.invokestatic 97, 3) := by decide +kernel
theorem d_Foreteller_flagsAt_163 : decode b_Foreteller_flagsAt 163 = .ok (.ifCond .eq 8, 3) := by decide +kernel
theorem d_Foreteller_flagsAt_171 : decode b_Foreteller_flagsAt 171 = .ok (.iconst 0, 1) := by decide +kernel
theorem d_Foreteller_flagsAt_172 : decode b_Foreteller_flagsAt 172 = .ok (.ireturn, 1) := by decide +kernel
theorem d_Foreteller_flagsAt_166 : decode b_Foreteller_flagsAt 166 = .ok (.bipush 8, 2) := by decide +kernel
theorem d_Foreteller_flagsAt_168 : decode b_Foreteller_flagsAt 168 = .ok (.goto 4, 3) := by decide +kernel
theorem d_Foreteller_flagsAt_173 : decode b_Foreteller_flagsAt 173 = .ok (.iconst 0, 1) := by decide +kernel
theorem d_Foreteller_flagsAt_174 : decode b_Foreteller_flagsAt 174 = .ok (.ireturn, 1) := by decide +kernel
theorem d_Foreteller_flagsAt_9 : decode b_Foreteller_flagsAt 9 = .ok (.iconst 0, 1) := by decide +kernel
theorem d_Foreteller_flagsAt_10 : decode b_Foreteller_flagsAt 10 = .ok (.ireturn, 1) := by decide +kernel
theorem d_RangeTeller_instruction_0 : decode b_RangeTeller_instruction 0 = .ok (.aload_n 0, 1) := by decide +kernel
theorem d_RangeTeller_instruction_1 : decode b_RangeTeller_instruction 1 = .ok (.iload_n 1, 1) := by decide +kernel
theorem d_RangeTeller_instruction_2 : decode b_RangeTeller_instruction 2 = .ok (.invokevirtual 116, 3) := by decide +kernel
theorem d_RangeTeller_instruction_5 : decode b_RangeTeller_instruction 5 = .ok (.ifCond .ne 6, 3) := by decide +kernel
theorem d_RangeTeller_instruction_11 : decode b_RangeTeller_instruction 11 = .ok (.iload_n 2, 1) := by decide +kernel
theorem d_RangeTeller_instruction_12 : decode b_RangeTeller_instruction 12 = .ok (.tableswitch 145 0 5 #[40, 50, 60, 78, 87, 118], 40) := by decide +kernel
theorem d_RangeTeller_instruction_52 : decode b_RangeTeller_instruction 52 = .ok (.aload_n 0, 1) := by decide +kernel
theorem d_RangeTeller_instruction_53 : decode b_RangeTeller_instruction 53 = .ok (.getfield 10, 3) := by decide +kernel
theorem d_RangeTeller_instruction_56 : decode b_RangeTeller_instruction 56 = .ok (.getfield 119, 3) := by decide +kernel
theorem d_RangeTeller_instruction_59 : decode b_RangeTeller_instruction 59 = .ok (.iload_n 1, 1) := by decide +kernel
theorem d_RangeTeller_instruction_60 : decode b_RangeTeller_instruction 60 = .ok (.iaload, 1) := by decide +kernel
theorem d_RangeTeller_instruction_61 : decode b_RangeTeller_instruction 61 = .ok (.ireturn, 1) := by decide +kernel
theorem d_RangeTeller_instruction_62 : decode b_RangeTeller_instruction 62 = .ok (.aload_n 0, 1) := by decide +kernel
theorem d_RangeTeller_instruction_63 : decode b_RangeTeller_instruction 63 = .ok (.getfield 10, 3) := by decide +kernel
theorem d_RangeTeller_instruction_66 : decode b_RangeTeller_instruction 66 = .ok (.getfield 122, 3) := by decide +kernel
theorem d_RangeTeller_instruction_69 : decode b_RangeTeller_instruction 69 = .ok (.iload_n 1, 1) := by decide +kernel
theorem d_RangeTeller_instruction_70 : decode b_RangeTeller_instruction 70 = .ok (.iaload, 1) := by decide +kernel
theorem d_RangeTeller_instruction_71 : decode b_RangeTeller_instruction 71 = .ok (.ireturn, 1) := by decide +kernel
theorem d_RangeTeller_instruction_72 : decode b_RangeTeller_instruction 72 = .ok (.aload_n 0, 1) := by decide +kernel
theorem d_RangeTeller_instruction_73 : decode b_RangeTeller_instruction 73 = .ok (.getfield 42, 3) := by decide +kernel
theorem d_RangeTeller_instruction_76 : decode b_RangeTeller_instruction 76 = .ok (.getfield 125, 3) := by decide +kernel
theorem d_RangeTeller_instruction_79 : decode b_RangeTeller_instruction 79 = .ok (.iload_n 1, 1) := by decide +kernel
theorem d_RangeTeller_instruction_80 : decode b_RangeTeller_instruction 80 = .ok (.baload, 1) := by decide +kernel
theorem d_RangeTeller_instruction_81 : decode b_RangeTeller_instruction 81 = .ok (.ifCond .eq 7, 3) := by decide +kernel
theorem d_RangeTeller_instruction_88 : decode b_RangeTeller_instruction 88 = .ok (.iconst 0, 1) := by decide +kernel
theorem d_RangeTeller_instruction_89 : decode b_RangeTeller_instruction 89 = .ok (.ireturn, 1) := by decide +kernel
theorem d_RangeTeller_instruction_84 : decode b_RangeTeller_instruction 84 = .ok (.iconst 1, 1) := by decide +kernel
theorem d_RangeTeller_instruction_85 : decode b_RangeTeller_instruction 85 = .ok (.goto 4, 3) := by decide +kernel
theorem d_RangeTeller_instruction_90 : decode b_RangeTeller_instruction 90 = .ok (.aload_n 0, 1) := by decide +kernel
theorem d_RangeTeller_instruction_91 : decode b_RangeTeller_instruction 91 = .ok (.getfield 42, 3) := by decide +kernel
theorem d_RangeTeller_instruction_94 : decode b_RangeTeller_instruction 94 = .ok (.iload_n 1, 1) := by decide +kernel
theorem d_RangeTeller_instruction_95 : decode b_RangeTeller_instruction 95 = .ok (.invokevirtual 129, 3) := by decide +kernel
theorem d_RangeTeller_instruction_98 : decode b_RangeTeller_instruction 98 = .ok (.ireturn, 1) := by decide +kernel
theorem d_RangeTeller_instruction_99 : decode b_RangeTeller_instruction 99 = .ok (.aload_n 0, 1) := by decide +kernel
theorem d_RangeTeller_instruction_100 : decode b_RangeTeller_instruction 100 = .ok (.getfield 10, 3) := by decide +kernel
theorem d_RangeTeller_instruction_103 : decode b_RangeTeller_instruction 103 = .ok (.getfield 132, 3) := by decide +kernel
theorem d_RangeTeller_instruction_106 : decode b_RangeTeller_instruction 106 = .ok (.iload_n 1, 1) := by decide +kernel
theorem d_RangeTeller_instruction_107 : decode b_RangeTeller_instruction 107 = .ok (.iaload, 1) := by decide +kernel
theorem d_RangeTeller_instruction_108 : decode b_RangeTeller_instruction 108 = .ok (.bipush (-3), 2) := by decide +kernel
theorem d_RangeTeller_instruction_110 : decode b_RangeTeller_instruction 110 = .ok (.if_icmp .ne 8, 3) := by decide +kernel
theorem d_RangeTeller_instruction_118 : decode b_RangeTeller_instruction 118 = .ok (.aload_n 0, 1) := by decide +kernel
theorem d_RangeTeller_instruction_119 : decode b_RangeTeller_instruction 119 = .ok (.getfield 10, 3) := by decide +kernel
theorem d_RangeTeller_instruction_122 : decode b_RangeTeller_instruction 122 = .ok (.getfield 132, 3) := by decide +kernel
theorem d_RangeTeller_instruction_125 : decode b_RangeTeller_instruction 125 = .ok (.iload_n 1, 1) := by decide +kernel
theorem d_RangeTeller_instruction_126 : decode b_RangeTeller_instruction 126 = .ok (.iaload, 1) := by decide +kernel
theorem d_RangeTeller_instruction_127 : decode b_RangeTeller_instruction 127 = .ok (.iconst 1, 1) := by decide +kernel
theorem d_RangeTeller_instruction_128 : decode b_RangeTeller_instruction 128 = .ok (.iadd, 1) := by decide +kernel
theorem d_RangeTeller_instruction_129 : decode b_RangeTeller_instruction 129 = .ok (.ireturn, 1) := by decide +kernel
theorem d_RangeTeller_instruction_113 : decode b_RangeTeller_instruction 113 = .ok (.bipush (-3), 2) := by decide +kernel
theorem d_RangeTeller_instruction_115 : decode b_RangeTeller_instruction 115 = .ok (.goto 14, 3) := by decide +kernel
theorem d_RangeTeller_instruction_130 : decode b_RangeTeller_instruction 130 = .ok (.aload_n 0, 1) := by decide +kernel
theorem d_RangeTeller_instruction_131 : decode b_RangeTeller_instruction 131 = .ok (.getfield 42, 3) := by decide +kernel
theorem d_RangeTeller_instruction_134 : decode b_RangeTeller_instruction 134 = .ok (.getfield 125, 3) := by decide +kernel
theorem d_RangeTeller_instruction_137 : decode b_RangeTeller_instruction 137 = .ok (.iload_n 1, 1) := by decide +kernel
theorem d_RangeTeller_instruction_138 : decode b_RangeTeller_instruction 138 = .ok (.baload, 1) := by decide +kernel
theorem d_RangeTeller_instruction_139 : decode b_RangeTeller_instruction 139 = .ok (.ifCond .eq 15, 3) := by decide +kernel
theorem d_RangeTeller_instruction_154 : decode b_RangeTeller_instruction 154 = .ok (.bipush (-3), 2) := by decide +kernel
theorem d_RangeTeller_instruction_156 : decode b_RangeTeller_instruction 156 = .ok (.ireturn, 1) := by decide +kernel
theorem d_RangeTeller_instruction_142 : decode b_RangeTeller_instruction 142 = .ok (.aload_n 0, 1) := by decide +kernel
theorem d_RangeTeller_instruction_143 : decode b_RangeTeller_instruction 143 = .ok (.getfield 42, 3) := by decide +kernel
theorem d_RangeTeller_instruction_146 : decode b_RangeTeller_instruction 146 = .ok (.getfield 135, 3) := by decide +kernel
theorem d_RangeTeller_instruction_149 : decode b_RangeTeller_instruction 149 = .ok (.iload_n 1, 1) := by decide +kernel
theorem d_RangeTeller_instruction_150 : decode b_RangeTeller_instruction 150 = .ok (.iaload, 1) := by decide +kernel
theorem d_RangeTeller_instruction_151 : decode b_RangeTeller_instruction 151 = .ok (.goto 5, 3) := by decide +kernel
theorem d_RangeTeller_instruction_157 : decode b_RangeTeller_instruction 157 = .ok (.bipush (-3), 2) := by decide +kernel
theorem d_RangeTeller_instruction_159 : decode b_RangeTeller_instruction 159 = .ok (.ireturn, 1) := by decide +kernel
theorem d_RangeTeller_instruction_8 : decode b_RangeTeller_instruction 8 = .ok (.bipush (-3), 2) := by decide +kernel
theorem d_RangeTeller_instruction_10 : decode b_RangeTeller_instruction 10 = .ok (.ireturn, 1) := by decide +kernel
theorem d_RangeTeller_operand_0 : decode b_RangeTeller_operand 0 = .ok (.aload_n 0, 1) := by decide +kernel
theorem d_RangeTeller_operand_1 : decode b_RangeTeller_operand 1 = .ok (.iload_n 1, 1) := by decide +kernel
theorem d_RangeTeller_operand_2 : decode b_RangeTeller_operand 2 = .ok (.invokevirtual 116, 3) := by decide +kernel
theorem d_RangeTeller_operand_5 : decode b_RangeTeller_operand 5 = .ok (.ifCond .eq 15, 3) := by decide +kernel
theorem d_RangeTeller_operand_20 : decode b_RangeTeller_operand 20 = .ok (.bipush (-3), 2) := by decide +kernel
theorem d_RangeTeller_operand_22 : decode b_RangeTeller_operand 22 = .ok (.ireturn, 1) := by decide +kernel
theorem d_RangeTeller_operand_8 : decode b_RangeTeller_operand 8 = .ok (.aload_n 0, 1) := by decide +kernel
theorem d_RangeTeller_operand_9 : decode b_RangeTeller_operand 9 = .ok (.getfield 42, 3) := by decide +kernel
theorem d_RangeTeller_operand_12 : decode b_RangeTeller_operand 12 = .ok (.iload_n 1, 1) := by decide +kernel
theorem d_RangeTeller_operand_13 : decode b_RangeTeller_operand 13 = .ok (.iload_n 2, 1) := by decide +kernel
theorem d_RangeTeller_operand_14 : decode b_RangeTeller_operand 14 = .ok (.invokevirtual 138, 3) := by decide +kernel
theorem d_RangeTeller_operand_17 : decode b_RangeTeller_operand 17 = .ok (.goto 5, 3) := by decide +kernel
theorem d_Foreteller_localAt_0 : decode b_Foreteller_localAt 0 = .ok (.aload_n 0, 1) := by decide +kernel
theorem d_Foreteller_localAt_1 : decode b_Foreteller_localAt 1 = .ok (.getfield 9, 3) := by decide +kernel
theorem d_Foreteller_localAt_4 : decode b_Foreteller_localAt 4 = .ok (.iload_n 1, 1) := by decide +kernel
theorem d_Foreteller_localAt_5 : decode b_Foreteller_localAt 5 = .ok (.baload, 1) := by decide +kernel
theorem d_Foreteller_localAt_6 : decode b_Foreteller_localAt 6 = .ok (.ifCond .eq 27, 3) := by decide +kernel
theorem d_Foreteller_localAt_33 : decode b_Foreteller_localAt 33 = .ok (.bipush (-3), 2) := by decide +kernel
theorem d_Foreteller_localAt_35 : decode b_Foreteller_localAt 35 = .ok (.ireturn, 1) := by decide +kernel
theorem d_Foreteller_localAt_9 : decode b_Foreteller_localAt 9 = .ok (.iload_n 2, 1) := by decide +kernel
theorem d_Foreteller_localAt_10 : decode b_Foreteller_localAt 10 = .ok (.ifCond .lt 23, 3) := by decide +kernel
theorem d_Foreteller_localAt_13 : decode b_Foreteller_localAt 13 = .ok (.iload_n 2, 1) := by decide +kernel
theorem d_Foreteller_localAt_14 : decode b_Foreteller_localAt 14 = .ok (.aload_n 0, 1) := by decide +kernel
theorem d_Foreteller_localAt_15 : decode b_Foreteller_localAt 15 = .ok (.getfield 46, 3) := by decide +kernel
theorem d_Foreteller_localAt_18 : decode b_Foreteller_localAt 18 = .ok (.aload_n 0, 1) := by decide +kernel
theorem d_Foreteller_localAt_19 : decode b_Foreteller_localAt 19 = .ok (.getfield 46, 3) := by decide +kernel
theorem d_Foreteller_localAt_22 : decode b_Foreteller_localAt 22 = .ok (.getfield 72, 3) := by decide +kernel
theorem d_Foreteller_localAt_25 : decode b_Foreteller_localAt 25 = .ok (.iload_n 1, 1) := by decide +kernel
theorem d_Foreteller_localAt_26 : decode b_Foreteller_localAt 26 = .ok (.iaload, 1) := by decide +kernel
theorem d_Foreteller_localAt_27 : decode b_Foreteller_localAt 27 = .ok (.invokevirtual 75, 3) := by decide +kernel
theorem d_Foreteller_localAt_30 : decode b_Foreteller_localAt 30 = .ok (.if_icmp .lt 6, 3) := by decide +kernel
theorem d_Foreteller_localAt_36 : decode b_Foreteller_localAt 36 = .ok (.aload_n 0, 1) := by decide +kernel
theorem d_Foreteller_localAt_37 : decode b_Foreteller_localAt 37 = .ok (.getfield 34, 3) := by decide +kernel
theorem d_Foreteller_localAt_40 : decode b_Foreteller_localAt 40 = .ok (.iload_n 1, 1) := by decide +kernel
theorem d_Foreteller_localAt_41 : decode b_Foreteller_localAt 41 = .ok (.iconst 4, 1) := by decide +kernel
theorem d_Foreteller_localAt_42 : decode b_Foreteller_localAt 42 = .ok (.imul, 1) := by decide +kernel
theorem d_Foreteller_localAt_43 : decode b_Foreteller_localAt 43 = .ok (.iload_n 2, 1) := by decide +kernel
theorem d_Foreteller_localAt_44 : decode b_Foreteller_localAt 44 = .ok (.iadd, 1) := by decide +kernel
theorem d_Foreteller_localAt_45 : decode b_Foreteller_localAt 45 = .ok (.iaload, 1) := by decide +kernel
theorem d_Foreteller_localAt_46 : decode b_Foreteller_localAt 46 = .ok (.ireturn, 1) := by decide +kernel
theorem d_RangeTeller_local_0 : decode b_RangeTeller_local 0 = .ok (.aload_n 0, 1) := by decide +kernel
theorem d_RangeTeller_local_1 : decode b_RangeTeller_local 1 = .ok (.iload_n 1, 1) := by decide +kernel
theorem d_RangeTeller_local_2 : decode b_RangeTeller_local 2 = .ok (.invokevirtual 116, 3) := by decide +kernel
theorem d_RangeTeller_local_5 : decode b_RangeTeller_local 5 = .ok (.ifCond .eq 15, 3) := by decide +kernel
theorem d_RangeTeller_local_20 : decode b_RangeTeller_local 20 = .ok (.bipush (-3), 2) := by decide +kernel
theorem d_RangeTeller_local_22 : decode b_RangeTeller_local 22 = .ok (.ireturn, 1) := by decide +kernel
theorem d_RangeTeller_local_8 : decode b_RangeTeller_local 8 = .ok (.aload_n 0, 1) := by decide +kernel
theorem d_RangeTeller_local_9 : decode b_RangeTeller_local 9 = .ok (.getfield 42, 3) := by decide +kernel
theorem d_RangeTeller_local_12 : decode b_RangeTeller_local 12 = .ok (.iload_n 1, 1) := by decide +kernel
theorem d_RangeTeller_local_13 : decode b_RangeTeller_local 13 = .ok (.iload_n 2, 1) := by decide +kernel
theorem d_RangeTeller_local_14 : decode b_RangeTeller_local 14 = .ok (.invokevirtual 141, 3) := by decide +kernel
theorem d_RangeTeller_local_17 : decode b_RangeTeller_local 17 = .ok (.goto 5, 3) := by decide +kernel
theorem d_RangeTeller_cell_0 : decode b_RangeTeller_cell 0 = .ok (.aload_n 0, 1) := by decide +kernel
theorem d_RangeTeller_cell_1 : decode b_RangeTeller_cell 1 = .ok (.getfield 46, 3) := by decide +kernel
theorem d_RangeTeller_cell_4 : decode b_RangeTeller_cell 4 = .ok (.ifCond .eq 13, 3) := by decide +kernel
theorem d_RangeTeller_cell_17 : decode b_RangeTeller_cell 17 = .ok (.bipush (-3), 2) := by decide +kernel
theorem d_RangeTeller_cell_19 : decode b_RangeTeller_cell 19 = .ok (.ireturn, 1) := by decide +kernel
theorem d_RangeTeller_cell_7 : decode b_RangeTeller_cell 7 = .ok (.iload_n 1, 1) := by decide +kernel
theorem d_RangeTeller_cell_8 : decode b_RangeTeller_cell 8 = .ok (.ifCond .lt 9, 3) := by decide +kernel
theorem d_RangeTeller_cell_11 : decode b_RangeTeller_cell 11 = .ok (.iload_n 1, 1) := by decide +kernel
theorem d_RangeTeller_cell_12 : decode b_RangeTeller_cell 12 = .ok (.bipush 16, 2) := by decide +kernel
theorem d_RangeTeller_cell_14 : decode b_RangeTeller_cell 14 = .ok (.if_icmp .lt 6, 3) := by decide +kernel
theorem d_RangeTeller_cell_20 : decode b_RangeTeller_cell 20 = .ok (.aload_n 0, 1) := by decide +kernel
theorem d_RangeTeller_cell_21 : decode b_RangeTeller_cell 21 = .ok (.getfield 42, 3) := by decide +kernel
theorem d_RangeTeller_cell_24 : decode b_RangeTeller_cell 24 = .ok (.getfield 144, 3) := by decide +kernel
theorem d_RangeTeller_cell_27 : decode b_RangeTeller_cell 27 = .ok (.iload_n 1, 1) := by decide +kernel
theorem d_RangeTeller_cell_28 : decode b_RangeTeller_cell 28 = .ok (.iaload, 1) := by decide +kernel
theorem d_RangeTeller_cell_29 : decode b_RangeTeller_cell 29 = .ok (.ireturn, 1) := by decide +kernel
theorem d_RangeTeller_function_0 : decode b_RangeTeller_function 0 = .ok (.aload_n 0, 1) := by decide +kernel
theorem d_RangeTeller_function_1 : decode b_RangeTeller_function 1 = .ok (.getfield 46, 3) := by decide +kernel
theorem d_RangeTeller_function_4 : decode b_RangeTeller_function 4 = .ok (.ifCond .eq 18, 3) := by decide +kernel
theorem d_RangeTeller_function_22 : decode b_RangeTeller_function 22 = .ok (.bipush (-3), 2) := by decide +kernel
theorem d_RangeTeller_function_24 : decode b_RangeTeller_function 24 = .ok (.ireturn, 1) := by decide +kernel
theorem d_RangeTeller_function_7 : decode b_RangeTeller_function 7 = .ok (.iload_n 1, 1) := by decide +kernel
theorem d_RangeTeller_function_8 : decode b_RangeTeller_function 8 = .ok (.ifCond .lt 14, 3) := by decide +kernel
theorem d_RangeTeller_function_11 : decode b_RangeTeller_function 11 = .ok (.iload_n 1, 1) := by decide +kernel
theorem d_RangeTeller_function_12 : decode b_RangeTeller_function 12 = .ok (.aload_n 0, 1) := by decide +kernel
theorem d_RangeTeller_function_13 : decode b_RangeTeller_function 13 = .ok (.getfield 10, 3) := by decide +kernel
theorem d_RangeTeller_function_16 : decode b_RangeTeller_function 16 = .ok (.getfield 145, 3) := by decide +kernel
theorem d_RangeTeller_function_19 : decode b_RangeTeller_function 19 = .ok (.if_icmp .lt 6, 3) := by decide +kernel
theorem d_RangeTeller_function_25 : decode b_RangeTeller_function 25 = .ok (.iload_n 2, 1) := by decide +kernel
theorem d_RangeTeller_function_26 : decode b_RangeTeller_function 26 = .ok (.tableswitch 106 0 5 #[38, 48, 58, 68, 78, 88], 38) := by decide +kernel
theorem d_RangeTeller_function_64 : decode b_RangeTeller_function 64 = .ok (.aload_n 0, 1) := by decide +kernel
theorem d_RangeTeller_function_65 : decode b_RangeTeller_function 65 = .ok (.getfield 10, 3) := by decide +kernel
theorem d_RangeTeller_function_68 : decode b_RangeTeller_function 68 = .ok (.getfield 148, 3) := by decide +kernel
theorem d_RangeTeller_function_71 : decode b_RangeTeller_function 71 = .ok (.iload_n 1, 1) := by decide +kernel
theorem d_RangeTeller_function_72 : decode b_RangeTeller_function 72 = .ok (.iaload, 1) := by decide +kernel
theorem d_RangeTeller_function_73 : decode b_RangeTeller_function 73 = .ok (.ireturn, 1) := by decide +kernel
theorem d_RangeTeller_function_74 : decode b_RangeTeller_function 74 = .ok (.aload_n 0, 1) := by decide +kernel
theorem d_RangeTeller_function_75 : decode b_RangeTeller_function 75 = .ok (.getfield 10, 3) := by decide +kernel
theorem d_RangeTeller_function_78 : decode b_RangeTeller_function 78 = .ok (.getfield 151, 3) := by decide +kernel
theorem d_RangeTeller_function_81 : decode b_RangeTeller_function 81 = .ok (.iload_n 1, 1) := by decide +kernel
theorem d_RangeTeller_function_82 : decode b_RangeTeller_function 82 = .ok (.iaload, 1) := by decide +kernel
theorem d_RangeTeller_function_83 : decode b_RangeTeller_function 83 = .ok (.ireturn, 1) := by decide +kernel
theorem d_RangeTeller_function_84 : decode b_RangeTeller_function 84 = .ok (.aload_n 0, 1) := by decide +kernel
theorem d_RangeTeller_function_85 : decode b_RangeTeller_function 85 = .ok (.getfield 10, 3) := by decide +kernel
theorem d_RangeTeller_function_88 : decode b_RangeTeller_function 88 = .ok (.getfield 154, 3) := by decide +kernel
theorem d_RangeTeller_function_91 : decode b_RangeTeller_function 91 = .ok (.iload_n 1, 1) := by decide +kernel
theorem d_RangeTeller_function_92 : decode b_RangeTeller_function 92 = .ok (.iaload, 1) := by decide +kernel
theorem d_RangeTeller_function_93 : decode b_RangeTeller_function 93 = .ok (.ireturn, 1) := by decide +kernel
theorem d_RangeTeller_function_94 : decode b_RangeTeller_function 94 = .ok (.aload_n 0, 1) := by decide +kernel
theorem d_RangeTeller_function_95 : decode b_RangeTeller_function 95 = .ok (.getfield 10, 3) := by decide +kernel
theorem d_RangeTeller_function_98 : decode b_RangeTeller_function 98 = .ok (.getfield 157, 3) := by decide +kernel
theorem d_RangeTeller_function_101 : decode b_RangeTeller_function 101 = .ok (.iload_n 1, 1) := by decide +kernel
theorem d_RangeTeller_function_102 : decode b_RangeTeller_function 102 = .ok (.iaload, 1) := by decide +kernel
theorem d_RangeTeller_function_103 : decode b_RangeTeller_function 103 = .ok (.ireturn, 1) := by decide +kernel
theorem d_RangeTeller_function_104 : decode b_RangeTeller_function 104 = .ok (.aload_n 0, 1) := by decide +kernel
theorem d_RangeTeller_function_105 : decode b_RangeTeller_function 105 = .ok (.getfield 42, 3) := by decide +kernel
theorem d_RangeTeller_function_108 : decode b_RangeTeller_function 108 = .ok (.getfield 160, 3) := by decide +kernel
theorem d_RangeTeller_function_111 : decode b_RangeTeller_function 111 = .ok (.iload_n 1, 1) := by decide +kernel
theorem d_RangeTeller_function_112 : decode b_RangeTeller_function 112 = .ok (.iaload, 1) := by decide +kernel
theorem d_RangeTeller_function_113 : decode b_RangeTeller_function 113 = .ok (.ireturn, 1) := by decide +kernel
theorem d_RangeTeller_function_114 : decode b_RangeTeller_function 114 = .ok (.aload_n 0, 1) := by decide +kernel
theorem d_RangeTeller_function_115 : decode b_RangeTeller_function 115 = .ok (.getfield 42, 3) := by decide +kernel
theorem d_RangeTeller_function_118 : decode b_RangeTeller_function 118 = .ok (.getfield 161, 3) := by decide +kernel
theorem d_RangeTeller_function_121 : decode b_RangeTeller_function 121 = .ok (.iload_n 1, 1) := by decide +kernel
theorem d_RangeTeller_function_122 : decode b_RangeTeller_function 122 = .ok (.baload, 1) := by decide +kernel
theorem d_RangeTeller_function_123 : decode b_RangeTeller_function 123 = .ok (.ifCond .eq 7, 3) := by decide +kernel
theorem d_RangeTeller_function_130 : decode b_RangeTeller_function 130 = .ok (.iconst 0, 1) := by decide +kernel
theorem d_RangeTeller_function_131 : decode b_RangeTeller_function 131 = .ok (.ireturn, 1) := by decide +kernel
theorem d_RangeTeller_function_126 : decode b_RangeTeller_function 126 = .ok (.iconst 1, 1) := by decide +kernel
theorem d_RangeTeller_function_127 : decode b_RangeTeller_function 127 = .ok (.goto 4, 3) := by decide +kernel
theorem d_RangeTeller_function_132 : decode b_RangeTeller_function 132 = .ok (.bipush (-3), 2) := by decide +kernel
theorem d_RangeTeller_function_134 : decode b_RangeTeller_function 134 = .ok (.ireturn, 1) := by decide +kernel
theorem d_RangeTellerModel_feed_0 : decode b_RangeTellerModel_feed 0 = .ok (.iload_n 1, 1) := by decide +kernel
theorem d_RangeTellerModel_feed_1 : decode b_RangeTellerModel_feed 1 = .ok (.ifCond .lt 18, 3) := by decide +kernel
theorem d_RangeTellerModel_feed_19 : decode b_RangeTellerModel_feed 19 = .ok (.iconst 0, 1) := by decide +kernel
theorem d_RangeTellerModel_feed_20 : decode b_RangeTellerModel_feed 20 = .ok (.ireturn, 1) := by decide +kernel
theorem d_RangeTellerModel_feed_4 : decode b_RangeTellerModel_feed 4 = .ok (.iload_n 1, 1) := by decide +kernel
theorem d_RangeTellerModel_feed_5 : decode b_RangeTellerModel_feed 5 = .ok (.bipush 63, 2) := by decide +kernel
theorem d_RangeTellerModel_feed_7 : decode b_RangeTellerModel_feed 7 = .ok (.if_icmp .gt 12, 3) := by decide +kernel
theorem d_RangeTellerModel_feed_10 : decode b_RangeTellerModel_feed 10 = .ok (.aload_n 0, 1) := by decide +kernel
theorem d_RangeTellerModel_feed_11 : decode b_RangeTellerModel_feed 11 = .ok (.getfield 153, 3) := by decide +kernel
theorem d_RangeTellerModel_feed_14 : decode b_RangeTellerModel_feed 14 = .ok (.bipush 100, 2) := by decide +kernel
theorem d_RangeTellerModel_feed_16 : decode b_RangeTellerModel_feed 16 = .ok (.if_icmp .ne 5, 3) := by decide +kernel
theorem d_RangeTellerModel_feed_21 : decode b_RangeTellerModel_feed 21 = .ok (.aload_n 0, 1) := by decide +kernel
theorem d_RangeTellerModel_feed_22 : decode b_RangeTellerModel_feed 22 = .ok (.getfield 7, 3) := by decide +kernel
theorem d_RangeTellerModel_feed_25 : decode b_RangeTellerModel_feed 25 = .ok (.aload_n 0, 1) := by decide +kernel
theorem d_RangeTellerModel_feed_26 : decode b_RangeTellerModel_feed 26 = .ok (.getfield 153, 3) := by decide +kernel
theorem d_RangeTellerModel_feed_29 : decode b_RangeTellerModel_feed 29 = .ok (.iload_n 1, 1) := by decide +kernel
theorem d_RangeTellerModel_feed_30 : decode b_RangeTellerModel_feed 30 = .ok (.iastore, 1) := by decide +kernel
theorem d_RangeTellerModel_feed_31 : decode b_RangeTellerModel_feed 31 = .ok (.aload_n 0, 1) := by decide +kernel
theorem d_RangeTellerModel_feed_32 : decode b_RangeTellerModel_feed 32 = .ok (.dup, 1) := by decide +kernel
theorem d_RangeTellerModel_feed_33 : decode b_RangeTellerModel_feed 33 = .ok (.getfield 153, 3) := by decide +kernel
theorem d_RangeTellerModel_feed_36 : decode b_RangeTellerModel_feed 36 = .ok (.iconst 1, 1) := by decide +kernel
theorem d_RangeTellerModel_feed_37 : decode b_RangeTellerModel_feed 37 = .ok (.iadd, 1) := by decide +kernel
theorem d_RangeTellerModel_feed_38 : decode b_RangeTellerModel_feed 38 = .ok (.putfield 153, 3) := by decide +kernel
theorem d_RangeTellerModel_feed_41 : decode b_RangeTellerModel_feed 41 = .ok (.iconst 1, 1) := by decide +kernel
theorem d_RangeTellerModel_feed_42 : decode b_RangeTellerModel_feed 42 = .ok (.ireturn, 1) := by decide +kernel
theorem d_RangeTellerModel_take_0 : decode b_RangeTellerModel_take 0 = .ok (.aload_n 0, 1) := by decide +kernel
theorem d_RangeTellerModel_take_1 : decode b_RangeTellerModel_take 1 = .ok (.getfield 156, 3) := by decide +kernel
theorem d_RangeTellerModel_take_4 : decode b_RangeTellerModel_take 4 = .ok (.aload_n 0, 1) := by decide +kernel
theorem d_RangeTellerModel_take_5 : decode b_RangeTellerModel_take 5 = .ok (.getfield 153, 3) := by decide +kernel
theorem d_RangeTellerModel_take_8 : decode b_RangeTellerModel_take 8 = .ok (.if_icmp .lt 10, 3) := by decide +kernel
theorem d_RangeTellerModel_take_18 : decode b_RangeTellerModel_take 18 = .ok (.aload_n 0, 1) := by decide +kernel
theorem d_RangeTellerModel_take_19 : decode b_RangeTellerModel_take 19 = .ok (.dup, 1) := by decide +kernel
theorem d_RangeTellerModel_take_20 : decode b_RangeTellerModel_take 20 = .ok (.getfield 156, 3) := by decide +kernel
theorem d_RangeTellerModel_take_23 : decode b_RangeTellerModel_take 23 = .ok (.iconst 1, 1) := by decide +kernel
theorem d_RangeTellerModel_take_24 : decode b_RangeTellerModel_take 24 = .ok (.iadd, 1) := by decide +kernel
theorem d_RangeTellerModel_take_25 : decode b_RangeTellerModel_take 25 = .ok (.putfield 156, 3) := by decide +kernel
theorem d_RangeTellerModel_take_28 : decode b_RangeTellerModel_take 28 = .ok (.aload_n 0, 1) := by decide +kernel
theorem d_RangeTellerModel_take_29 : decode b_RangeTellerModel_take 29 = .ok (.getfield 7, 3) := by decide +kernel
theorem d_RangeTellerModel_take_32 : decode b_RangeTellerModel_take 32 = .ok (.aload_n 0, 1) := by decide +kernel
theorem d_RangeTellerModel_take_33 : decode b_RangeTellerModel_take 33 = .ok (.getfield 156, 3) := by decide +kernel
theorem d_RangeTellerModel_take_36 : decode b_RangeTellerModel_take 36 = .ok (.iconst 1, 1) := by decide +kernel
theorem d_RangeTellerModel_take_37 : decode b_RangeTellerModel_take 37 = .ok (.isub, 1) := by decide +kernel
theorem d_RangeTellerModel_take_38 : decode b_RangeTellerModel_take 38 = .ok (.iaload, 1) := by decide +kernel
theorem d_RangeTellerModel_take_39 : decode b_RangeTellerModel_take 39 = .ok (.ireturn, 1) := by decide +kernel
theorem d_RangeTellerModel_take_11 : decode b_RangeTellerModel_take 11 = .ok (.aload_n 0, 1) := by decide +kernel
theorem d_RangeTellerModel_take_12 : decode b_RangeTellerModel_take 12 = .ok (.iconst 1, 1) := by decide +kernel
theorem d_RangeTellerModel_take_13 : decode b_RangeTellerModel_take 13 = .ok (.putfield 159, 3) := by decide +kernel
theorem d_RangeTellerModel_take_16 : decode b_RangeTellerModel_take 16 = .ok (.iconst 0, 1) := by decide +kernel
theorem d_RangeTellerModel_take_17 : decode b_RangeTellerModel_take 17 = .ok (.ireturn, 1) := by decide +kernel
theorem d_RangeTellerModel_number_85 : decode b_RangeTellerModel_number 85 = .ok (.aload_n 0, 1) := by decide +kernel
theorem d_RangeTellerModel_number_86 : decode b_RangeTellerModel_number 86 = .ok (.iconst 1, 1) := by decide +kernel
theorem d_RangeTellerModel_number_87 : decode b_RangeTellerModel_number 87 = .ok (.putfield 159, 3) := by decide +kernel
theorem d_RangeTellerModel_number_90 : decode b_RangeTellerModel_number 90 = .ok (.aload_n 0, 1) := by decide +kernel
theorem d_RangeTellerModel_number_91 : decode b_RangeTellerModel_number 91 = .ok (.dup, 1) := by decide +kernel
theorem d_RangeTellerModel_number_92 : decode b_RangeTellerModel_number 92 = .ok (.getfield 156, 3) := by decide +kernel
theorem d_RangeTellerModel_number_95 : decode b_RangeTellerModel_number 95 = .ok (.iconst 1, 1) := by decide +kernel
theorem d_RangeTellerModel_number_96 : decode b_RangeTellerModel_number 96 = .ok (.isub, 1) := by decide +kernel
theorem d_RangeTellerModel_number_97 : decode b_RangeTellerModel_number 97 = .ok (.putfield 156, 3) := by decide +kernel
theorem d_RangeTellerModel_number_100 : decode b_RangeTellerModel_number 100 = .ok (.iload 4, 2) := by decide +kernel
theorem d_RangeTellerModel_number_102 : decode b_RangeTellerModel_number 102 = .ok (.ireturn, 1) := by decide +kernel
theorem d_RangeTellerModel_number_73 : decode b_RangeTellerModel_number 73 = .ok (.iload 4, 2) := by decide +kernel
theorem d_RangeTellerModel_number_75 : decode b_RangeTellerModel_number 75 = .ok (.iload_n 1, 1) := by decide +kernel
theorem d_RangeTellerModel_number_76 : decode b_RangeTellerModel_number 76 = .ok (.if_icmp .lt 9, 3) := by decide +kernel
theorem d_RangeTellerModel_number_79 : decode b_RangeTellerModel_number 79 = .ok (.iload 4, 2) := by decide +kernel
theorem d_RangeTellerModel_number_81 : decode b_RangeTellerModel_number 81 = .ok (.iload_n 2, 1) := by decide +kernel
theorem d_RangeTellerModel_number_82 : decode b_RangeTellerModel_number 82 = .ok (.if_icmp .le 18, 3) := by decide +kernel
theorem d_RangeTellerModel_number_0 : decode b_RangeTellerModel_number 0 = .ok (.aload_n 0, 1) := by decide +kernel
theorem d_RangeTellerModel_number_1 : decode b_RangeTellerModel_number 1 = .ok (.invokevirtual 163, 3) := by decide +kernel
theorem d_RangeTellerModel_number_4 : decode b_RangeTellerModel_number 4 = .ok (.istore_n 3, 1) := by decide +kernel
theorem d_RangeTellerModel_number_5 : decode b_RangeTellerModel_number 5 = .ok (.aload_n 0, 1) := by decide +kernel
theorem d_RangeTellerModel_number_6 : decode b_RangeTellerModel_number 6 = .ok (.getfield 159, 3) := by decide +kernel
theorem d_RangeTellerModel_number_9 : decode b_RangeTellerModel_number 9 = .ok (.ifCond .eq 5, 3) := by decide +kernel
theorem d_RangeTellerModel_number_14 : decode b_RangeTellerModel_number 14 = .ok (.iload_n 3, 1) := by decide +kernel
theorem d_RangeTellerModel_number_15 : decode b_RangeTellerModel_number 15 = .ok (.istore 4, 2) := by decide +kernel
theorem d_RangeTellerModel_number_17 : decode b_RangeTellerModel_number 17 = .ok (.iload_n 3, 1) := by decide +kernel
theorem d_RangeTellerModel_number_18 : decode b_RangeTellerModel_number 18 = .ok (.bipush 32, 2) := by decide +kernel
theorem d_RangeTellerModel_number_20 : decode b_RangeTellerModel_number 20 = .ok (.if_icmp .lt 53, 3) := by decide +kernel
theorem d_RangeTellerModel_number_23 : decode b_RangeTellerModel_number 23 = .ok (.aload_n 0, 1) := by decide +kernel
theorem d_RangeTellerModel_number_24 : decode b_RangeTellerModel_number 24 = .ok (.invokevirtual 163, 3) := by decide +kernel
theorem d_RangeTellerModel_number_27 : decode b_RangeTellerModel_number 27 = .ok (.istore 5, 2) := by decide +kernel
theorem d_RangeTellerModel_number_29 : decode b_RangeTellerModel_number 29 = .ok (.aload_n 0, 1) := by decide +kernel
theorem d_RangeTellerModel_number_30 : decode b_RangeTellerModel_number 30 = .ok (.getfield 159, 3) := by decide +kernel
theorem d_RangeTellerModel_number_33 : decode b_RangeTellerModel_number 33 = .ok (.ifCond .eq 5, 3) := by decide +kernel
theorem d_RangeTellerModel_number_38 : decode b_RangeTellerModel_number 38 = .ok (.iload 5, 2) := by decide +kernel
theorem d_RangeTellerModel_number_40 : decode b_RangeTellerModel_number 40 = .ok (.iconst 1, 1) := by decide +kernel
theorem d_RangeTellerModel_number_41 : decode b_RangeTellerModel_number 41 = .ok (.if_icmp .le 20, 3) := by decide +kernel
theorem d_RangeTellerModel_number_61 : decode b_RangeTellerModel_number 61 = .ok (.iload_n 3, 1) := by decide +kernel
theorem d_RangeTellerModel_number_62 : decode b_RangeTellerModel_number 62 = .ok (.bipush 32, 2) := by decide +kernel
theorem d_RangeTellerModel_number_64 : decode b_RangeTellerModel_number 64 = .ok (.isub, 1) := by decide +kernel
theorem d_RangeTellerModel_number_65 : decode b_RangeTellerModel_number 65 = .ok (.bipush 32, 2) := by decide +kernel
theorem d_RangeTellerModel_number_67 : decode b_RangeTellerModel_number 67 = .ok (.iload 5, 2) := by decide +kernel
theorem d_RangeTellerModel_number_69 : decode b_RangeTellerModel_number 69 = .ok (.imul, 1) := by decide +kernel
theorem d_RangeTellerModel_number_70 : decode b_RangeTellerModel_number 70 = .ok (.iadd, 1) := by decide +kernel
theorem d_RangeTellerModel_number_71 : decode b_RangeTellerModel_number 71 = .ok (.istore 4, 2) := by decide +kernel
theorem d_RangeTellerModel_number_44 : decode b_RangeTellerModel_number 44 = .ok (.aload_n 0, 1) := by decide +kernel
theorem d_RangeTellerModel_number_45 : decode b_RangeTellerModel_number 45 = .ok (.iconst 1, 1) := by decide +kernel
theorem d_RangeTellerModel_number_46 : decode b_RangeTellerModel_number 46 = .ok (.putfield 159, 3) := by decide +kernel
theorem d_RangeTellerModel_number_49 : decode b_RangeTellerModel_number 49 = .ok (.aload_n 0, 1) := by decide +kernel
theorem d_RangeTellerModel_number_50 : decode b_RangeTellerModel_number 50 = .ok (.dup, 1) := by decide +kernel
theorem d_RangeTellerModel_number_51 : decode b_RangeTellerModel_number 51 = .ok (.getfield 156, 3) := by decide +kernel
theorem d_RangeTellerModel_number_54 : decode b_RangeTellerModel_number 54 = .ok (.iconst 1, 1) := by decide +kernel
theorem d_RangeTellerModel_number_55 : decode b_RangeTellerModel_number 55 = .ok (.isub, 1) := by decide +kernel
theorem d_RangeTellerModel_number_56 : decode b_RangeTellerModel_number 56 = .ok (.putfield 156, 3) := by decide +kernel
theorem d_RangeTellerModel_number_59 : decode b_RangeTellerModel_number 59 = .ok (.iconst 0, 1) := by decide +kernel
theorem d_RangeTellerModel_number_60 : decode b_RangeTellerModel_number 60 = .ok (.ireturn, 1) := by decide +kernel
theorem d_RangeTellerModel_number_36 : decode b_RangeTellerModel_number 36 = .ok (.iconst 0, 1) := by decide +kernel
theorem d_RangeTellerModel_number_37 : decode b_RangeTellerModel_number 37 = .ok (.ireturn, 1) := by decide +kernel
theorem d_RangeTellerModel_number_12 : decode b_RangeTellerModel_number 12 = .ok (.iconst 0, 1) := by decide +kernel
theorem d_RangeTellerModel_number_13 : decode b_RangeTellerModel_number 13 = .ok (.ireturn, 1) := by decide +kernel
theorem d_RangeTellerModel_hasArgument_9 : decode b_RangeTellerModel_hasArgument 9 = .ok (.iload_n 0, 1) := by decide +kernel
theorem d_RangeTellerModel_hasArgument_10 : decode b_RangeTellerModel_hasArgument 10 = .ok (.bipush 6, 2) := by decide +kernel
theorem d_RangeTellerModel_hasArgument_12 : decode b_RangeTellerModel_hasArgument 12 = .ok (.if_icmp .eq 27, 3) := by decide +kernel
theorem d_RangeTellerModel_hasArgument_39 : decode b_RangeTellerModel_hasArgument 39 = .ok (.iconst 1, 1) := by decide +kernel
theorem d_RangeTellerModel_hasArgument_40 : decode b_RangeTellerModel_hasArgument 40 = .ok (.goto 4, 3) := by decide +kernel
theorem d_RangeTellerModel_hasArgument_44 : decode b_RangeTellerModel_hasArgument 44 = .ok (.ireturn, 1) := by decide +kernel
theorem d_RangeTellerModel_hasArgument_15 : decode b_RangeTellerModel_hasArgument 15 = .ok (.iload_n 0, 1) := by decide +kernel
theorem d_RangeTellerModel_hasArgument_16 : decode b_RangeTellerModel_hasArgument 16 = .ok (.bipush 7, 2) := by decide +kernel
theorem d_RangeTellerModel_hasArgument_18 : decode b_RangeTellerModel_hasArgument 18 = .ok (.if_icmp .eq 21, 3) := by decide +kernel
theorem d_RangeTellerModel_hasArgument_21 : decode b_RangeTellerModel_hasArgument 21 = .ok (.iload_n 0, 1) := by decide +kernel
theorem d_RangeTellerModel_hasArgument_22 : decode b_RangeTellerModel_hasArgument 22 = .ok (.bipush 9, 2) := by decide +kernel
theorem d_RangeTellerModel_hasArgument_24 : decode b_RangeTellerModel_hasArgument 24 = .ok (.if_icmp .eq 15, 3) := by decide +kernel
theorem d_RangeTellerModel_hasArgument_27 : decode b_RangeTellerModel_hasArgument 27 = .ok (.iload_n 0, 1) := by decide +kernel
theorem d_RangeTellerModel_hasArgument_28 : decode b_RangeTellerModel_hasArgument 28 = .ok (.bipush 11, 2) := by decide +kernel
theorem d_RangeTellerModel_hasArgument_30 : decode b_RangeTellerModel_hasArgument 30 = .ok (.if_icmp .le 13, 3) := by decide +kernel
theorem d_RangeTellerModel_hasArgument_43 : decode b_RangeTellerModel_hasArgument 43 = .ok (.iconst 0, 1) := by decide +kernel
theorem d_RangeTellerModel_hasArgument_33 : decode b_RangeTellerModel_hasArgument 33 = .ok (.iload_n 0, 1) := by decide +kernel
theorem d_RangeTellerModel_hasArgument_34 : decode b_RangeTellerModel_hasArgument 34 = .ok (.bipush 18, 2) := by decide +kernel
theorem d_RangeTellerModel_hasArgument_36 : decode b_RangeTellerModel_hasArgument 36 = .ok (.if_icmp .ge 7, 3) := by decide +kernel
theorem d_RangeTellerModel_hasArgument_0 : decode b_RangeTellerModel_hasArgument 0 = .ok (.iload_n 0, 1) := by decide +kernel
theorem d_RangeTellerModel_hasArgument_1 : decode b_RangeTellerModel_hasArgument 1 = .ok (.ifCond .le 8, 3) := by decide +kernel
theorem d_RangeTellerModel_hasArgument_4 : decode b_RangeTellerModel_hasArgument 4 = .ok (.iload_n 0, 1) := by decide +kernel
theorem d_RangeTellerModel_hasArgument_5 : decode b_RangeTellerModel_hasArgument 5 = .ok (.iconst 4, 1) := by decide +kernel
theorem d_RangeTellerModel_hasArgument_6 : decode b_RangeTellerModel_hasArgument 6 = .ok (.if_icmp .lt 33, 3) := by decide +kernel
theorem d_RangeTellerModel_close_0 : decode b_RangeTellerModel_close 0 = .ok (.aload_n 0, 1) := by decide +kernel
theorem d_RangeTellerModel_close_1 : decode b_RangeTellerModel_close 1 = .ok (.dup, 1) := by decide +kernel
theorem d_RangeTellerModel_close_2 : decode b_RangeTellerModel_close 2 = .ok (.getfield 174, 3) := by decide +kernel
theorem d_RangeTellerModel_close_5 : decode b_RangeTellerModel_close 5 = .ok (.iconst 1, 1) := by decide +kernel
theorem d_RangeTellerModel_close_6 : decode b_RangeTellerModel_close 6 = .ok (.isub, 1) := by decide +kernel
theorem d_RangeTellerModel_close_7 : decode b_RangeTellerModel_close 7 = .ok (.putfield 174, 3) := by decide +kernel
theorem d_RangeTellerModel_close_10 : decode b_RangeTellerModel_close 10 = .ok (.aload_n 0, 1) := by decide +kernel
theorem d_RangeTellerModel_close_11 : decode b_RangeTellerModel_close 11 = .ok (.getfield 56, 3) := by decide +kernel
theorem d_RangeTellerModel_close_14 : decode b_RangeTellerModel_close 14 = .ok (.aload_n 0, 1) := by decide +kernel
theorem d_RangeTellerModel_close_15 : decode b_RangeTellerModel_close 15 = .ok (.getfield 174, 3) := by decide +kernel
theorem d_RangeTellerModel_close_18 : decode b_RangeTellerModel_close 18 = .ok (.iaload, 1) := by decide +kernel
theorem d_RangeTellerModel_close_19 : decode b_RangeTellerModel_close 19 = .ok (.istore_n 2, 1) := by decide +kernel
theorem d_RangeTellerModel_close_20 : decode b_RangeTellerModel_close 20 = .ok (.aload_n 0, 1) := by decide +kernel
theorem d_RangeTellerModel_close_21 : decode b_RangeTellerModel_close 21 = .ok (.getfield 26, 3) := by decide +kernel
theorem d_RangeTellerModel_close_24 : decode b_RangeTellerModel_close 24 = .ok (.iload_n 2, 1) := by decide +kernel
theorem d_RangeTellerModel_close_25 : decode b_RangeTellerModel_close 25 = .ok (.iload_n 1, 1) := by decide +kernel
theorem d_RangeTellerModel_close_26 : decode b_RangeTellerModel_close 26 = .ok (.iastore, 1) := by decide +kernel
theorem d_RangeTellerModel_close_27 : decode b_RangeTellerModel_close 27 = .ok (.aload_n 0, 1) := by decide +kernel
theorem d_RangeTellerModel_close_28 : decode b_RangeTellerModel_close 28 = .ok (.getfield 29, 3) := by decide +kernel
theorem d_RangeTellerModel_close_31 : decode b_RangeTellerModel_close 31 = .ok (.iload_n 2, 1) := by decide +kernel
theorem d_RangeTellerModel_close_32 : decode b_RangeTellerModel_close 32 = .ok (.iaload, 1) := by decide +kernel
theorem d_RangeTellerModel_close_33 : decode b_RangeTellerModel_close 33 = .ok (.ifCond .lt 15, 3) := by decide +kernel
theorem d_RangeTellerModel_close_48 : decode b_RangeTellerModel_close 48 = .ok (.return_, 1) := by decide +kernel
theorem d_RangeTellerModel_close_36 : decode b_RangeTellerModel_close 36 = .ok (.aload_n 0, 1) := by decide +kernel
theorem d_RangeTellerModel_close_37 : decode b_RangeTellerModel_close 37 = .ok (.getfield 26, 3) := by decide +kernel
theorem d_RangeTellerModel_close_40 : decode b_RangeTellerModel_close 40 = .ok (.aload_n 0, 1) := by decide +kernel
theorem d_RangeTellerModel_close_41 : decode b_RangeTellerModel_close 41 = .ok (.getfield 29, 3) := by decide +kernel
theorem d_RangeTellerModel_close_44 : decode b_RangeTellerModel_close 44 = .ok (.iload_n 2, 1) := by decide +kernel
theorem d_RangeTellerModel_close_45 : decode b_RangeTellerModel_close 45 = .ok (.iaload, 1) := by decide +kernel
theorem d_RangeTellerModel_close_46 : decode b_RangeTellerModel_close 46 = .ok (.iload_n 1, 1) := by decide +kernel
theorem d_RangeTellerModel_close_47 : decode b_RangeTellerModel_close 47 = .ok (.iastore, 1) := by decide +kernel
theorem d_RangeTellerModel_readFunction_360 : decode b_RangeTellerModel_readFunction 360 = .ok (.goto (-285), 3) := by decide +kernel
theorem d_RangeTellerModel_readFunction_345 : decode b_RangeTellerModel_readFunction 345 = .ok (.iload_n 3, 1) := by decide +kernel
theorem d_RangeTellerModel_readFunction_346 : decode b_RangeTellerModel_readFunction 346 = .ok (.iconst 5, 1) := by decide +kernel
theorem d_RangeTellerModel_readFunction_347 : decode b_RangeTellerModel_readFunction 347 = .ok (.if_icmp .ne 13, 3) := by decide +kernel
theorem d_RangeTellerModel_readFunction_350 : decode b_RangeTellerModel_readFunction 350 = .ok (.iload_n 2, 1) := by decide +kernel
theorem d_RangeTellerModel_readFunction_351 : decode b_RangeTellerModel_readFunction 351 = .ok (.ifCond .ne 9, 3) := by decide +kernel
theorem d_RangeTellerModel_readFunction_354 : decode b_RangeTellerModel_readFunction 354 = .ok (.aload_n 0, 1) := by decide +kernel
theorem d_RangeTellerModel_readFunction_355 : decode b_RangeTellerModel_readFunction 355 = .ok (.iload 5, 2) := by decide +kernel
theorem d_RangeTellerModel_readFunction_357 : decode b_RangeTellerModel_readFunction 357 = .ok (.invokevirtual 181, 3) := by decide +kernel
theorem d_RangeTellerModel_readFunction_315 : decode b_RangeTellerModel_readFunction 315 = .ok (.iload_n 3, 1) := by decide +kernel
theorem d_RangeTellerModel_readFunction_316 : decode b_RangeTellerModel_readFunction 316 = .ok (.ifCond .le 29, 3) := by decide +kernel
theorem d_RangeTellerModel_readFunction_319 : decode b_RangeTellerModel_readFunction 319 = .ok (.iload_n 3, 1) := by decide +kernel
theorem d_RangeTellerModel_readFunction_320 : decode b_RangeTellerModel_readFunction 320 = .ok (.iconst 4, 1) := by decide +kernel
theorem d_RangeTellerModel_readFunction_321 : decode b_RangeTellerModel_readFunction 321 = .ok (.if_icmp .ge 24, 3) := by decide +kernel
theorem d_RangeTellerModel_readFunction_324 : decode b_RangeTellerModel_readFunction 324 = .ok (.aload_n 0, 1) := by decide +kernel
theorem d_RangeTellerModel_readFunction_325 : decode b_RangeTellerModel_readFunction 325 = .ok (.getfield 56, 3) := by decide +kernel
theorem d_RangeTellerModel_readFunction_328 : decode b_RangeTellerModel_readFunction 328 = .ok (.aload_n 0, 1) := by decide +kernel
theorem d_RangeTellerModel_readFunction_329 : decode b_RangeTellerModel_readFunction 329 = .ok (.getfield 174, 3) := by decide +kernel
theorem d_RangeTellerModel_readFunction_332 : decode b_RangeTellerModel_readFunction 332 = .ok (.iload 5, 2) := by decide +kernel
theorem d_RangeTellerModel_readFunction_334 : decode b_RangeTellerModel_readFunction 334 = .ok (.iastore, 1) := by decide +kernel
theorem d_RangeTellerModel_readFunction_335 : decode b_RangeTellerModel_readFunction 335 = .ok (.aload_n 0, 1) := by decide +kernel
theorem d_RangeTellerModel_readFunction_336 : decode b_RangeTellerModel_readFunction 336 = .ok (.dup, 1) := by decide +kernel
theorem d_RangeTellerModel_readFunction_337 : decode b_RangeTellerModel_readFunction 337 = .ok (.getfield 174, 3) := by decide +kernel
theorem d_RangeTellerModel_readFunction_340 : decode b_RangeTellerModel_readFunction 340 = .ok (.iconst 1, 1) := by decide +kernel
theorem d_RangeTellerModel_readFunction_341 : decode b_RangeTellerModel_readFunction 341 = .ok (.iadd, 1) := by decide +kernel
theorem d_RangeTellerModel_readFunction_342 : decode b_RangeTellerModel_readFunction 342 = .ok (.putfield 174, 3) := by decide +kernel
theorem d_RangeTellerModel_readFunction_291 : decode b_RangeTellerModel_readFunction 291 = .ok (.istore_n 2, 1) := by decide +kernel
theorem d_RangeTellerModel_readFunction_292 : decode b_RangeTellerModel_readFunction 292 = .ok (.iload_n 3, 1) := by decide +kernel
theorem d_RangeTellerModel_readFunction_293 : decode b_RangeTellerModel_readFunction 293 = .ok (.iconst 4, 1) := by decide +kernel
theorem d_RangeTellerModel_readFunction_294 : decode b_RangeTellerModel_readFunction 294 = .ok (.if_icmp .ne 21, 3) := by decide +kernel
theorem d_RangeTellerModel_readFunction_297 : decode b_RangeTellerModel_readFunction 297 = .ok (.aload_n 0, 1) := by decide +kernel
theorem d_RangeTellerModel_readFunction_298 : decode b_RangeTellerModel_readFunction 298 = .ok (.getfield 29, 3) := by decide +kernel
theorem d_RangeTellerModel_readFunction_301 : decode b_RangeTellerModel_readFunction 301 = .ok (.aload_n 0, 1) := by decide +kernel
theorem d_RangeTellerModel_readFunction_302 : decode b_RangeTellerModel_readFunction 302 = .ok (.getfield 56, 3) := by decide +kernel
theorem d_RangeTellerModel_readFunction_305 : decode b_RangeTellerModel_readFunction 305 = .ok (.aload_n 0, 1) := by decide +kernel
theorem d_RangeTellerModel_readFunction_306 : decode b_RangeTellerModel_readFunction 306 = .ok (.getfield 174, 3) := by decide +kernel
theorem d_RangeTellerModel_readFunction_309 : decode b_RangeTellerModel_readFunction 309 = .ok (.iconst 1, 1) := by decide +kernel
theorem d_RangeTellerModel_readFunction_310 : decode b_RangeTellerModel_readFunction 310 = .ok (.isub, 1) := by decide +kernel
theorem d_RangeTellerModel_readFunction_311 : decode b_RangeTellerModel_readFunction 311 = .ok (.iaload, 1) := by decide +kernel
theorem d_RangeTellerModel_readFunction_312 : decode b_RangeTellerModel_readFunction 312 = .ok (.iload 5, 2) := by decide +kernel
theorem d_RangeTellerModel_readFunction_314 : decode b_RangeTellerModel_readFunction 314 = .ok (.iastore, 1) := by decide +kernel
theorem d_RangeTellerModel_readFunction_290 : decode b_RangeTellerModel_readFunction 290 = .ok (.iconst 0, 1) := by decide +kernel
theorem d_RangeTellerModel_readFunction_255 : decode b_RangeTellerModel_readFunction 255 = .ok (.iastore, 1) := by decide +kernel
theorem d_RangeTellerModel_readFunction_256 : decode b_RangeTellerModel_readFunction 256 = .ok (.aload_n 0, 1) := by decide +kernel
theorem d_RangeTellerModel_readFunction_257 : decode b_RangeTellerModel_readFunction 257 = .ok (.getfield 159, 3) := by decide +kernel
theorem d_RangeTellerModel_readFunction_260 : decode b_RangeTellerModel_readFunction 260 = .ok (.ifCond .eq 4, 3) := by decide +kernel
theorem d_RangeTellerModel_readFunction_264 : decode b_RangeTellerModel_readFunction 264 = .ok (.aload_n 0, 1) := by decide +kernel
theorem d_RangeTellerModel_readFunction_265 : decode b_RangeTellerModel_readFunction 265 = .ok (.dup, 1) := by decide +kernel
theorem d_RangeTellerModel_readFunction_266 : decode b_RangeTellerModel_readFunction 266 = .ok (.getfield 171, 3) := by decide +kernel
theorem d_RangeTellerModel_readFunction_269 : decode b_RangeTellerModel_readFunction 269 = .ok (.iconst 1, 1) := by decide +kernel
theorem d_RangeTellerModel_readFunction_270 : decode b_RangeTellerModel_readFunction 270 = .ok (.iadd, 1) := by decide +kernel
theorem d_RangeTellerModel_readFunction_271 : decode b_RangeTellerModel_readFunction 271 = .ok (.putfield 171, 3) := by decide +kernel
theorem d_RangeTellerModel_readFunction_274 : decode b_RangeTellerModel_readFunction 274 = .ok (.iload_n 3, 1) := by decide +kernel
theorem d_RangeTellerModel_readFunction_275 : decode b_RangeTellerModel_readFunction 275 = .ok (.iconst 5, 1) := by decide +kernel
theorem d_RangeTellerModel_readFunction_276 : decode b_RangeTellerModel_readFunction 276 = .ok (.if_icmp .ne 14, 3) := by decide +kernel
theorem d_RangeTellerModel_readFunction_279 : decode b_RangeTellerModel_readFunction 279 = .ok (.aload_n 0, 1) := by decide +kernel
theorem d_RangeTellerModel_readFunction_280 : decode b_RangeTellerModel_readFunction 280 = .ok (.getfield 174, 3) := by decide +kernel
theorem d_RangeTellerModel_readFunction_283 : decode b_RangeTellerModel_readFunction 283 = .ok (.ifCond .ne 7, 3) := by decide +kernel
theorem d_RangeTellerModel_readFunction_286 : decode b_RangeTellerModel_readFunction 286 = .ok (.iconst 1, 1) := by decide +kernel
theorem d_RangeTellerModel_readFunction_287 : decode b_RangeTellerModel_readFunction 287 = .ok (.goto 4, 3) := by decide +kernel
theorem d_RangeTellerModel_readFunction_263 : decode b_RangeTellerModel_readFunction 263 = .ok (.return_, 1) := by decide +kernel
theorem d_RangeTellerModel_readFunction_248 : decode b_RangeTellerModel_readFunction 248 = .ok (.invokevirtual 167, 3) := by decide +kernel
theorem d_RangeTellerModel_readFunction_251 : decode b_RangeTellerModel_readFunction 251 = .ok (.goto 4, 3) := by decide +kernel
theorem d_RangeTellerModel_readFunction_163 : decode b_RangeTellerModel_readFunction 163 = .ok (.iload 4, 2) := by decide +kernel
theorem d_RangeTellerModel_readFunction_165 : decode b_RangeTellerModel_readFunction 165 = .ok (.ifCond .ne 19, 3) := by decide +kernel
theorem d_RangeTellerModel_readFunction_184 : decode b_RangeTellerModel_readFunction 184 = .ok (.aload_n 0, 1) := by decide +kernel
theorem d_RangeTellerModel_readFunction_185 : decode b_RangeTellerModel_readFunction 185 = .ok (.getfield 171, 3) := by decide +kernel
theorem d_RangeTellerModel_readFunction_188 : decode b_RangeTellerModel_readFunction 188 = .ok (.istore 5, 2) := by decide +kernel
theorem d_RangeTellerModel_readFunction_190 : decode b_RangeTellerModel_readFunction 190 = .ok (.aload_n 0, 1) := by decide +kernel
theorem d_RangeTellerModel_readFunction_191 : decode b_RangeTellerModel_readFunction 191 = .ok (.getfield 17, 3) := by decide +kernel
theorem d_RangeTellerModel_readFunction_194 : decode b_RangeTellerModel_readFunction 194 = .ok (.iload 5, 2) := by decide +kernel
theorem d_RangeTellerModel_readFunction_196 : decode b_RangeTellerModel_readFunction 196 = .ok (.iload_n 3, 1) := by decide +kernel
theorem d_RangeTellerModel_readFunction_197 : decode b_RangeTellerModel_readFunction 197 = .ok (.iastore, 1) := by decide +kernel
theorem d_RangeTellerModel_readFunction_198 : decode b_RangeTellerModel_readFunction 198 = .ok (.aload_n 0, 1) := by decide +kernel
theorem d_RangeTellerModel_readFunction_199 : decode b_RangeTellerModel_readFunction 199 = .ok (.getfield 23, 3) := by decide +kernel
theorem d_RangeTellerModel_readFunction_202 : decode b_RangeTellerModel_readFunction 202 = .ok (.iload 5, 2) := by decide +kernel
theorem d_RangeTellerModel_readFunction_204 : decode b_RangeTellerModel_readFunction 204 = .ok (.iload_n 1, 1) := by decide +kernel
theorem d_RangeTellerModel_readFunction_205 : decode b_RangeTellerModel_readFunction 205 = .ok (.iastore, 1) := by decide +kernel
theorem d_RangeTellerModel_readFunction_206 : decode b_RangeTellerModel_readFunction 206 = .ok (.aload_n 0, 1) := by decide +kernel
theorem d_RangeTellerModel_readFunction_207 : decode b_RangeTellerModel_readFunction 207 = .ok (.getfield 26, 3) := by decide +kernel
theorem d_RangeTellerModel_readFunction_210 : decode b_RangeTellerModel_readFunction 210 = .ok (.iload 5, 2) := by decide +kernel
theorem d_RangeTellerModel_readFunction_212 : decode b_RangeTellerModel_readFunction 212 = .ok (.iconst (-1), 1) := by decide +kernel
theorem d_RangeTellerModel_readFunction_213 : decode b_RangeTellerModel_readFunction 213 = .ok (.iastore, 1) := by decide +kernel
theorem d_RangeTellerModel_readFunction_214 : decode b_RangeTellerModel_readFunction 214 = .ok (.aload_n 0, 1) := by decide +kernel
theorem d_RangeTellerModel_readFunction_215 : decode b_RangeTellerModel_readFunction 215 = .ok (.getfield 29, 3) := by decide +kernel
theorem d_RangeTellerModel_readFunction_218 : decode b_RangeTellerModel_readFunction 218 = .ok (.iload 5, 2) := by decide +kernel
theorem d_RangeTellerModel_readFunction_220 : decode b_RangeTellerModel_readFunction 220 = .ok (.iconst (-1), 1) := by decide +kernel
theorem d_RangeTellerModel_readFunction_221 : decode b_RangeTellerModel_readFunction 221 = .ok (.iastore, 1) := by decide +kernel
theorem d_RangeTellerModel_readFunction_222 : decode b_RangeTellerModel_readFunction 222 = .ok (.aload_n 0, 1) := by decide +kernel
theorem d_RangeTellerModel_readFunction_223 : decode b_RangeTellerModel_readFunction 223 = .ok (.getfield 20, 3) := by decide +kernel
theorem d_RangeTellerModel_readFunction_226 : decode b_RangeTellerModel_readFunction 226 = .ok (.iload 5, 2) := by decide +kernel
theorem d_RangeTellerModel_readFunction_228 : decode b_RangeTellerModel_readFunction 228 = .ok (.iload_n 3, 1) := by decide +kernel
theorem d_RangeTellerModel_readFunction_229 : decode b_RangeTellerModel_readFunction 229 = .ok (.invokestatic 177, 3) := by decide +kernel
theorem d_RangeTellerModel_readFunction_232 : decode b_RangeTellerModel_readFunction 232 = .ok (.ifCond .eq 22, 3) := by decide +kernel
theorem d_RangeTellerModel_readFunction_254 : decode b_RangeTellerModel_readFunction 254 = .ok (.iconst 0, 1) := by decide +kernel
theorem d_RangeTellerModel_readFunction_235 : decode b_RangeTellerModel_readFunction 235 = .ok (.aload_n 0, 1) := by decide +kernel
theorem d_RangeTellerModel_readFunction_236 : decode b_RangeTellerModel_readFunction 236 = .ok (.iconst 0, 1) := by decide +kernel
theorem d_RangeTellerModel_readFunction_237 : decode b_RangeTellerModel_readFunction 237 = .ok (.iload_n 3, 1) := by decide +kernel
theorem d_RangeTellerModel_readFunction_238 : decode b_RangeTellerModel_readFunction 238 = .ok (.iconst 4, 1) := by decide +kernel
theorem d_RangeTellerModel_readFunction_239 : decode b_RangeTellerModel_readFunction 239 = .ok (.if_icmp .ge 7, 3) := by decide +kernel
theorem d_RangeTellerModel_readFunction_246 : decode b_RangeTellerModel_readFunction 246 = .ok (.bipush 63, 2) := by decide +kernel
theorem d_RangeTellerModel_readFunction_242 : decode b_RangeTellerModel_readFunction 242 = .ok (.iconst 1, 1) := by decide +kernel
theorem d_RangeTellerModel_readFunction_243 : decode b_RangeTellerModel_readFunction 243 = .ok (.goto 5, 3) := by decide +kernel
theorem d_RangeTellerModel_readFunction_168 : decode b_RangeTellerModel_readFunction 168 = .ok (.aload_n 0, 1) := by decide +kernel
theorem d_RangeTellerModel_readFunction_169 : decode b_RangeTellerModel_readFunction 169 = .ok (.iconst 1, 1) := by decide +kernel
theorem d_RangeTellerModel_readFunction_170 : decode b_RangeTellerModel_readFunction 170 = .ok (.putfield 159, 3) := by decide +kernel
theorem d_RangeTellerModel_readFunction_173 : decode b_RangeTellerModel_readFunction 173 = .ok (.aload_n 0, 1) := by decide +kernel
theorem d_RangeTellerModel_readFunction_174 : decode b_RangeTellerModel_readFunction 174 = .ok (.dup, 1) := by decide +kernel
theorem d_RangeTellerModel_readFunction_175 : decode b_RangeTellerModel_readFunction 175 = .ok (.getfield 156, 3) := by decide +kernel
theorem d_RangeTellerModel_readFunction_178 : decode b_RangeTellerModel_readFunction 178 = .ok (.iconst 1, 1) := by decide +kernel
theorem d_RangeTellerModel_readFunction_179 : decode b_RangeTellerModel_readFunction 179 = .ok (.isub, 1) := by decide +kernel
theorem d_RangeTellerModel_readFunction_180 : decode b_RangeTellerModel_readFunction 180 = .ok (.putfield 156, 3) := by decide +kernel
theorem d_RangeTellerModel_readFunction_183 : decode b_RangeTellerModel_readFunction 183 = .ok (.return_, 1) := by decide +kernel
theorem d_RangeTellerModel_readFunction_161 : decode b_RangeTellerModel_readFunction 161 = .ok (.istore 4, 2) := by decide +kernel
theorem d_RangeTellerModel_readFunction_160 : decode b_RangeTellerModel_readFunction 160 = .ok (.iconst 0, 1) := by decide +kernel
theorem d_RangeTellerModel_readFunction_103 : decode b_RangeTellerModel_readFunction 103 = .ok (.istore 4, 2) := by decide +kernel
theorem d_RangeTellerModel_readFunction_105 : decode b_RangeTellerModel_readFunction 105 = .ok (.iload_n 3, 1) := by decide +kernel
theorem d_RangeTellerModel_readFunction_106 : decode b_RangeTellerModel_readFunction 106 = .ok (.iconst 4, 1) := by decide +kernel
theorem d_RangeTellerModel_readFunction_107 : decode b_RangeTellerModel_readFunction 107 = .ok (.if_icmp .ne 56, 3) := by decide +kernel
theorem d_RangeTellerModel_readFunction_110 : decode b_RangeTellerModel_readFunction 110 = .ok (.aload_n 0, 1) := by decide +kernel
theorem d_RangeTellerModel_readFunction_111 : decode b_RangeTellerModel_readFunction 111 = .ok (.getfield 174, 3) := by decide +kernel
theorem d_RangeTellerModel_readFunction_114 : decode b_RangeTellerModel_readFunction 114 = .ok (.ifCond .le 46, 3) := by decide +kernel
theorem d_RangeTellerModel_readFunction_117 : decode b_RangeTellerModel_readFunction 117 = .ok (.aload_n 0, 1) := by decide +kernel
theorem d_RangeTellerModel_readFunction_118 : decode b_RangeTellerModel_readFunction 118 = .ok (.getfield 17, 3) := by decide +kernel
theorem d_RangeTellerModel_readFunction_121 : decode b_RangeTellerModel_readFunction 121 = .ok (.aload_n 0, 1) := by decide +kernel
theorem d_RangeTellerModel_readFunction_122 : decode b_RangeTellerModel_readFunction 122 = .ok (.getfield 56, 3) := by decide +kernel
theorem d_RangeTellerModel_readFunction_125 : decode b_RangeTellerModel_readFunction 125 = .ok (.aload_n 0, 1) := by decide +kernel
theorem d_RangeTellerModel_readFunction_126 : decode b_RangeTellerModel_readFunction 126 = .ok (.getfield 174, 3) := by decide +kernel
theorem d_RangeTellerModel_readFunction_129 : decode b_RangeTellerModel_readFunction 129 = .ok (.iconst 1, 1) := by decide +kernel
theorem d_RangeTellerModel_readFunction_130 : decode b_RangeTellerModel_readFunction 130 = .ok (.isub, 1) := by decide +kernel
theorem d_RangeTellerModel_readFunction_131 : decode b_RangeTellerModel_readFunction 131 = .ok (.iaload, 1) := by decide +kernel
theorem d_RangeTellerModel_readFunction_132 : decode b_RangeTellerModel_readFunction 132 = .ok (.iaload, 1) := by decide +kernel
theorem d_RangeTellerModel_readFunction_133 : decode b_RangeTellerModel_readFunction 133 = .ok (.iconst 3, 1) := by decide +kernel
theorem d_RangeTellerModel_readFunction_134 : decode b_RangeTellerModel_readFunction 134 = .ok (.if_icmp .ne 26, 3) := by decide +kernel
theorem d_RangeTellerModel_readFunction_137 : decode b_RangeTellerModel_readFunction 137 = .ok (.aload_n 0, 1) := by decide +kernel
theorem d_RangeTellerModel_readFunction_138 : decode b_RangeTellerModel_readFunction 138 = .ok (.getfield 29, 3) := by decide +kernel
theorem d_RangeTellerModel_readFunction_141 : decode b_RangeTellerModel_readFunction 141 = .ok (.aload_n 0, 1) := by decide +kernel
theorem d_RangeTellerModel_readFunction_142 : decode b_RangeTellerModel_readFunction 142 = .ok (.getfield 56, 3) := by decide +kernel
theorem d_RangeTellerModel_readFunction_145 : decode b_RangeTellerModel_readFunction 145 = .ok (.aload_n 0, 1) := by decide +kernel
theorem d_RangeTellerModel_readFunction_146 : decode b_RangeTellerModel_readFunction 146 = .ok (.getfield 174, 3) := by decide +kernel
theorem d_RangeTellerModel_readFunction_149 : decode b_RangeTellerModel_readFunction 149 = .ok (.iconst 1, 1) := by decide +kernel
theorem d_RangeTellerModel_readFunction_150 : decode b_RangeTellerModel_readFunction 150 = .ok (.isub, 1) := by decide +kernel
theorem d_RangeTellerModel_readFunction_151 : decode b_RangeTellerModel_readFunction 151 = .ok (.iaload, 1) := by decide +kernel
theorem d_RangeTellerModel_readFunction_152 : decode b_RangeTellerModel_readFunction 152 = .ok (.iaload, 1) := by decide +kernel
theorem d_RangeTellerModel_readFunction_153 : decode b_RangeTellerModel_readFunction 153 = .ok (.ifCond .ge 7, 3) := by decide +kernel
theorem d_RangeTellerModel_readFunction_156 : decode b_RangeTellerModel_readFunction 156 = .ok (.iconst 1, 1) := by decide +kernel
theorem d_RangeTellerModel_readFunction_157 : decode b_RangeTellerModel_readFunction 157 = .ok (.goto 4, 3) := by decide +kernel
theorem d_RangeTellerModel_readFunction_75 : decode b_RangeTellerModel_readFunction 75 = .ok (.iload_n 2, 1) := by decide +kernel
theorem d_RangeTellerModel_readFunction_76 : decode b_RangeTellerModel_readFunction 76 = .ok (.ifCond .ne 287, 3) := by decide +kernel
theorem d_RangeTellerModel_readFunction_363 : decode b_RangeTellerModel_readFunction 363 = .ok (.return_, 1) := by decide +kernel
theorem d_RangeTellerModel_readFunction_79 : decode b_RangeTellerModel_readFunction 79 = .ok (.aload_n 0, 1) := by decide +kernel
theorem d_RangeTellerModel_readFunction_80 : decode b_RangeTellerModel_readFunction 80 = .ok (.invokevirtual 163, 3) := by decide +kernel
theorem d_RangeTellerModel_readFunction_83 : decode b_RangeTellerModel_readFunction 83 = .ok (.istore_n 3, 1) := by decide +kernel
theorem d_RangeTellerModel_readFunction_84 : decode b_RangeTellerModel_readFunction 84 = .ok (.aload_n 0, 1) := by decide +kernel
theorem d_RangeTellerModel_readFunction_85 : decode b_RangeTellerModel_readFunction 85 = .ok (.getfield 159, 3) := by decide +kernel
theorem d_RangeTellerModel_readFunction_88 : decode b_RangeTellerModel_readFunction 88 = .ok (.ifCond .eq 4, 3) := by decide +kernel
theorem d_RangeTellerModel_readFunction_92 : decode b_RangeTellerModel_readFunction 92 = .ok (.iload_n 3, 1) := by decide +kernel
theorem d_RangeTellerModel_readFunction_93 : decode b_RangeTellerModel_readFunction 93 = .ok (.bipush 29, 2) := by decide +kernel
theorem d_RangeTellerModel_readFunction_95 : decode b_RangeTellerModel_readFunction 95 = .ok (.if_icmp .ge 7, 3) := by decide +kernel
theorem d_RangeTellerModel_readFunction_102 : decode b_RangeTellerModel_readFunction 102 = .ok (.iconst 0, 1) := by decide +kernel
theorem d_RangeTellerModel_readFunction_98 : decode b_RangeTellerModel_readFunction 98 = .ok (.iconst 1, 1) := by decide +kernel
theorem d_RangeTellerModel_readFunction_99 : decode b_RangeTellerModel_readFunction 99 = .ok (.goto 4, 3) := by decide +kernel
theorem d_RangeTellerModel_readFunction_91 : decode b_RangeTellerModel_readFunction 91 = .ok (.return_, 1) := by decide +kernel
theorem d_RangeTellerModel_readFunction_50 : decode b_RangeTellerModel_readFunction 50 = .ok (.aload_n 0, 1) := by decide +kernel
theorem d_RangeTellerModel_readFunction_51 : decode b_RangeTellerModel_readFunction 51 = .ok (.getfield 159, 3) := by decide +kernel
theorem d_RangeTellerModel_readFunction_54 : decode b_RangeTellerModel_readFunction 54 = .ok (.ifCond .eq 4, 3) := by decide +kernel
theorem d_RangeTellerModel_readFunction_58 : decode b_RangeTellerModel_readFunction 58 = .ok (.aload_n 0, 1) := by decide +kernel
theorem d_RangeTellerModel_readFunction_59 : decode b_RangeTellerModel_readFunction 59 = .ok (.getfield 53, 3) := by decide +kernel
theorem d_RangeTellerModel_readFunction_62 : decode b_RangeTellerModel_readFunction 62 = .ok (.iload_n 1, 1) := by decide +kernel
theorem d_RangeTellerModel_readFunction_63 : decode b_RangeTellerModel_readFunction 63 = .ok (.aload_n 0, 1) := by decide +kernel
theorem d_RangeTellerModel_readFunction_64 : decode b_RangeTellerModel_readFunction 64 = .ok (.getfield 171, 3) := by decide +kernel
theorem d_RangeTellerModel_readFunction_67 : decode b_RangeTellerModel_readFunction 67 = .ok (.iastore, 1) := by decide +kernel
theorem d_RangeTellerModel_readFunction_68 : decode b_RangeTellerModel_readFunction 68 = .ok (.aload_n 0, 1) := by decide +kernel
theorem d_RangeTellerModel_readFunction_69 : decode b_RangeTellerModel_readFunction 69 = .ok (.iconst 0, 1) := by decide +kernel
theorem d_RangeTellerModel_readFunction_70 : decode b_RangeTellerModel_readFunction 70 = .ok (.putfield 174, 3) := by decide +kernel
theorem d_RangeTellerModel_readFunction_73 : decode b_RangeTellerModel_readFunction 73 = .ok (.iconst 0, 1) := by decide +kernel
theorem d_RangeTellerModel_readFunction_74 : decode b_RangeTellerModel_readFunction 74 = .ok (.istore_n 2, 1) := by decide +kernel
theorem d_RangeTellerModel_readFunction_57 : decode b_RangeTellerModel_readFunction 57 = .ok (.return_, 1) := by decide +kernel
theorem d_RangeTellerModel_readFunction_31 : decode b_RangeTellerModel_readFunction 31 = .ok (.aload_n 0, 1) := by decide +kernel
theorem d_RangeTellerModel_readFunction_32 : decode b_RangeTellerModel_readFunction 32 = .ok (.getfield 159, 3) := by decide +kernel
theorem d_RangeTellerModel_readFunction_35 : decode b_RangeTellerModel_readFunction 35 = .ok (.ifCond .ne 15, 3) := by decide +kernel
theorem d_RangeTellerModel_readFunction_38 : decode b_RangeTellerModel_readFunction 38 = .ok (.aload_n 0, 1) := by decide +kernel
theorem d_RangeTellerModel_readFunction_39 : decode b_RangeTellerModel_readFunction 39 = .ok (.getfield 50, 3) := by decide +kernel
theorem d_RangeTellerModel_readFunction_42 : decode b_RangeTellerModel_readFunction 42 = .ok (.iload_n 1, 1) := by decide +kernel
theorem d_RangeTellerModel_readFunction_43 : decode b_RangeTellerModel_readFunction 43 = .ok (.aload_n 0, 1) := by decide +kernel
theorem d_RangeTellerModel_readFunction_44 : decode b_RangeTellerModel_readFunction 44 = .ok (.iconst 0, 1) := by decide +kernel
theorem d_RangeTellerModel_readFunction_45 : decode b_RangeTellerModel_readFunction 45 = .ok (.iconst 1, 1) := by decide +kernel
theorem d_RangeTellerModel_readFunction_46 : decode b_RangeTellerModel_readFunction 46 = .ok (.invokevirtual 167, 3) := by decide +kernel
theorem d_RangeTellerModel_readFunction_49 : decode b_RangeTellerModel_readFunction 49 = .ok (.iastore, 1) := by decide +kernel
theorem d_RangeTellerModel_readFunction_0 : decode b_RangeTellerModel_readFunction 0 = .ok (.aload_n 0, 1) := by decide +kernel
theorem d_RangeTellerModel_readFunction_1 : decode b_RangeTellerModel_readFunction 1 = .ok (.getfield 44, 3) := by decide +kernel
theorem d_RangeTellerModel_readFunction_4 : decode b_RangeTellerModel_readFunction 4 = .ok (.iload_n 1, 1) := by decide +kernel
theorem d_RangeTellerModel_readFunction_5 : decode b_RangeTellerModel_readFunction 5 = .ok (.aload_n 0, 1) := by decide +kernel
theorem d_RangeTellerModel_readFunction_6 : decode b_RangeTellerModel_readFunction 6 = .ok (.iconst 0, 1) := by decide +kernel
theorem d_RangeTellerModel_readFunction_7 : decode b_RangeTellerModel_readFunction 7 = .ok (.iconst 2, 1) := by decide +kernel
theorem d_RangeTellerModel_readFunction_8 : decode b_RangeTellerModel_readFunction 8 = .ok (.invokevirtual 167, 3) := by decide +kernel
theorem d_RangeTellerModel_readFunction_11 : decode b_RangeTellerModel_readFunction 11 = .ok (.iastore, 1) := by decide +kernel
theorem d_RangeTellerModel_readFunction_12 : decode b_RangeTellerModel_readFunction 12 = .ok (.aload_n 0, 1) := by decide +kernel
theorem d_RangeTellerModel_readFunction_13 : decode b_RangeTellerModel_readFunction 13 = .ok (.getfield 159, 3) := by decide +kernel
theorem d_RangeTellerModel_readFunction_16 : decode b_RangeTellerModel_readFunction 16 = .ok (.ifCond .ne 15, 3) := by decide +kernel
theorem d_RangeTellerModel_readFunction_19 : decode b_RangeTellerModel_readFunction 19 = .ok (.aload_n 0, 1) := by decide +kernel
theorem d_RangeTellerModel_readFunction_20 : decode b_RangeTellerModel_readFunction 20 = .ok (.getfield 47, 3) := by decide +kernel
theorem d_RangeTellerModel_readFunction_23 : decode b_RangeTellerModel_readFunction 23 = .ok (.iload_n 1, 1) := by decide +kernel
theorem d_RangeTellerModel_readFunction_24 : decode b_RangeTellerModel_readFunction 24 = .ok (.aload_n 0, 1) := by decide +kernel
theorem d_RangeTellerModel_readFunction_25 : decode b_RangeTellerModel_readFunction 25 = .ok (.iconst 0, 1) := by decide +kernel
theorem d_RangeTellerModel_readFunction_26 : decode b_RangeTellerModel_readFunction 26 = .ok (.iconst 2, 1) := by decide +kernel
theorem d_RangeTellerModel_readFunction_27 : decode b_RangeTellerModel_readFunction 27 = .ok (.invokevirtual 167, 3) := by decide +kernel
theorem d_RangeTellerModel_readFunction_30 : decode b_RangeTellerModel_readFunction 30 = .ok (.iastore, 1) := by decide +kernel
theorem d_RangeTellerModel_read_76 : decode b_RangeTellerModel_read 76 = .ok (.aload_n 0, 1) := by decide +kernel
theorem d_RangeTellerModel_read_77 : decode b_RangeTellerModel_read 77 = .ok (.getfield 159, 3) := by decide +kernel
theorem d_RangeTellerModel_read_80 : decode b_RangeTellerModel_read 80 = .ok (.ifCond .ne 7, 3) := by decide +kernel
theorem d_RangeTellerModel_read_87 : decode b_RangeTellerModel_read 87 = .ok (.iconst 0, 1) := by decide +kernel
theorem d_RangeTellerModel_read_88 : decode b_RangeTellerModel_read 88 = .ok (.ireturn, 1) := by decide +kernel
theorem d_RangeTellerModel_read_83 : decode b_RangeTellerModel_read 83 = .ok (.iconst 1, 1) := by decide +kernel
theorem d_RangeTellerModel_read_84 : decode b_RangeTellerModel_read 84 = .ok (.goto 4, 3) := by decide +kernel
theorem d_RangeTellerModel_read_53 : decode b_RangeTellerModel_read 53 = .ok (.aload_n 0, 1) := by decide +kernel
theorem d_RangeTellerModel_read_54 : decode b_RangeTellerModel_read 54 = .ok (.getfield 159, 3) := by decide +kernel
theorem d_RangeTellerModel_read_57 : decode b_RangeTellerModel_read 57 = .ok (.ifCond .ne 19, 3) := by decide +kernel
theorem d_RangeTellerModel_read_60 : decode b_RangeTellerModel_read 60 = .ok (.aload_n 0, 1) := by decide +kernel
theorem d_RangeTellerModel_read_61 : decode b_RangeTellerModel_read 61 = .ok (.getfield 156, 3) := by decide +kernel
theorem d_RangeTellerModel_read_64 : decode b_RangeTellerModel_read 64 = .ok (.aload_n 0, 1) := by decide +kernel
theorem d_RangeTellerModel_read_65 : decode b_RangeTellerModel_read 65 = .ok (.getfield 153, 3) := by decide +kernel
theorem d_RangeTellerModel_read_68 : decode b_RangeTellerModel_read 68 = .ok (.if_icmp .ge 8, 3) := by decide +kernel
theorem d_RangeTellerModel_read_71 : decode b_RangeTellerModel_read 71 = .ok (.aload_n 0, 1) := by decide +kernel
theorem d_RangeTellerModel_read_72 : decode b_RangeTellerModel_read 72 = .ok (.iconst 1, 1) := by decide +kernel
theorem d_RangeTellerModel_read_73 : decode b_RangeTellerModel_read 73 = .ok (.putfield 159, 3) := by decide +kernel
theorem d_RangeTellerModel_read_27 : decode b_RangeTellerModel_read 27 = .ok (.iload_n 1, 1) := by decide +kernel
theorem d_RangeTellerModel_read_28 : decode b_RangeTellerModel_read 28 = .ok (.aload_n 0, 1) := by decide +kernel
theorem d_RangeTellerModel_read_29 : decode b_RangeTellerModel_read 29 = .ok (.getfield 185, 3) := by decide +kernel
theorem d_RangeTellerModel_read_32 : decode b_RangeTellerModel_read 32 = .ok (.if_icmp .ge 21, 3) := by decide +kernel
theorem d_RangeTellerModel_read_35 : decode b_RangeTellerModel_read 35 = .ok (.aload_n 0, 1) := by decide +kernel
theorem d_RangeTellerModel_read_36 : decode b_RangeTellerModel_read 36 = .ok (.getfield 159, 3) := by decide +kernel
theorem d_RangeTellerModel_read_39 : decode b_RangeTellerModel_read 39 = .ok (.ifCond .ne 14, 3) := by decide +kernel
theorem d_RangeTellerModel_read_42 : decode b_RangeTellerModel_read 42 = .ok (.aload_n 0, 1) := by decide +kernel
theorem d_RangeTellerModel_read_43 : decode b_RangeTellerModel_read 43 = .ok (.iload_n 1, 1) := by decide +kernel
theorem d_RangeTellerModel_read_44 : decode b_RangeTellerModel_read 44 = .ok (.invokevirtual 188, 3) := by decide +kernel
theorem d_RangeTellerModel_read_47 : decode b_RangeTellerModel_read 47 = .ok (.iinc 1 1, 3) := by decide +kernel
theorem d_RangeTellerModel_read_50 : decode b_RangeTellerModel_read 50 = .ok (.goto (-23), 3) := by decide +kernel
theorem d_RangeTellerModel_read_0 : decode b_RangeTellerModel_read 0 = .ok (.aload_n 0, 1) := by decide +kernel
theorem d_RangeTellerModel_read_1 : decode b_RangeTellerModel_read 1 = .ok (.iconst 0, 1) := by decide +kernel
theorem d_RangeTellerModel_read_2 : decode b_RangeTellerModel_read 2 = .ok (.putfield 156, 3) := by decide +kernel
theorem d_RangeTellerModel_read_5 : decode b_RangeTellerModel_read 5 = .ok (.aload_n 0, 1) := by decide +kernel
theorem d_RangeTellerModel_read_6 : decode b_RangeTellerModel_read 6 = .ok (.iconst 0, 1) := by decide +kernel
theorem d_RangeTellerModel_read_7 : decode b_RangeTellerModel_read 7 = .ok (.putfield 159, 3) := by decide +kernel
theorem d_RangeTellerModel_read_10 : decode b_RangeTellerModel_read 10 = .ok (.aload_n 0, 1) := by decide +kernel
theorem d_RangeTellerModel_read_11 : decode b_RangeTellerModel_read 11 = .ok (.iconst 0, 1) := by decide +kernel
theorem d_RangeTellerModel_read_12 : decode b_RangeTellerModel_read 12 = .ok (.putfield 171, 3) := by decide +kernel
theorem d_RangeTellerModel_read_15 : decode b_RangeTellerModel_read 15 = .ok (.aload_n 0, 1) := by decide +kernel
theorem d_RangeTellerModel_read_16 : decode b_RangeTellerModel_read 16 = .ok (.aload_n 0, 1) := by decide +kernel
theorem d_RangeTellerModel_read_17 : decode b_RangeTellerModel_read 17 = .ok (.iconst 1, 1) := by decide +kernel
theorem d_RangeTellerModel_read_18 : decode b_RangeTellerModel_read 18 = .ok (.iconst 3, 1) := by decide +kernel
theorem d_RangeTellerModel_read_19 : decode b_RangeTellerModel_read 19 = .ok (.invokevirtual 167, 3) := by decide +kernel
theorem d_RangeTellerModel_read_22 : decode b_RangeTellerModel_read 22 = .ok (.putfield 185, 3) := by decide +kernel
theorem d_RangeTellerModel_read_25 : decode b_RangeTellerModel_read 25 = .ok (.iconst 0, 1) := by decide +kernel
theorem d_RangeTellerModel_read_26 : decode b_RangeTellerModel_read 26 = .ok (.istore_n 1, 1) := by decide +kernel
theorem d_RangeTellerModel_drop_64 : decode b_RangeTellerModel_drop 64 = .ok (.iinc 3 1, 3) := by decide +kernel
theorem d_RangeTellerModel_drop_67 : decode b_RangeTellerModel_drop 67 = .ok (.goto (-63), 3) := by decide +kernel
theorem d_RangeTellerModel_drop_63 : decode b_RangeTellerModel_drop 63 = .ok (.istore_n 2, 1) := by decide +kernel
theorem d_RangeTellerModel_drop_4 : decode b_RangeTellerModel_drop 4 = .ok (.iload_n 3, 1) := by decide +kernel
theorem d_RangeTellerModel_drop_5 : decode b_RangeTellerModel_drop 5 = .ok (.iload_n 1, 1) := by decide +kernel
theorem d_RangeTellerModel_drop_6 : decode b_RangeTellerModel_drop 6 = .ok (.if_icmp .ge 64, 3) := by decide +kernel
theorem d_RangeTellerModel_drop_70 : decode b_RangeTellerModel_drop 70 = .ok (.iload_n 2, 1) := by decide +kernel
theorem d_RangeTellerModel_drop_71 : decode b_RangeTellerModel_drop 71 = .ok (.ireturn, 1) := by decide +kernel
theorem d_RangeTellerModel_drop_9 : decode b_RangeTellerModel_drop 9 = .ok (.iload_n 2, 1) := by decide +kernel
theorem d_RangeTellerModel_drop_10 : decode b_RangeTellerModel_drop 10 = .ok (.ifCond .eq 60, 3) := by decide +kernel
theorem d_RangeTellerModel_drop_13 : decode b_RangeTellerModel_drop 13 = .ok (.aload_n 0, 1) := by decide +kernel
theorem d_RangeTellerModel_drop_14 : decode b_RangeTellerModel_drop 14 = .ok (.getfield 191, 3) := by decide +kernel
theorem d_RangeTellerModel_drop_17 : decode b_RangeTellerModel_drop 17 = .ok (.aload_n 0, 1) := by decide +kernel
theorem d_RangeTellerModel_drop_18 : decode b_RangeTellerModel_drop 18 = .ok (.getfield 59, 3) := by decide +kernel
theorem d_RangeTellerModel_drop_21 : decode b_RangeTellerModel_drop 21 = .ok (.aload_n 0, 1) := by decide +kernel
theorem d_RangeTellerModel_drop_22 : decode b_RangeTellerModel_drop 22 = .ok (.getfield 174, 3) := by decide +kernel
theorem d_RangeTellerModel_drop_25 : decode b_RangeTellerModel_drop 25 = .ok (.iconst 1, 1) := by decide +kernel
theorem d_RangeTellerModel_drop_26 : decode b_RangeTellerModel_drop 26 = .ok (.isub, 1) := by decide +kernel
theorem d_RangeTellerModel_drop_27 : decode b_RangeTellerModel_drop 27 = .ok (.iaload, 1) := by decide +kernel
theorem d_RangeTellerModel_drop_28 : decode b_RangeTellerModel_drop 28 = .ok (.if_icmp .le 16, 3) := by decide +kernel
theorem d_RangeTellerModel_drop_44 : decode b_RangeTellerModel_drop 44 = .ok (.aload_n 0, 1) := by decide +kernel
theorem d_RangeTellerModel_drop_45 : decode b_RangeTellerModel_drop 45 = .ok (.getfield 65, 3) := by decide +kernel
theorem d_RangeTellerModel_drop_48 : decode b_RangeTellerModel_drop 48 = .ok (.aload_n 0, 1) := by decide +kernel
theorem d_RangeTellerModel_drop_49 : decode b_RangeTellerModel_drop 49 = .ok (.getfield 174, 3) := by decide +kernel
theorem d_RangeTellerModel_drop_52 : decode b_RangeTellerModel_drop 52 = .ok (.iconst 1, 1) := by decide +kernel
theorem d_RangeTellerModel_drop_53 : decode b_RangeTellerModel_drop 53 = .ok (.isub, 1) := by decide +kernel
theorem d_RangeTellerModel_drop_54 : decode b_RangeTellerModel_drop 54 = .ok (.baload, 1) := by decide +kernel
theorem d_RangeTellerModel_drop_55 : decode b_RangeTellerModel_drop 55 = .ok (.ifCond .ne 7, 3) := by decide +kernel
theorem d_RangeTellerModel_drop_62 : decode b_RangeTellerModel_drop 62 = .ok (.iconst 0, 1) := by decide +kernel
