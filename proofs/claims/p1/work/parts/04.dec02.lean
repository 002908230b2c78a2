theorem d_Ranges_over_27 : decode b_Ranges_over 27 = .ok (.invokestatic 71, 3) := by decide +kernel
theorem d_Ranges_over_30 : decode b_Ranges_over 30 = .ok (.idiv, 1) := by decide +kernel
theorem d_Ranges_over_31 : decode b_Ranges_over 31 = .ok (.invokestatic 57, 3) := by decide +kernel
theorem d_Ranges_over_34 : decode b_Ranges_over 34 = .ok (.ireturn, 1) := by decide +kernel
theorem d_Ranges_over_9 : decode b_Ranges_over 9 = .ok (.bipush (-3), 2) := by decide +kernel
theorem d_Ranges_over_11 : decode b_Ranges_over 11 = .ok (.ireturn, 1) := by decide +kernel
theorem d_Ranges_times_115 : decode b_Ranges_times 115 = .ok (.iinc 4 1, 3) := by decide +kernel
theorem d_Ranges_times_118 : decode b_Ranges_times 118 = .ok (.goto (-71), 3) := by decide +kernel
theorem d_Ranges_times_62 : decode b_Ranges_times 62 = .ok (.iload 5, 2) := by decide +kernel
theorem d_Ranges_times_64 : decode b_Ranges_times 64 = .ok (.iload_n 1, 1) := by decide +kernel
theorem d_Ranges_times_65 : decode b_Ranges_times 65 = .ok (.invokestatic 15, 3) := by decide +kernel
theorem d_Ranges_times_68 : decode b_Ranges_times 68 = .ok (.if_icmp .gt 33, 3) := by decide +kernel
theorem d_Ranges_times_101 : decode b_Ranges_times 101 = .ok (.iload_n 2, 1) := by decide +kernel
theorem d_Ranges_times_102 : decode b_Ranges_times 102 = .ok (.ifCond .ne 13, 3) := by decide +kernel
theorem d_Ranges_times_105 : decode b_Ranges_times 105 = .ok (.iload_n 3, 1) := by decide +kernel
theorem d_Ranges_times_106 : decode b_Ranges_times 106 = .ok (.bipush 63, 2) := by decide +kernel
theorem d_Ranges_times_108 : decode b_Ranges_times 108 = .ok (.if_icmp .ne 7, 3) := by decide +kernel
theorem d_Ranges_times_111 : decode b_Ranges_times 111 = .ok (.sipush 4032, 3) := by decide +kernel
theorem d_Ranges_times_114 : decode b_Ranges_times 114 = .ok (.ireturn, 1) := by decide +kernel
theorem d_Ranges_times_71 : decode b_Ranges_times 71 = .ok (.iload 4, 2) := by decide +kernel
theorem d_Ranges_times_73 : decode b_Ranges_times 73 = .ok (.iload 5, 2) := by decide +kernel
theorem d_Ranges_times_75 : decode b_Ranges_times 75 = .ok (.imul, 1) := by decide +kernel
theorem d_Ranges_times_76 : decode b_Ranges_times 76 = .ok (.bipush 64, 2) := by decide +kernel
theorem d_Ranges_times_78 : decode b_Ranges_times 78 = .ok (.irem, 1) := by decide +kernel
theorem d_Ranges_times_79 : decode b_Ranges_times 79 = .ok (.istore 6, 2) := by decide +kernel
theorem d_Ranges_times_81 : decode b_Ranges_times 81 = .ok (.iload_n 2, 1) := by decide +kernel
theorem d_Ranges_times_82 : decode b_Ranges_times 82 = .ok (.iload 6, 2) := by decide +kernel
theorem d_Ranges_times_84 : decode b_Ranges_times 84 = .ok (.invokestatic 68, 3) := by decide +kernel
theorem d_Ranges_times_87 : decode b_Ranges_times 87 = .ok (.istore_n 2, 1) := by decide +kernel
theorem d_Ranges_times_88 : decode b_Ranges_times 88 = .ok (.iload_n 3, 1) := by decide +kernel
theorem d_Ranges_times_89 : decode b_Ranges_times 89 = .ok (.iload 6, 2) := by decide +kernel
theorem d_Ranges_times_91 : decode b_Ranges_times 91 = .ok (.invokestatic 71, 3) := by decide +kernel
theorem d_Ranges_times_94 : decode b_Ranges_times 94 = .ok (.istore_n 3, 1) := by decide +kernel
theorem d_Ranges_times_95 : decode b_Ranges_times 95 = .ok (.iinc 5 1, 3) := by decide +kernel
theorem d_Ranges_times_98 : decode b_Ranges_times 98 = .ok (.goto (-36), 3) := by decide +kernel
theorem d_Ranges_times_47 : decode b_Ranges_times 47 = .ok (.iload 4, 2) := by decide +kernel
theorem d_Ranges_times_49 : decode b_Ranges_times 49 = .ok (.iload_n 0, 1) := by decide +kernel
theorem d_Ranges_times_50 : decode b_Ranges_times 50 = .ok (.invokestatic 15, 3) := by decide +kernel
theorem d_Ranges_times_53 : decode b_Ranges_times 53 = .ok (.if_icmp .gt 68, 3) := by decide +kernel
theorem d_Ranges_times_121 : decode b_Ranges_times 121 = .ok (.iload_n 2, 1) := by decide +kernel
theorem d_Ranges_times_122 : decode b_Ranges_times 122 = .ok (.iload_n 3, 1) := by decide +kernel
theorem d_Ranges_times_123 : decode b_Ranges_times 123 = .ok (.invokestatic 57, 3) := by decide +kernel
theorem d_Ranges_times_126 : decode b_Ranges_times 126 = .ok (.ireturn, 1) := by decide +kernel
theorem d_Ranges_times_56 : decode b_Ranges_times 56 = .ok (.iload_n 1, 1) := by decide +kernel
theorem d_Ranges_times_57 : decode b_Ranges_times 57 = .ok (.invokestatic 11, 3) := by decide +kernel
theorem d_Ranges_times_60 : decode b_Ranges_times 60 = .ok (.istore 5, 2) := by decide +kernel
theorem d_Ranges_times_0 : decode b_Ranges_times 0 = .ok (.iload_n 0, 1) := by decide +kernel
theorem d_Ranges_times_1 : decode b_Ranges_times 1 = .ok (.invokestatic 15, 3) := by decide +kernel
theorem d_Ranges_times_4 : decode b_Ranges_times 4 = .ok (.iload_n 1, 1) := by decide +kernel
theorem d_Ranges_times_5 : decode b_Ranges_times 5 = .ok (.invokestatic 15, 3) := by decide +kernel
theorem d_Ranges_times_8 : decode b_Ranges_times 8 = .ok (.imul, 1) := by decide +kernel
theorem d_Ranges_times_9 : decode b_Ranges_times 9 = .ok (.bipush 64, 2) := by decide +kernel
theorem d_Ranges_times_11 : decode b_Ranges_times 11 = .ok (.if_icmp .ge 25, 3) := by decide +kernel
theorem d_Ranges_times_36 : decode b_Ranges_times 36 = .ok (.bipush 63, 2) := by decide +kernel
theorem d_Ranges_times_38 : decode b_Ranges_times 38 = .ok (.istore_n 2, 1) := by decide +kernel
theorem d_Ranges_times_39 : decode b_Ranges_times 39 = .ok (.iconst 0, 1) := by decide +kernel
theorem d_Ranges_times_40 : decode b_Ranges_times 40 = .ok (.istore_n 3, 1) := by decide +kernel
theorem d_Ranges_times_41 : decode b_Ranges_times 41 = .ok (.iload_n 0, 1) := by decide +kernel
theorem d_Ranges_times_42 : decode b_Ranges_times 42 = .ok (.invokestatic 11, 3) := by decide +kernel
theorem d_Ranges_times_45 : decode b_Ranges_times 45 = .ok (.istore 4, 2) := by decide +kernel
theorem d_Ranges_times_14 : decode b_Ranges_times 14 = .ok (.iload_n 0, 1) := by decide +kernel
theorem d_Ranges_times_15 : decode b_Ranges_times 15 = .ok (.invokestatic 11, 3) := by decide +kernel
theorem d_Ranges_times_18 : decode b_Ranges_times 18 = .ok (.iload_n 1, 1) := by decide +kernel
theorem d_Ranges_times_19 : decode b_Ranges_times 19 = .ok (.invokestatic 11, 3) := by decide +kernel
theorem d_Ranges_times_22 : decode b_Ranges_times 22 = .ok (.imul, 1) := by decide +kernel
theorem d_Ranges_times_23 : decode b_Ranges_times 23 = .ok (.iload_n 0, 1) := by decide +kernel
theorem d_Ranges_times_24 : decode b_Ranges_times 24 = .ok (.invokestatic 15, 3) := by decide +kernel
theorem d_Ranges_times_27 : decode b_Ranges_times 27 = .ok (.iload_n 1, 1) := by decide +kernel
theorem d_Ranges_times_28 : decode b_Ranges_times 28 = .ok (.invokestatic 15, 3) := by decide +kernel
theorem d_Ranges_times_31 : decode b_Ranges_times 31 = .ok (.imul, 1) := by decide +kernel
theorem d_Ranges_times_32 : decode b_Ranges_times 32 = .ok (.invokestatic 57, 3) := by decide +kernel
theorem d_Ranges_times_35 : decode b_Ranges_times 35 = .ok (.ireturn, 1) := by decide +kernel
theorem d_Math_floorDiv_0 : decode b_Math_floorDiv 0 = .ok (.iload_n 0, 1) := by decide +kernel
theorem d_Math_floorDiv_1 : decode b_Math_floorDiv 1 = .ok (.iload_n 1, 1) := by decide +kernel
theorem d_Math_floorDiv_2 : decode b_Math_floorDiv 2 = .ok (.idiv, 1) := by decide +kernel
theorem d_Math_floorDiv_3 : decode b_Math_floorDiv 3 = .ok (.istore_n 2, 1) := by decide +kernel
theorem d_Math_floorDiv_4 : decode b_Math_floorDiv 4 = .ok (.iload_n 0, 1) := by decide +kernel
theorem d_Math_floorDiv_5 : decode b_Math_floorDiv 5 = .ok (.iload_n 1, 1) := by decide +kernel
theorem d_Math_floorDiv_6 : decode b_Math_floorDiv 6 = .ok (.ixor, 1) := by decide +kernel
theorem d_Math_floorDiv_7 : decode b_Math_floorDiv 7 = .ok (.ifCond .ge 14, 3) := by decide +kernel
theorem d_Math_floorDiv_21 : decode b_Math_floorDiv 21 = .ok (.iload_n 2, 1) := by decide +kernel
theorem d_Math_floorDiv_22 : decode b_Math_floorDiv 22 = .ok (.ireturn, 1) := by decide +kernel
theorem d_Math_floorDiv_10 : decode b_Math_floorDiv 10 = .ok (.iload_n 2, 1) := by decide +kernel
theorem d_Math_floorDiv_11 : decode b_Math_floorDiv 11 = .ok (.iload_n 1, 1) := by decide +kernel
theorem d_Math_floorDiv_12 : decode b_Math_floorDiv 12 = .ok (.imul, 1) := by decide +kernel
theorem d_Math_floorDiv_13 : decode b_Math_floorDiv 13 = .ok (.iload_n 0, 1) := by decide +kernel
theorem d_Math_floorDiv_14 : decode b_Math_floorDiv 14 = .ok (.if_icmp .eq 7, 3) := by decide +kernel
theorem d_Math_floorDiv_17 : decode b_Math_floorDiv 17 = .ok (.iload_n 2, 1) := by decide +kernel
theorem d_Math_floorDiv_18 : decode b_Math_floorDiv 18 = .ok (.iconst 1, 1) := by decide +kernel
theorem d_Math_floorDiv_19 : decode b_Math_floorDiv 19 = .ok (.isub, 1) := by decide +kernel
theorem d_Math_floorDiv_20 : decode b_Math_floorDiv 20 = .ok (.ireturn, 1) := by decide +kernel
theorem d_Math_floorMod_0 : decode b_Math_floorMod 0 = .ok (.iload_n 0, 1) := by decide +kernel
theorem d_Math_floorMod_1 : decode b_Math_floorMod 1 = .ok (.iload_n 1, 1) := by decide +kernel
theorem d_Math_floorMod_2 : decode b_Math_floorMod 2 = .ok (.irem, 1) := by decide +kernel
theorem d_Math_floorMod_3 : decode b_Math_floorMod 3 = .ok (.istore_n 2, 1) := by decide +kernel
theorem d_Math_floorMod_4 : decode b_Math_floorMod 4 = .ok (.iload_n 0, 1) := by decide +kernel
theorem d_Math_floorMod_5 : decode b_Math_floorMod 5 = .ok (.iload_n 1, 1) := by decide +kernel
theorem d_Math_floorMod_6 : decode b_Math_floorMod 6 = .ok (.ixor, 1) := by decide +kernel
theorem d_Math_floorMod_7 : decode b_Math_floorMod 7 = .ok (.ifCond .ge 11, 3) := by decide +kernel
theorem d_Math_floorMod_18 : decode b_Math_floorMod 18 = .ok (.iload_n 2, 1) := by decide +kernel
theorem d_Math_floorMod_19 : decode b_Math_floorMod 19 = .ok (.ireturn, 1) := by decide +kernel
theorem d_Math_floorMod_10 : decode b_Math_floorMod 10 = .ok (.iload_n 2, 1) := by decide +kernel
theorem d_Math_floorMod_11 : decode b_Math_floorMod 11 = .ok (.ifCond .eq 7, 3) := by decide +kernel
theorem d_Math_floorMod_14 : decode b_Math_floorMod 14 = .ok (.iload_n 2, 1) := by decide +kernel
theorem d_Math_floorMod_15 : decode b_Math_floorMod 15 = .ok (.iload_n 1, 1) := by decide +kernel
theorem d_Math_floorMod_16 : decode b_Math_floorMod 16 = .ok (.iadd, 1) := by decide +kernel
theorem d_Math_floorMod_17 : decode b_Math_floorMod 17 = .ok (.ireturn, 1) := by decide +kernel
theorem d_Ranges_wrapped_0 : decode b_Ranges_wrapped 0 = .ok (.iload_n 0, 1) := by decide +kernel
theorem d_Ranges_wrapped_1 : decode b_Ranges_wrapped 1 = .ok (.bipush 64, 2) := by decide +kernel
theorem d_Ranges_wrapped_3 : decode b_Ranges_wrapped 3 = .ok (.invokestatic 60, 3) := by decide +kernel
theorem d_Ranges_wrapped_6 : decode b_Ranges_wrapped 6 = .ok (.iload_n 1, 1) := by decide +kernel
theorem d_Ranges_wrapped_7 : decode b_Ranges_wrapped 7 = .ok (.bipush 64, 2) := by decide +kernel
theorem d_Ranges_wrapped_9 : decode b_Ranges_wrapped 9 = .ok (.invokestatic 60, 3) := by decide +kernel
theorem d_Ranges_wrapped_12 : decode b_Ranges_wrapped 12 = .ok (.if_icmp .eq 7, 3) := by decide +kernel
theorem d_Ranges_wrapped_19 : decode b_Ranges_wrapped 19 = .ok (.iload_n 0, 1) := by decide +kernel
theorem d_Ranges_wrapped_20 : decode b_Ranges_wrapped 20 = .ok (.bipush 64, 2) := by decide +kernel
theorem d_Ranges_wrapped_22 : decode b_Ranges_wrapped 22 = .ok (.invokestatic 65, 3) := by decide +kernel
theorem d_Ranges_wrapped_25 : decode b_Ranges_wrapped 25 = .ok (.iload_n 1, 1) := by decide +kernel
theorem d_Ranges_wrapped_26 : decode b_Ranges_wrapped 26 = .ok (.bipush 64, 2) := by decide +kernel
theorem d_Ranges_wrapped_28 : decode b_Ranges_wrapped 28 = .ok (.invokestatic 65, 3) := by decide +kernel
theorem d_Ranges_wrapped_31 : decode b_Ranges_wrapped 31 = .ok (.invokestatic 57, 3) := by decide +kernel
theorem d_Ranges_wrapped_34 : decode b_Ranges_wrapped 34 = .ok (.ireturn, 1) := by decide +kernel
theorem d_Ranges_wrapped_15 : decode b_Ranges_wrapped 15 = .ok (.sipush 4032, 3) := by decide +kernel
theorem d_Ranges_wrapped_18 : decode b_Ranges_wrapped 18 = .ok (.ireturn, 1) := by decide +kernel
theorem d_Ranges_truth_18 : decode b_Ranges_truth 18 = .ok (.invokestatic 57, 3) := by decide +kernel
theorem d_Ranges_truth_21 : decode b_Ranges_truth 21 = .ok (.ireturn, 1) := by decide +kernel
theorem d_Ranges_truth_9 : decode b_Ranges_truth 9 = .ok (.iload_n 0, 1) := by decide +kernel
theorem d_Ranges_truth_10 : decode b_Ranges_truth 10 = .ok (.ifCond .eq 7, 3) := by decide +kernel
theorem d_Ranges_truth_17 : decode b_Ranges_truth 17 = .ok (.iconst 0, 1) := by decide +kernel
theorem d_Ranges_truth_13 : decode b_Ranges_truth 13 = .ok (.iconst 1, 1) := by decide +kernel
theorem d_Ranges_truth_14 : decode b_Ranges_truth 14 = .ok (.goto 4, 3) := by decide +kernel
theorem d_Ranges_truth_0 : decode b_Ranges_truth 0 = .ok (.iload_n 1, 1) := by decide +kernel
theorem d_Ranges_truth_1 : decode b_Ranges_truth 1 = .ok (.ifCond .eq 7, 3) := by decide +kernel
theorem d_Ranges_truth_8 : decode b_Ranges_truth 8 = .ok (.iconst 1, 1) := by decide +kernel
theorem d_Ranges_truth_4 : decode b_Ranges_truth 4 = .ok (.iconst 0, 1) := by decide +kernel
theorem d_Ranges_truth_5 : decode b_Ranges_truth 5 = .ok (.goto 4, 3) := by decide +kernel
theorem d_Ranges_same_78 : decode b_Ranges_same 78 = .ok (.invokestatic 57, 3) := by decide +kernel
theorem d_Ranges_same_81 : decode b_Ranges_same 81 = .ok (.ireturn, 1) := by decide +kernel
theorem d_Ranges_same_69 : decode b_Ranges_same 69 = .ok (.iload_n 2, 1) := by decide +kernel
theorem d_Ranges_same_70 : decode b_Ranges_same 70 = .ok (.ifCond .eq 7, 3) := by decide +kernel
theorem d_Ranges_same_77 : decode b_Ranges_same 77 = .ok (.iconst 0, 1) := by decide +kernel
theorem d_Ranges_same_73 : decode b_Ranges_same 73 = .ok (.iconst 1, 1) := by decide +kernel
theorem d_Ranges_same_74 : decode b_Ranges_same 74 = .ok (.goto 4, 3) := by decide +kernel
theorem d_Ranges_same_68 : decode b_Ranges_same 68 = .ok (.iconst 0, 1) := by decide +kernel
theorem d_Ranges_same_55 : decode b_Ranges_same 55 = .ok (.istore_n 3, 1) := by decide +kernel
theorem d_Ranges_same_56 : decode b_Ranges_same 56 = .ok (.iload_n 2, 1) := by decide +kernel
theorem d_Ranges_same_57 : decode b_Ranges_same 57 = .ok (.ifCond .eq 11, 3) := by decide +kernel
theorem d_Ranges_same_60 : decode b_Ranges_same 60 = .ok (.iload_n 3, 1) := by decide +kernel
theorem d_Ranges_same_61 : decode b_Ranges_same 61 = .ok (.ifCond .eq 7, 3) := by decide +kernel
theorem d_Ranges_same_64 : decode b_Ranges_same 64 = .ok (.iconst 1, 1) := by decide +kernel
theorem d_Ranges_same_65 : decode b_Ranges_same 65 = .ok (.goto 4, 3) := by decide +kernel
theorem d_Ranges_same_54 : decode b_Ranges_same 54 = .ok (.iconst 0, 1) := by decide +kernel
theorem d_Ranges_same_27 : decode b_Ranges_same 27 = .ok (.istore_n 2, 1) := by decide +kernel
theorem d_Ranges_same_28 : decode b_Ranges_same 28 = .ok (.iload_n 0, 1) := by decide +kernel
theorem d_Ranges_same_29 : decode b_Ranges_same 29 = .ok (.invokestatic 11, 3) := by decide +kernel
theorem d_Ranges_same_32 : decode b_Ranges_same 32 = .ok (.iload_n 0, 1) := by decide +kernel
theorem d_Ranges_same_33 : decode b_Ranges_same 33 = .ok (.invokestatic 15, 3) := by decide +kernel
theorem d_Ranges_same_36 : decode b_Ranges_same 36 = .ok (.if_icmp .ne 18, 3) := by decide +kernel
theorem d_Ranges_same_39 : decode b_Ranges_same 39 = .ok (.iload_n 1, 1) := by decide +kernel
theorem d_Ranges_same_40 : decode b_Ranges_same 40 = .ok (.invokestatic 11, 3) := by decide +kernel
theorem d_Ranges_same_43 : decode b_Ranges_same 43 = .ok (.iload_n 1, 1) := by decide +kernel
theorem d_Ranges_same_44 : decode b_Ranges_same 44 = .ok (.invokestatic 15, 3) := by decide +kernel
theorem d_Ranges_same_47 : decode b_Ranges_same 47 = .ok (.if_icmp .ne 7, 3) := by decide +kernel
theorem d_Ranges_same_50 : decode b_Ranges_same 50 = .ok (.iconst 1, 1) := by decide +kernel
theorem d_Ranges_same_51 : decode b_Ranges_same 51 = .ok (.goto 4, 3) := by decide +kernel
theorem d_Ranges_same_26 : decode b_Ranges_same 26 = .ok (.iconst 0, 1) := by decide +kernel
theorem d_Ranges_same_0 : decode b_Ranges_same 0 = .ok (.iload_n 0, 1) := by decide +kernel
theorem d_Ranges_same_1 : decode b_Ranges_same 1 = .ok (.invokestatic 11, 3) := by decide +kernel
theorem d_Ranges_same_4 : decode b_Ranges_same 4 = .ok (.iload_n 1, 1) := by decide +kernel
theorem d_Ranges_same_5 : decode b_Ranges_same 5 = .ok (.invokestatic 15, 3) := by decide +kernel
theorem d_Ranges_same_8 : decode b_Ranges_same 8 = .ok (.if_icmp .gt 18, 3) := by decide +kernel
theorem d_Ranges_same_11 : decode b_Ranges_same 11 = .ok (.iload_n 1, 1) := by decide +kernel
theorem d_Ranges_same_12 : decode b_Ranges_same 12 = .ok (.invokestatic 11, 3) := by decide +kernel
theorem d_Ranges_same_15 : decode b_Ranges_same 15 = .ok (.iload_n 0, 1) := by decide +kernel
theorem d_Ranges_same_16 : decode b_Ranges_same 16 = .ok (.invokestatic 15, 3) := by decide +kernel
theorem d_Ranges_same_19 : decode b_Ranges_same 19 = .ok (.if_icmp .gt 7, 3) := by decide +kernel
theorem d_Ranges_same_22 : decode b_Ranges_same 22 = .ok (.iconst 1, 1) := by decide +kernel
theorem d_Ranges_same_23 : decode b_Ranges_same 23 = .ok (.goto 4, 3) := by decide +kernel
theorem d_Ranges_reckoned_82 : decode b_Ranges_reckoned 82 = .ok (.invokestatic 25, 3) := by decide +kernel
theorem d_Ranges_reckoned_85 : decode b_Ranges_reckoned 85 = .ok (.ireturn, 1) := by decide +kernel
theorem d_Ranges_reckoned_66 : decode b_Ranges_reckoned 66 = .ok (.iload_n 1, 1) := by decide +kernel
theorem d_Ranges_reckoned_67 : decode b_Ranges_reckoned 67 = .ok (.invokestatic 15, 3) := by decide +kernel
theorem d_Ranges_reckoned_70 : decode b_Ranges_reckoned 70 = .ok (.iload_n 2, 1) := by decide +kernel
theorem d_Ranges_reckoned_71 : decode b_Ranges_reckoned 71 = .ok (.invokestatic 11, 3) := by decide +kernel
theorem d_Ranges_reckoned_74 : decode b_Ranges_reckoned 74 = .ok (.if_icmp .lt 7, 3) := by decide +kernel
theorem d_Ranges_reckoned_81 : decode b_Ranges_reckoned 81 = .ok (.iconst 0, 1) := by decide +kernel
theorem d_Ranges_reckoned_77 : decode b_Ranges_reckoned 77 = .ok (.iconst 1, 1) := by decide +kernel
theorem d_Ranges_reckoned_78 : decode b_Ranges_reckoned 78 = .ok (.goto 4, 3) := by decide +kernel
theorem d_Ranges_reckoned_0 : decode b_Ranges_reckoned 0 = .ok (.iload_n 0, 1) := by decide +kernel
theorem d_Ranges_reckoned_1 : decode b_Ranges_reckoned 1 = .ok (.tableswitch 147 19 25 #[43, 49, 85, 107, 129, 135, 141], 43) := by decide +kernel
theorem d_Ranges_reckoned_44 : decode b_Ranges_reckoned 44 = .ok (.iload_n 1, 1) := by decide +kernel
theorem d_Ranges_reckoned_45 : decode b_Ranges_reckoned 45 = .ok (.iload_n 2, 1) := by decide +kernel
theorem d_Ranges_reckoned_46 : decode b_Ranges_reckoned 46 = .ok (.invokestatic 36, 3) := by decide +kernel
theorem d_Ranges_reckoned_49 : decode b_Ranges_reckoned 49 = .ok (.ireturn, 1) := by decide +kernel
theorem d_Ranges_reckoned_50 : decode b_Ranges_reckoned 50 = .ok (.iload_n 1, 1) := by decide +kernel
theorem d_Ranges_reckoned_51 : decode b_Ranges_reckoned 51 = .ok (.invokestatic 11, 3) := by decide +kernel
theorem d_Ranges_reckoned_54 : decode b_Ranges_reckoned 54 = .ok (.iload_n 2, 1) := by decide +kernel
theorem d_Ranges_reckoned_55 : decode b_Ranges_reckoned 55 = .ok (.invokestatic 15, 3) := by decide +kernel
theorem d_Ranges_reckoned_58 : decode b_Ranges_reckoned 58 = .ok (.if_icmp .ge 7, 3) := by decide +kernel
theorem d_Ranges_reckoned_65 : decode b_Ranges_reckoned 65 = .ok (.iconst 0, 1) := by decide +kernel
theorem d_Ranges_reckoned_61 : decode b_Ranges_reckoned 61 = .ok (.iconst 1, 1) := by decide +kernel
theorem d_Ranges_reckoned_62 : decode b_Ranges_reckoned 62 = .ok (.goto 4, 3) := by decide +kernel
theorem d_Ranges_reckoned_86 : decode b_Ranges_reckoned 86 = .ok (.iload_n 1, 1) := by decide +kernel
theorem d_Ranges_reckoned_87 : decode b_Ranges_reckoned 87 = .ok (.invokestatic 11, 3) := by decide +kernel
theorem d_Ranges_reckoned_90 : decode b_Ranges_reckoned 90 = .ok (.iload_n 2, 1) := by decide +kernel
theorem d_Ranges_reckoned_91 : decode b_Ranges_reckoned 91 = .ok (.invokestatic 11, 3) := by decide +kernel
theorem d_Ranges_reckoned_94 : decode b_Ranges_reckoned 94 = .ok (.iadd, 1) := by decide +kernel
theorem d_Ranges_reckoned_95 : decode b_Ranges_reckoned 95 = .ok (.iload_n 1, 1) := by decide +kernel
theorem d_Ranges_reckoned_96 : decode b_Ranges_reckoned 96 = .ok (.invokestatic 15, 3) := by decide +kernel
theorem d_Ranges_reckoned_99 : decode b_Ranges_reckoned 99 = .ok (.iload_n 2, 1) := by decide +kernel
theorem d_Ranges_reckoned_100 : decode b_Ranges_reckoned 100 = .ok (.invokestatic 15, 3) := by decide +kernel
theorem d_Ranges_reckoned_103 : decode b_Ranges_reckoned 103 = .ok (.iadd, 1) := by decide +kernel
theorem d_Ranges_reckoned_104 : decode b_Ranges_reckoned 104 = .ok (.invokestatic 39, 3) := by decide +kernel
theorem d_Ranges_reckoned_107 : decode b_Ranges_reckoned 107 = .ok (.ireturn, 1) := by decide +kernel
theorem d_Ranges_reckoned_108 : decode b_Ranges_reckoned 108 = .ok (.iload_n 1, 1) := by decide +kernel
theorem d_Ranges_reckoned_109 : decode b_Ranges_reckoned 109 = .ok (.invokestatic 11, 3) := by decide +kernel
theorem d_Ranges_reckoned_112 : decode b_Ranges_reckoned 112 = .ok (.iload_n 2, 1) := by decide +kernel
theorem d_Ranges_reckoned_113 : decode b_Ranges_reckoned 113 = .ok (.invokestatic 15, 3) := by decide +kernel
theorem d_Ranges_reckoned_116 : decode b_Ranges_reckoned 116 = .ok (.isub, 1) := by decide +kernel
theorem d_Ranges_reckoned_117 : decode b_Ranges_reckoned 117 = .ok (.iload_n 1, 1) := by decide +kernel
theorem d_Ranges_reckoned_118 : decode b_Ranges_reckoned 118 = .ok (.invokestatic 15, 3) := by decide +kernel
theorem d_Ranges_reckoned_121 : decode b_Ranges_reckoned 121 = .ok (.iload_n 2, 1) := by decide +kernel
theorem d_Ranges_reckoned_122 : decode b_Ranges_reckoned 122 = .ok (.invokestatic 11, 3) := by decide +kernel
theorem d_Ranges_reckoned_125 : decode b_Ranges_reckoned 125 = .ok (.isub, 1) := by decide +kernel
theorem d_Ranges_reckoned_126 : decode b_Ranges_reckoned 126 = .ok (.invokestatic 39, 3) := by decide +kernel
theorem d_Ranges_reckoned_129 : decode b_Ranges_reckoned 129 = .ok (.ireturn, 1) := by decide +kernel
theorem d_Ranges_reckoned_130 : decode b_Ranges_reckoned 130 = .ok (.iload_n 1, 1) := by decide +kernel
theorem d_Ranges_reckoned_131 : decode b_Ranges_reckoned 131 = .ok (.iload_n 2, 1) := by decide +kernel
theorem d_Ranges_reckoned_132 : decode b_Ranges_reckoned 132 = .ok (.invokestatic 42, 3) := by decide +kernel
theorem d_Ranges_reckoned_135 : decode b_Ranges_reckoned 135 = .ok (.ireturn, 1) := by decide +kernel
theorem d_Ranges_reckoned_136 : decode b_Ranges_reckoned 136 = .ok (.iload_n 1, 1) := by decide +kernel
theorem d_Ranges_reckoned_137 : decode b_Ranges_reckoned 137 = .ok (.iload_n 2, 1) := by decide +kernel
theorem d_Ranges_reckoned_138 : decode b_Ranges_reckoned 138 = .ok (.invokestatic 45, 3) := by decide +kernel
theorem d_Ranges_reckoned_141 : decode b_Ranges_reckoned 141 = .ok (.ireturn, 1) := by decide +kernel
theorem d_Ranges_reckoned_142 : decode b_Ranges_reckoned 142 = .ok (.iload_n 1, 1) := by decide +kernel
theorem d_Ranges_reckoned_143 : decode b_Ranges_reckoned 143 = .ok (.iload_n 2, 1) := by decide +kernel
theorem d_Ranges_reckoned_144 : decode b_Ranges_reckoned 144 = .ok (.invokestatic 48, 3) := by decide +kernel
theorem d_Ranges_reckoned_147 : decode b_Ranges_reckoned 147 = .ok (.ireturn, 1) := by decide +kernel
theorem d_Ranges_reckoned_148 : decode b_Ranges_reckoned 148 = .ok (.iload_n 1, 1) := by decide +kernel
theorem d_Ranges_reckoned_149 : decode b_Ranges_reckoned 149 = .ok (.iload_n 2, 1) := by decide +kernel
theorem d_Ranges_reckoned_150 : decode b_Ranges_reckoned 150 = .ok (.invokestatic 51, 3) := by decide +kernel
theorem d_Ranges_reckoned_153 : decode b_Ranges_reckoned 153 = .ok (.iload_n 1, 1) := by decide +kernel
theorem d_Ranges_reckoned_154 : decode b_Ranges_reckoned 154 = .ok (.iload_n 2, 1) := by decide +kernel
theorem d_Ranges_reckoned_155 : decode b_Ranges_reckoned 155 = .ok (.invokestatic 54, 3) := by decide +kernel
theorem d_Ranges_reckoned_158 : decode b_Ranges_reckoned 158 = .ok (.invokestatic 57, 3) := by decide +kernel
theorem d_Ranges_reckoned_161 : decode b_Ranges_reckoned 161 = .ok (.ireturn, 1) := by decide +kernel
theorem d_Ranges_taintOf_0 : decode b_Ranges_taintOf 0 = .ok (.iload_n 0, 1) := by decide +kernel
theorem d_Ranges_taintOf_1 : decode b_Ranges_taintOf 1 = .ok (.sipush 4096, 3) := by decide +kernel
theorem d_Ranges_taintOf_4 : decode b_Ranges_taintOf 4 = .ok (.iand, 1) := by decide +kernel
theorem d_Ranges_taintOf_5 : decode b_Ranges_taintOf 5 = .ok (.ireturn, 1) := by decide +kernel
theorem d_Foreteller_push_0 : decode b_Foreteller_push 0 = .ok (.aload_n 0, 1) := by decide +kernel
theorem d_Foreteller_push_1 : decode b_Foreteller_push 1 = .ok (.getfield 40, 3) := by decide +kernel
theorem d_Foreteller_push_4 : decode b_Foreteller_push 4 = .ok (.aload_n 0, 1) := by decide +kernel
theorem d_Foreteller_push_5 : decode b_Foreteller_push 5 = .ok (.getfield 109, 3) := by decide +kernel
theorem d_Foreteller_push_8 : decode b_Foreteller_push 8 = .ok (.iload_n 1, 1) := by decide +kernel
theorem d_Foreteller_push_9 : decode b_Foreteller_push 9 = .ok (.iastore, 1) := by decide +kernel
theorem d_Foreteller_push_10 : decode b_Foreteller_push 10 = .ok (.aload_n 0, 1) := by decide +kernel
theorem d_Foreteller_push_11 : decode b_Foreteller_push 11 = .ok (.dup, 1) := by decide +kernel
theorem d_Foreteller_push_12 : decode b_Foreteller_push 12 = .ok (.getfield 109, 3) := by decide +kernel
theorem d_Foreteller_push_15 : decode b_Foreteller_push 15 = .ok (.iconst 1, 1) := by decide +kernel
theorem d_Foreteller_push_16 : decode b_Foreteller_push 16 = .ok (.iadd, 1) := by decide +kernel
theorem d_Foreteller_push_17 : decode b_Foreteller_push 17 = .ok (.putfield 109, 3) := by decide +kernel
theorem d_Foreteller_push_20 : decode b_Foreteller_push 20 = .ok (.return_, 1) := by decide +kernel
theorem d_Foreteller_reckon_0 : decode b_Foreteller_reckon 0 = .ok (.aload_n 0, 1) := by decide +kernel
theorem d_Foreteller_reckon_1 : decode b_Foreteller_reckon 1 = .ok (.invokevirtual 137, 3) := by decide +kernel
theorem d_Foreteller_reckon_4 : decode b_Foreteller_reckon 4 = .ok (.istore_n 2, 1) := by decide +kernel
theorem d_Foreteller_reckon_5 : decode b_Foreteller_reckon 5 = .ok (.aload_n 0, 1) := by decide +kernel
theorem d_Foreteller_reckon_6 : decode b_Foreteller_reckon 6 = .ok (.invokevirtual 137, 3) := by decide +kernel
theorem d_Foreteller_reckon_9 : decode b_Foreteller_reckon 9 = .ok (.istore_n 3, 1) := by decide +kernel
theorem d_Foreteller_reckon_10 : decode b_Foreteller_reckon 10 = .ok (.iload_n 1, 1) := by decide +kernel
theorem d_Foreteller_reckon_11 : decode b_Foreteller_reckon 11 = .ok (.iload_n 3, 1) := by decide +kernel
theorem d_Foreteller_reckon_12 : decode b_Foreteller_reckon 12 = .ok (.iload_n 2, 1) := by decide +kernel
theorem d_Foreteller_reckon_13 : decode b_Foreteller_reckon 13 = .ok (.invokestatic 203, 3) := by decide +kernel
theorem d_Foreteller_reckon_16 : decode b_Foreteller_reckon 16 = .ok (.istore 4, 2) := by decide +kernel
theorem d_Foreteller_reckon_18 : decode b_Foreteller_reckon 18 = .ok (.iload 4, 2) := by decide +kernel
theorem d_Foreteller_reckon_20 : decode b_Foreteller_reckon 20 = .ok (.bipush (-3), 2) := by decide +kernel
theorem d_Foreteller_reckon_22 : decode b_Foreteller_reckon 22 = .ok (.if_icmp .ne 5, 3) := by decide +kernel
theorem d_Foreteller_reckon_27 : decode b_Foreteller_reckon 27 = .ok (.aload_n 0, 1) := by decide +kernel
theorem d_Foreteller_reckon_28 : decode b_Foreteller_reckon 28 = .ok (.iload 4, 2) := by decide +kernel
theorem d_Foreteller_reckon_30 : decode b_Foreteller_reckon 30 = .ok (.iload_n 3, 1) := by decide +kernel
theorem d_Foreteller_reckon_31 : decode b_Foreteller_reckon 31 = .ok (.iload_n 2, 1) := by decide +kernel
theorem d_Foreteller_reckon_32 : decode b_Foreteller_reckon 32 = .ok (.ior, 1) := by decide +kernel
theorem d_Foreteller_reckon_33 : decode b_Foreteller_reckon 33 = .ok (.invokestatic 97, 3) := by decide +kernel
theorem d_Foreteller_reckon_36 : decode b_Foreteller_reckon 36 = .ok (.ior, 1) := by decide +kernel
theorem d_Foreteller_reckon_37 : decode b_Foreteller_reckon 37 = .ok (.invokevirtual 168, 3) := by decide +kernel
theorem d_Foreteller_reckon_40 : decode b_Foreteller_reckon 40 = .ok (.iconst 1, 1) := by decide +kernel
theorem d_Foreteller_reckon_41 : decode b_Foreteller_reckon 41 = .ok (.ireturn, 1) := by decide +kernel
theorem d_Foreteller_reckon_25 : decode b_Foreteller_reckon 25 = .ok (.iconst 0, 1) := by decide +kernel
theorem d_Foreteller_reckon_26 : decode b_Foreteller_reckon 26 = .ok (.ireturn, 1) := by decide +kernel
theorem d_Ranges_canBeZero_0 : decode b_Ranges_canBeZero 0 = .ok (.iload_n 0, 1) := by decide +kernel
theorem d_Ranges_canBeZero_1 : decode b_Ranges_canBeZero 1 = .ok (.invokestatic 11, 3) := by decide +kernel
theorem d_Ranges_canBeZero_4 : decode b_Ranges_canBeZero 4 = .ok (.ifCond .ne 7, 3) := by decide +kernel
theorem d_Ranges_canBeZero_11 : decode b_Ranges_canBeZero 11 = .ok (.iconst 0, 1) := by decide +kernel
theorem d_Ranges_canBeZero_12 : decode b_Ranges_canBeZero 12 = .ok (.ireturn, 1) := by decide +kernel
theorem d_Ranges_canBeZero_7 : decode b_Ranges_canBeZero 7 = .ok (.iconst 1, 1) := by decide +kernel
theorem d_Ranges_canBeZero_8 : decode b_Ranges_canBeZero 8 = .ok (.goto 4, 3) := by decide +kernel
theorem d_Ranges_canBeOther_0 : decode b_Ranges_canBeOther 0 = .ok (.iload_n 0, 1) := by decide +kernel
theorem d_Ranges_canBeOther_1 : decode b_Ranges_canBeOther 1 = .ok (.invokestatic 15, 3) := by decide +kernel
theorem d_Ranges_canBeOther_4 : decode b_Ranges_canBeOther 4 = .ok (.ifCond .eq 7, 3) := by decide +kernel
theorem d_Ranges_canBeOther_11 : decode b_Ranges_canBeOther 11 = .ok (.iconst 0, 1) := by decide +kernel
theorem d_Ranges_canBeOther_12 : decode b_Ranges_canBeOther 12 = .ok (.ireturn, 1) := by decide +kernel
theorem d_Ranges_canBeOther_7 : decode b_Ranges_canBeOther 7 = .ok (.iconst 1, 1) := by decide +kernel
theorem d_Ranges_canBeOther_8 : decode b_Ranges_canBeOther 8 = .ok (.goto 4, 3) := by decide +kernel
theorem d_Ranges_not_0 : decode b_Ranges_not 0 = .ok (.iload_n 0, 1) := by decide +kernel
theorem d_Ranges_not_1 : decode b_Ranges_not 1 = .ok (.invokestatic 18, 3) := by decide +kernel
theorem d_Ranges_not_4 : decode b_Ranges_not 4 = .ok (.iload_n 0, 1) := by decide +kernel
theorem d_Ranges_not_5 : decode b_Ranges_not 5 = .ok (.invokestatic 22, 3) := by decide +kernel
theorem d_Ranges_not_8 : decode b_Ranges_not 8 = .ok (.invokestatic 25, 3) := by decide +kernel
theorem d_Ranges_not_11 : decode b_Ranges_not 11 = .ok (.iload_n 0, 1) := by decide +kernel
theorem d_Ranges_not_12 : decode b_Ranges_not 12 = .ok (.invokestatic 29, 3) := by decide +kernel
theorem d_Ranges_not_15 : decode b_Ranges_not 15 = .ok (.ior, 1) := by decide +kernel
theorem d_Ranges_not_16 : decode b_Ranges_not 16 = .ok (.ireturn, 1) := by decide +kernel
theorem d_Foreteller_wake_42 : decode b_Foreteller_wake 42 = .ok (.iinc 2 1, 3) := by decide +kernel
theorem d_Foreteller_wake_45 : decode b_Foreteller_wake 45 = .ok (.goto (-43), 3) := by decide +kernel
theorem d_Foreteller_wake_2 : decode b_Foreteller_wake 2 = .ok (.iload_n 2, 1) := by decide +kernel
theorem d_Foreteller_wake_3 : decode b_Foreteller_wake 3 = .ok (.aload_n 0, 1) := by decide +kernel
theorem d_Foreteller_wake_4 : decode b_Foreteller_wake 4 = .ok (.getfield 46, 3) := by decide +kernel
theorem d_Foreteller_wake_7 : decode b_Foreteller_wake 7 = .ok (.getfield 60, 3) := by decide +kernel
theorem d_Foreteller_wake_10 : decode b_Foreteller_wake 10 = .ok (.if_icmp .ge 38, 3) := by decide +kernel
theorem d_Foreteller_wake_48 : decode b_Foreteller_wake 48 = .ok (.return_, 1) := by decide +kernel
theorem d_Foreteller_wake_13 : decode b_Foreteller_wake 13 = .ok (.aload_n 0, 1) := by decide +kernel
theorem d_Foreteller_wake_14 : decode b_Foreteller_wake 14 = .ok (.getfield 9, 3) := by decide +kernel
theorem d_Foreteller_wake_17 : decode b_Foreteller_wake 17 = .ok (.iload_n 2, 1) := by decide +kernel
theorem d_Foreteller_wake_18 : decode b_Foreteller_wake 18 = .ok (.baload, 1) := by decide +kernel
theorem d_Foreteller_wake_19 : decode b_Foreteller_wake 19 = .ok (.ifCond .eq 23, 3) := by decide +kernel
theorem d_Foreteller_wake_22 : decode b_Foreteller_wake 22 = .ok (.aload_n 0, 1) := by decide +kernel
theorem d_Foreteller_wake_23 : decode b_Foreteller_wake 23 = .ok (.getfield 46, 3) := by decide +kernel
theorem d_Foreteller_wake_26 : decode b_Foreteller_wake 26 = .ok (.getfield 79, 3) := by decide +kernel
theorem d_Foreteller_wake_29 : decode b_Foreteller_wake 29 = .ok (.iload_n 2, 1) := by decide +kernel
theorem d_Foreteller_wake_30 : decode b_Foreteller_wake 30 = .ok (.iaload, 1) := by decide +kernel
theorem d_Foreteller_wake_31 : decode b_Foreteller_wake 31 = .ok (.iload_n 1, 1) := by decide +kernel
theorem d_Foreteller_wake_32 : decode b_Foreteller_wake 32 = .ok (.if_icmp .ne 10, 3) := by decide +kernel
theorem d_Foreteller_wake_35 : decode b_Foreteller_wake 35 = .ok (.aload_n 0, 1) := by decide +kernel
theorem d_Foreteller_wake_36 : decode b_Foreteller_wake 36 = .ok (.getfield 28, 3) := by decide +kernel
theorem d_Foreteller_wake_39 : decode b_Foreteller_wake 39 = .ok (.iload_n 2, 1) := by decide +kernel
theorem d_Foreteller_wake_40 : decode b_Foreteller_wake 40 = .ok (.iconst 1, 1) := by decide +kernel
theorem d_Foreteller_wake_41 : decode b_Foreteller_wake 41 = .ok (.bastore, 1) := by decide +kernel
theorem d_Foreteller_wake_0 : decode b_Foreteller_wake 0 = .ok (.iconst 0, 1) := by decide +kernel
theorem d_Foreteller_wake_1 : decode b_Foreteller_wake 1 = .ok (.istore_n 2, 1) := by decide +kernel
theorem d_Foreteller_store_113 : decode b_Foreteller_store 113 = .ok (.iload 4, 2) := by decide +kernel
theorem d_Foreteller_store_115 : decode b_Foreteller_store 115 = .ok (.iload 5, 2) := by decide +kernel
theorem d_Foreteller_store_117 : decode b_Foreteller_store 117 = .ok (.if_icmp .gt 7, 3) := by decide +kernel
theorem d_Foreteller_store_124 : decode b_Foreteller_store 124 = .ok (.iconst 0, 1) := by decide +kernel
theorem d_Foreteller_store_125 : decode b_Foreteller_store 125 = .ok (.ireturn, 1) := by decide +kernel
theorem d_Foreteller_store_120 : decode b_Foreteller_store 120 = .ok (.iconst 1, 1) := by decide +kernel
theorem d_Foreteller_store_121 : decode b_Foreteller_store 121 = .ok (.goto 4, 3) := by decide +kernel
theorem d_Foreteller_store_85 : decode b_Foreteller_store 85 = .ok (.istore 6, 2) := by decide +kernel
theorem d_Foreteller_store_87 : decode b_Foreteller_store 87 = .ok (.aload_n 0, 1) := by decide +kernel
theorem d_Foreteller_store_88 : decode b_Foreteller_store 88 = .ok (.getfield 19, 3) := by decide +kernel
theorem d_Foreteller_store_91 : decode b_Foreteller_store 91 = .ok (.iload 7, 2) := by decide +kernel
theorem d_Foreteller_store_93 : decode b_Foreteller_store 93 = .ok (.iload 8, 2) := by decide +kernel
theorem d_Foreteller_store_95 : decode b_Foreteller_store 95 = .ok (.iastore, 1) := by decide +kernel
theorem d_Foreteller_store_96 : decode b_Foreteller_store 96 = .ok (.iinc 7 1, 3) := by decide +kernel
theorem d_Foreteller_store_99 : decode b_Foreteller_store 99 = .ok (.goto (-61), 3) := by decide +kernel
theorem d_Foreteller_store_80 : decode b_Foreteller_store 80 = .ok (.iconst 1, 1) := by decide +kernel
theorem d_Foreteller_store_81 : decode b_Foreteller_store 81 = .ok (.goto 4, 3) := by decide +kernel
theorem d_Foreteller_store_38 : decode b_Foreteller_store 38 = .ok (.iload 7, 2) := by decide +kernel
theorem d_Foreteller_store_40 : decode b_Foreteller_store 40 = .ok (.iload 5, 2) := by decide +kernel
theorem d_Foreteller_store_42 : decode b_Foreteller_store 42 = .ok (.if_icmp .gt 60, 3) := by decide +kernel
theorem d_Foreteller_store_102 : decode b_Foreteller_store 102 = .ok (.iload 6, 2) := by decide +kernel
theorem d_Foreteller_store_104 : decode b_Foreteller_store 104 = .ok (.ifCond .eq 9, 3) := by decide +kernel
theorem d_Foreteller_store_107 : decode b_Foreteller_store 107 = .ok (.aload_n 0, 1) := by decide +kernel
theorem d_Foreteller_store_108 : decode b_Foreteller_store 108 = .ok (.bipush 15, 2) := by decide +kernel
theorem d_Foreteller_store_110 : decode b_Foreteller_store 110 = .ok (.invokevirtual 160, 3) := by decide +kernel
theorem d_Foreteller_store_45 : decode b_Foreteller_store 45 = .ok (.aload_n 0, 1) := by decide +kernel
theorem d_Foreteller_store_46 : decode b_Foreteller_store 46 = .ok (.getfield 19, 3) := by decide +kernel
theorem d_Foreteller_store_49 : decode b_Foreteller_store 49 = .ok (.iload 7, 2) := by decide +kernel
theorem d_Foreteller_store_51 : decode b_Foreteller_store 51 = .ok (.iaload, 1) := by decide +kernel
theorem d_Foreteller_store_52 : decode b_Foreteller_store 52 = .ok (.iload_n 2, 1) := by decide +kernel
theorem d_Foreteller_store_53 : decode b_Foreteller_store 53 = .ok (.iload_n 3, 1) := by decide +kernel
theorem d_Foreteller_store_54 : decode b_Foreteller_store 54 = .ok (.invokestatic 97, 3) := by decide +kernel
theorem d_Foreteller_store_57 : decode b_Foreteller_store 57 = .ok (.ior, 1) := by decide +kernel
theorem d_Foreteller_store_58 : decode b_Foreteller_store 58 = .ok (.invokestatic 157, 3) := by decide +kernel
theorem d_Foreteller_store_61 : decode b_Foreteller_store 61 = .ok (.istore 8, 2) := by decide +kernel
theorem d_Foreteller_store_63 : decode b_Foreteller_store 63 = .ok (.iload 6, 2) := by decide +kernel
theorem d_Foreteller_store_65 : decode b_Foreteller_store 65 = .ok (.ifCond .ne 15, 3) := by decide +kernel
theorem d_Foreteller_store_68 : decode b_Foreteller_store 68 = .ok (.iload 8, 2) := by decide +kernel
theorem d_Foreteller_store_70 : decode b_Foreteller_store 70 = .ok (.aload_n 0, 1) := by decide +kernel
theorem d_Foreteller_store_71 : decode b_Foreteller_store 71 = .ok (.getfield 19, 3) := by decide +kernel
theorem d_Foreteller_store_74 : decode b_Foreteller_store 74 = .ok (.iload 7, 2) := by decide +kernel
theorem d_Foreteller_store_76 : decode b_Foreteller_store 76 = .ok (.iaload, 1) := by decide +kernel
theorem d_Foreteller_store_77 : decode b_Foreteller_store 77 = .ok (.if_icmp .eq 7, 3) := by decide +kernel
theorem d_Foreteller_store_84 : decode b_Foreteller_store 84 = .ok (.iconst 0, 1) := by decide +kernel
theorem d_Foreteller_store_0 : decode b_Foreteller_store 0 = .ok (.aload_n 0, 1) := by decide +kernel
theorem d_Foreteller_store_1 : decode b_Foreteller_store 1 = .ok (.invokevirtual 137, 3) := by decide +kernel
theorem d_Foreteller_store_4 : decode b_Foreteller_store 4 = .ok (.istore_n 2, 1) := by decide +kernel
theorem d_Foreteller_store_5 : decode b_Foreteller_store 5 = .ok (.aload_n 0, 1) := by decide +kernel
theorem d_Foreteller_store_6 : decode b_Foreteller_store 6 = .ok (.invokevirtual 137, 3) := by decide +kernel
theorem d_Foreteller_store_9 : decode b_Foreteller_store 9 = .ok (.istore_n 3, 1) := by decide +kernel
theorem d_Foreteller_store_10 : decode b_Foreteller_store 10 = .ok (.iload_n 3, 1) := by decide +kernel
theorem d_Foreteller_store_11 : decode b_Foreteller_store 11 = .ok (.invokestatic 200, 3) := by decide +kernel
theorem d_Foreteller_store_14 : decode b_Foreteller_store 14 = .ok (.iload_n 1, 1) := by decide +kernel
theorem d_Foreteller_store_15 : decode b_Foreteller_store 15 = .ok (.iadd, 1) := by decide +kernel
theorem d_Foreteller_store_16 : decode b_Foreteller_store 16 = .ok (.istore 4, 2) := by decide +kernel
theorem d_Foreteller_store_18 : decode b_Foreteller_store 18 = .ok (.iload_n 3, 1) := by decide +kernel
theorem d_Foreteller_store_19 : decode b_Foreteller_store 19 = .ok (.invokestatic 100, 3) := by decide +kernel
theorem d_Foreteller_store_22 : decode b_Foreteller_store 22 = .ok (.iload_n 1, 1) := by decide +kernel
theorem d_Foreteller_store_23 : decode b_Foreteller_store 23 = .ok (.iadd, 1) := by decide +kernel
theorem d_Foreteller_store_24 : decode b_Foreteller_store 24 = .ok (.bipush 15, 2) := by decide +kernel
theorem d_Foreteller_store_26 : decode b_Foreteller_store 26 = .ok (.invokestatic 195, 3) := by decide +kernel
theorem d_Foreteller_store_29 : decode b_Foreteller_store 29 = .ok (.istore 5, 2) := by decide +kernel
theorem d_Foreteller_store_31 : decode b_Foreteller_store 31 = .ok (.iconst 0, 1) := by decide +kernel
theorem d_Foreteller_store_32 : decode b_Foreteller_store 32 = .ok (.istore 6, 2) := by decide +kernel
theorem d_Foreteller_store_34 : decode b_Foreteller_store 34 = .ok (.iload 4, 2) := by decide +kernel
theorem d_Foreteller_store_36 : decode b_Foreteller_store 36 = .ok (.istore 7, 2) := by decide +kernel
theorem d_Foreteller_fetch_29 : decode b_Foreteller_fetch 29 = .ok (.iload 5, 2) := by decide +kernel
theorem d_Foreteller_fetch_31 : decode b_Foreteller_fetch 31 = .ok (.iload_n 3, 1) := by decide +kernel
theorem d_Foreteller_fetch_32 : decode b_Foreteller_fetch 32 = .ok (.if_icmp .gt 23, 3) := by decide +kernel
theorem d_Foreteller_fetch_55 : decode b_Foreteller_fetch 55 = .ok (.iload 4, 2) := by decide +kernel
theorem d_Foreteller_fetch_57 : decode b_Foreteller_fetch 57 = .ok (.bipush (-3), 2) := by decide +kernel
theorem d_Foreteller_fetch_59 : decode b_Foreteller_fetch 59 = .ok (.if_icmp .ne 5, 3) := by decide +kernel
theorem d_Foreteller_fetch_64 : decode b_Foreteller_fetch 64 = .ok (.aload_n 0, 1) := by decide +kernel
theorem d_Foreteller_fetch_65 : decode b_Foreteller_fetch 65 = .ok (.iload 4, 2) := by decide +kernel
theorem d_Foreteller_fetch_67 : decode b_Foreteller_fetch 67 = .ok (.iload_n 2, 1) := by decide +kernel
theorem d_Foreteller_fetch_68 : decode b_Foreteller_fetch 68 = .ok (.invokestatic 97, 3) := by decide +kernel
theorem d_Foreteller_fetch_71 : decode b_Foreteller_fetch 71 = .ok (.ior, 1) := by decide +kernel
theorem d_Foreteller_fetch_72 : decode b_Foreteller_fetch 72 = .ok (.invokevirtual 168, 3) := by decide +kernel
theorem d_Foreteller_fetch_75 : decode b_Foreteller_fetch 75 = .ok (.iconst 1, 1) := by decide +kernel
theorem d_Foreteller_fetch_76 : decode b_Foreteller_fetch 76 = .ok (.ireturn, 1) := by decide +kernel
theorem d_Foreteller_fetch_62 : decode b_Foreteller_fetch 62 = .ok (.iconst 0, 1) := by decide +kernel
theorem d_Foreteller_fetch_63 : decode b_Foreteller_fetch 63 = .ok (.ireturn, 1) := by decide +kernel
theorem d_Foreteller_fetch_35 : decode b_Foreteller_fetch 35 = .ok (.iload 4, 2) := by decide +kernel
theorem d_Foreteller_fetch_37 : decode b_Foreteller_fetch 37 = .ok (.aload_n 0, 1) := by decide +kernel
theorem d_Foreteller_fetch_38 : decode b_Foreteller_fetch 38 = .ok (.getfield 19, 3) := by decide +kernel
theorem d_Foreteller_fetch_41 : decode b_Foreteller_fetch 41 = .ok (.iload 5, 2) := by decide +kernel
theorem d_Foreteller_fetch_43 : decode b_Foreteller_fetch 43 = .ok (.iaload, 1) := by decide +kernel
theorem d_Foreteller_fetch_44 : decode b_Foreteller_fetch 44 = .ok (.invokestatic 157, 3) := by decide +kernel
theorem d_Foreteller_fetch_47 : decode b_Foreteller_fetch 47 = .ok (.istore 4, 2) := by decide +kernel
theorem d_Foreteller_fetch_49 : decode b_Foreteller_fetch 49 = .ok (.iinc 5 1, 3) := by decide +kernel
theorem d_Foreteller_fetch_52 : decode b_Foreteller_fetch 52 = .ok (.goto (-23), 3) := by decide +kernel
theorem d_Foreteller_fetch_0 : decode b_Foreteller_fetch 0 = .ok (.aload_n 0, 1) := by decide +kernel
theorem d_Foreteller_fetch_1 : decode b_Foreteller_fetch 1 = .ok (.invokevirtual 137, 3) := by decide +kernel
theorem d_Foreteller_fetch_4 : decode b_Foreteller_fetch 4 = .ok (.istore_n 2, 1) := by decide +kernel
theorem d_Foreteller_fetch_5 : decode b_Foreteller_fetch 5 = .ok (.iload_n 2, 1) := by decide +kernel
theorem d_Foreteller_fetch_6 : decode b_Foreteller_fetch 6 = .ok (.invokestatic 100, 3) := by decide +kernel
theorem d_Foreteller_fetch_9 : decode b_Foreteller_fetch 9 = .ok (.iload_n 1, 1) := by decide +kernel
theorem d_Foreteller_fetch_10 : decode b_Foreteller_fetch 10 = .ok (.iadd, 1) := by decide +kernel
theorem d_Foreteller_fetch_11 : decode b_Foreteller_fetch 11 = .ok (.bipush 15, 2) := by decide +kernel
theorem d_Foreteller_fetch_13 : decode b_Foreteller_fetch 13 = .ok (.invokestatic 195, 3) := by decide +kernel
theorem d_Foreteller_fetch_16 : decode b_Foreteller_fetch 16 = .ok (.istore_n 3, 1) := by decide +kernel
theorem d_Foreteller_fetch_17 : decode b_Foreteller_fetch 17 = .ok (.bipush (-3), 2) := by decide +kernel
theorem d_Foreteller_fetch_19 : decode b_Foreteller_fetch 19 = .ok (.istore 4, 2) := by decide +kernel
theorem d_Foreteller_fetch_21 : decode b_Foreteller_fetch 21 = .ok (.iload_n 2, 1) := by decide +kernel
theorem d_Foreteller_fetch_22 : decode b_Foreteller_fetch 22 = .ok (.invokestatic 200, 3) := by decide +kernel
theorem d_Foreteller_fetch_25 : decode b_Foreteller_fetch 25 = .ok (.iload_n 1, 1) := by decide +kernel
theorem d_Foreteller_fetch_26 : decode b_Foreteller_fetch 26 = .ok (.iadd, 1) := by decide +kernel
theorem d_Foreteller_fetch_27 : decode b_Foreteller_fetch 27 = .ok (.istore 5, 2) := by decide +kernel
theorem d_Ranges_pick_26 : decode b_Ranges_pick 26 = .ok (.iload_n 3, 1) := by decide +kernel
theorem d_Ranges_pick_27 : decode b_Ranges_pick 27 = .ok (.iload_n 2, 1) := by decide +kernel
theorem d_Ranges_pick_28 : decode b_Ranges_pick 28 = .ok (.invokestatic 29, 3) := by decide +kernel
theorem d_Ranges_pick_31 : decode b_Ranges_pick 31 = .ok (.ior, 1) := by decide +kernel
theorem d_Ranges_pick_32 : decode b_Ranges_pick 32 = .ok (.ireturn, 1) := by decide +kernel
theorem d_Ranges_pick_25 : decode b_Ranges_pick 25 = .ok (.istore_n 3, 1) := by decide +kernel
theorem d_Ranges_pick_0 : decode b_Ranges_pick 0 = .ok (.iload_n 1, 1) := by decide +kernel
theorem d_Ranges_pick_1 : decode b_Ranges_pick 1 = .ok (.istore_n 3, 1) := by decide +kernel
theorem d_Ranges_pick_2 : decode b_Ranges_pick 2 = .ok (.iload_n 2, 1) := by decide +kernel
theorem d_Ranges_pick_3 : decode b_Ranges_pick 3 = .ok (.invokestatic 22, 3) := by decide +kernel
theorem d_Ranges_pick_6 : decode b_Ranges_pick 6 = .ok (.ifCond .eq 20, 3) := by decide +kernel
theorem d_Ranges_pick_9 : decode b_Ranges_pick 9 = .ok (.iload_n 2, 1) := by decide +kernel
theorem d_Ranges_pick_10 : decode b_Ranges_pick 10 = .ok (.invokestatic 18, 3) := by decide +kernel
theorem d_Ranges_pick_13 : decode b_Ranges_pick 13 = .ok (.ifCond .eq 11, 3) := by decide +kernel
theorem d_Ranges_pick_24 : decode b_Ranges_pick 24 = .ok (.iload_n 0, 1) := by decide +kernel
theorem d_Ranges_pick_16 : decode b_Ranges_pick 16 = .ok (.iload_n 0, 1) := by decide +kernel
theorem d_Ranges_pick_17 : decode b_Ranges_pick 17 = .ok (.iload_n 1, 1) := by decide +kernel
theorem d_Ranges_pick_18 : decode b_Ranges_pick 18 = .ok (.invokestatic 32, 3) := by decide +kernel
theorem d_Ranges_pick_21 : decode b_Ranges_pick 21 = .ok (.goto 4, 3) := by decide +kernel
theorem d_Foreteller_pick_0 : decode b_Foreteller_pick 0 = .ok (.aload_n 0, 1) := by decide +kernel
theorem d_Foreteller_pick_1 : decode b_Foreteller_pick 1 = .ok (.invokevirtual 137, 3) := by decide +kernel
theorem d_Foreteller_pick_4 : decode b_Foreteller_pick 4 = .ok (.istore_n 1, 1) := by decide +kernel
theorem d_Foreteller_pick_5 : decode b_Foreteller_pick 5 = .ok (.aload_n 0, 1) := by decide +kernel
theorem d_Foreteller_pick_6 : decode b_Foreteller_pick 6 = .ok (.invokevirtual 137, 3) := by decide +kernel
theorem d_Foreteller_pick_9 : decode b_Foreteller_pick 9 = .ok (.istore_n 2, 1) := by decide +kernel
theorem d_Foreteller_pick_10 : decode b_Foreteller_pick 10 = .ok (.aload_n 0, 1) := by decide +kernel
theorem d_Foreteller_pick_11 : decode b_Foreteller_pick 11 = .ok (.invokevirtual 137, 3) := by decide +kernel
theorem d_Foreteller_pick_14 : decode b_Foreteller_pick 14 = .ok (.istore_n 3, 1) := by decide +kernel
theorem d_Foreteller_pick_15 : decode b_Foreteller_pick 15 = .ok (.aload_n 0, 1) := by decide +kernel
theorem d_Foreteller_pick_16 : decode b_Foreteller_pick 16 = .ok (.iload_n 3, 1) := by decide +kernel
theorem d_Foreteller_pick_17 : decode b_Foreteller_pick 17 = .ok (.iload_n 2, 1) := by decide +kernel
theorem d_Foreteller_pick_18 : decode b_Foreteller_pick 18 = .ok (.iload_n 1, 1) := by decide +kernel
theorem d_Foreteller_pick_19 : decode b_Foreteller_pick 19 = .ok (.invokestatic 192, 3) := by decide +kernel
theorem d_Foreteller_pick_22 : decode b_Foreteller_pick 22 = .ok (.invokevirtual 168, 3) := by decide +kernel
theorem d_Foreteller_pick_25 : decode b_Foreteller_pick 25 = .ok (.return_, 1) := by decide +kernel
theorem d_Foreteller_operate_0 : decode b_Foreteller_operate 0 = .ok (.iload_n 1, 1) := by decide +kernel
theorem d_Foreteller_operate_1 : decode b_Foreteller_operate 1 = .ok (.tableswitch 192 10 28 #[91, 98, 104, 116, 128, 147, 153, 159, 170, 192, 192, 192, 192, 192, 192, 192, 192, 183, 91], 91) := by decide +kernel
theorem d_Foreteller_operate_92 : decode b_Foreteller_operate 92 = .ok (.aload_n 0, 1) := by decide +kernel
theorem d_Foreteller_operate_93 : decode b_Foreteller_operate 93 = .ok (.invokevirtual 137, 3) := by decide +kernel
theorem d_Foreteller_operate_96 : decode b_Foreteller_operate 96 = .ok (.pop, 1) := by decide +kernel
theorem d_Foreteller_operate_97 : decode b_Foreteller_operate 97 = .ok (.iconst 1, 1) := by decide +kernel
theorem d_Foreteller_operate_98 : decode b_Foreteller_operate 98 = .ok (.ireturn, 1) := by decide +kernel
theorem d_Foreteller_operate_99 : decode b_Foreteller_operate 99 = .ok (.aload_n 0, 1) := by decide +kernel
theorem d_Foreteller_operate_100 : decode b_Foreteller_operate 100 = .ok (.invokevirtual 174, 3) := by decide +kernel
theorem d_Foreteller_operate_103 : decode b_Foreteller_operate 103 = .ok (.iconst 1, 1) := by decide +kernel
theorem d_Foreteller_operate_104 : decode b_Foreteller_operate 104 = .ok (.ireturn, 1) := by decide +kernel
theorem d_Foreteller_operate_105 : decode b_Foreteller_operate 105 = .ok (.aload_n 0, 1) := by decide +kernel
theorem d_Foreteller_operate_106 : decode b_Foreteller_operate 106 = .ok (.aload_n 0, 1) := by decide +kernel
theorem d_Foreteller_operate_107 : decode b_Foreteller_operate 107 = .ok (.getfield 43, 3) := by decide +kernel
theorem d_Foreteller_operate_110 : decode b_Foreteller_operate 110 = .ok (.iload_n 2, 1) := by decide +kernel
theorem d_Foreteller_operate_111 : decode b_Foreteller_operate 111 = .ok (.iaload, 1) := by decide +kernel
theorem d_Foreteller_operate_112 : decode b_Foreteller_operate 112 = .ok (.invokevirtual 168, 3) := by decide +kernel
theorem d_Foreteller_operate_115 : decode b_Foreteller_operate 115 = .ok (.iconst 1, 1) := by decide +kernel
theorem d_Foreteller_operate_116 : decode b_Foreteller_operate 116 = .ok (.ireturn, 1) := by decide +kernel
theorem d_Foreteller_operate_117 : decode b_Foreteller_operate 117 = .ok (.aload_n 0, 1) := by decide +kernel
theorem d_Foreteller_operate_118 : decode b_Foreteller_operate 118 = .ok (.getfield 43, 3) := by decide +kernel
theorem d_Foreteller_operate_121 : decode b_Foreteller_operate 121 = .ok (.iload_n 2, 1) := by decide +kernel
theorem d_Foreteller_operate_122 : decode b_Foreteller_operate 122 = .ok (.aload_n 0, 1) := by decide +kernel
theorem d_Foreteller_operate_123 : decode b_Foreteller_operate 123 = .ok (.invokevirtual 137, 3) := by decide +kernel
theorem d_Foreteller_operate_126 : decode b_Foreteller_operate 126 = .ok (.iastore, 1) := by decide +kernel
theorem d_Foreteller_operate_127 : decode b_Foreteller_operate 127 = .ok (.iconst 1, 1) := by decide +kernel
theorem d_Foreteller_operate_128 : decode b_Foreteller_operate 128 = .ok (.ireturn, 1) := by decide +kernel
theorem d_Foreteller_operate_129 : decode b_Foreteller_operate 129 = .ok (.aload_n 0, 1) := by decide +kernel
theorem d_Foreteller_operate_130 : decode b_Foreteller_operate 130 = .ok (.getfield 43, 3) := by decide +kernel
theorem d_Foreteller_operate_133 : decode b_Foreteller_operate 133 = .ok (.iload_n 2, 1) := by decide +kernel
theorem d_Foreteller_operate_134 : decode b_Foreteller_operate 134 = .ok (.aload_n 0, 1) := by decide +kernel
theorem d_Foreteller_operate_135 : decode b_Foreteller_operate 135 = .ok (.getfield 40, 3) := by decide +kernel
theorem d_Foreteller_operate_138 : decode b_Foreteller_operate 138 = .ok (.aload_n 0, 1) := by decide +kernel
theorem d_Foreteller_operate_139 : decode b_Foreteller_operate 139 = .ok (.getfield 109, 3) := by decide +kernel
theorem d_Foreteller_operate_142 : decode b_Foreteller_operate 142 = .ok (.iconst 1, 1) := by decide +kernel
theorem d_Foreteller_operate_143 : decode b_Foreteller_operate 143 = .ok (.isub, 1) := by decide +kernel
theorem d_Foreteller_operate_144 : decode b_Foreteller_operate 144 = .ok (.iaload, 1) := by decide +kernel
theorem d_Foreteller_operate_145 : decode b_Foreteller_operate 145 = .ok (.iastore, 1) := by decide +kernel
theorem d_Foreteller_operate_146 : decode b_Foreteller_operate 146 = .ok (.iconst 1, 1) := by decide +kernel
theorem d_Foreteller_operate_147 : decode b_Foreteller_operate 147 = .ok (.ireturn, 1) := by decide +kernel
theorem d_Foreteller_operate_148 : decode b_Foreteller_operate 148 = .ok (.aload_n 0, 1) := by decide +kernel
theorem d_Foreteller_operate_149 : decode b_Foreteller_operate 149 = .ok (.iload_n 2, 1) := by decide +kernel
theorem d_Foreteller_operate_150 : decode b_Foreteller_operate 150 = .ok (.invokevirtual 177, 3) := by decide +kernel
theorem d_Foreteller_operate_153 : decode b_Foreteller_operate 153 = .ok (.ireturn, 1) := by decide +kernel
theorem d_Foreteller_operate_154 : decode b_Foreteller_operate 154 = .ok (.aload_n 0, 1) := by decide +kernel
theorem d_Foreteller_operate_155 : decode b_Foreteller_operate 155 = .ok (.iload_n 2, 1) := by decide +kernel
theorem d_Foreteller_operate_156 : decode b_Foreteller_operate 156 = .ok (.invokevirtual 180, 3) := by decide +kernel
theorem d_Foreteller_operate_159 : decode b_Foreteller_operate 159 = .ok (.ireturn, 1) := by decide +kernel
theorem d_Foreteller_operate_160 : decode b_Foreteller_operate 160 = .ok (.aload_n 0, 1) := by decide +kernel
theorem d_Foreteller_operate_161 : decode b_Foreteller_operate 161 = .ok (.iload_n 2, 1) := by decide +kernel
theorem d_Foreteller_operate_162 : decode b_Foreteller_operate 162 = .ok (.iload_n 2, 1) := by decide +kernel
theorem d_Foreteller_operate_163 : decode b_Foreteller_operate 163 = .ok (.invokestatic 183, 3) := by decide +kernel
theorem d_Foreteller_operate_166 : decode b_Foreteller_operate 166 = .ok (.invokevirtual 168, 3) := by decide +kernel
theorem d_Foreteller_operate_169 : decode b_Foreteller_operate 169 = .ok (.iconst 1, 1) := by decide +kernel
theorem d_Foreteller_operate_170 : decode b_Foreteller_operate 170 = .ok (.ireturn, 1) := by decide +kernel
theorem d_Foreteller_operate_171 : decode b_Foreteller_operate 171 = .ok (.aload_n 0, 1) := by decide +kernel
theorem d_Foreteller_operate_172 : decode b_Foreteller_operate 172 = .ok (.aload_n 0, 1) := by decide +kernel
theorem d_Foreteller_operate_173 : decode b_Foreteller_operate 173 = .ok (.invokevirtual 137, 3) := by decide +kernel
theorem d_Foreteller_operate_176 : decode b_Foreteller_operate 176 = .ok (.invokestatic 186, 3) := by decide +kernel
theorem d_Foreteller_operate_179 : decode b_Foreteller_operate 179 = .ok (.invokevirtual 168, 3) := by decide +kernel
theorem d_Foreteller_operate_182 : decode b_Foreteller_operate 182 = .ok (.iconst 1, 1) := by decide +kernel
theorem d_Foreteller_operate_183 : decode b_Foreteller_operate 183 = .ok (.ireturn, 1) := by decide +kernel
theorem d_Foreteller_operate_193 : decode b_Foreteller_operate 193 = .ok (.aload_n 0, 1) := by decide +kernel
theorem d_Foreteller_operate_194 : decode b_Foreteller_operate 194 = .ok (.iload_n 1, 1) := by decide +kernel
theorem d_Foreteller_operate_195 : decode b_Foreteller_operate 195 = .ok (.invokevirtual 189, 3) := by decide +kernel
theorem d_Foreteller_operate_198 : decode b_Foreteller_operate 198 = .ok (.ireturn, 1) := by decide +kernel
theorem d_Foreteller_operate_184 : decode b_Foreteller_operate 184 = .ok (.aload_n 0, 1) := by decide +kernel
theorem d_Foreteller_operate_185 : decode b_Foreteller_operate 185 = .ok (.sipush 8128, 3) := by decide +kernel
theorem d_Foreteller_operate_188 : decode b_Foreteller_operate 188 = .ok (.invokevirtual 168, 3) := by decide +kernel
theorem d_Foreteller_operate_191 : decode b_Foreteller_operate 191 = .ok (.iconst 1, 1) := by decide +kernel
theorem d_Foreteller_operate_192 : decode b_Foreteller_operate 192 = .ok (.ireturn, 1) := by decide +kernel
theorem d_Foreteller_call_79 : decode b_Foreteller_call 79 = .ok (.aload_n 0, 1) := by decide +kernel
theorem d_Foreteller_call_80 : decode b_Foreteller_call 80 = .ok (.iload_n 2, 1) := by decide +kernel
theorem d_Foreteller_call_81 : decode b_Foreteller_call 81 = .ok (.invokevirtual 55, 3) := by decide +kernel
theorem d_Foreteller_call_84 : decode b_Foreteller_call 84 = .ok (.return_, 1) := by decide +kernel
theorem d_Foreteller_call_72 : decode b_Foreteller_call 72 = .ok (.aload_n 0, 1) := by decide +kernel
theorem d_Foreteller_call_73 : decode b_Foreteller_call 73 = .ok (.iload_n 1, 1) := by decide +kernel
theorem d_Foreteller_call_74 : decode b_Foreteller_call 74 = .ok (.iconst 1, 1) := by decide +kernel
theorem d_Foreteller_call_75 : decode b_Foreteller_call 75 = .ok (.iadd, 1) := by decide +kernel
theorem d_Foreteller_call_76 : decode b_Foreteller_call 76 = .ok (.invokevirtual 118, 3) := by decide +kernel
theorem d_Foreteller_call_0 : decode b_Foreteller_call 0 = .ok (.aload_n 0, 1) := by decide +kernel
theorem d_Foreteller_call_1 : decode b_Foreteller_call 1 = .ok (.getfield 46, 3) := by decide +kernel
theorem d_Foreteller_call_4 : decode b_Foreteller_call 4 = .ok (.getfield 163, 3) := by decide +kernel
theorem d_Foreteller_call_7 : decode b_Foreteller_call 7 = .ok (.iload_n 2, 1) := by decide +kernel
theorem d_Foreteller_call_8 : decode b_Foreteller_call 8 = .ok (.iaload, 1) := by decide +kernel
theorem d_Foreteller_call_9 : decode b_Foreteller_call 9 = .ok (.istore_n 3, 1) := by decide +kernel
theorem d_Foreteller_call_10 : decode b_Foreteller_call 10 = .ok (.aload_n 0, 1) := by decide +kernel
theorem d_Foreteller_call_11 : decode b_Foreteller_call 11 = .ok (.dup, 1) := by decide +kernel
theorem d_Foreteller_call_12 : decode b_Foreteller_call 12 = .ok (.getfield 109, 3) := by decide +kernel
theorem d_Foreteller_call_15 : decode b_Foreteller_call 15 = .ok (.iload_n 3, 1) := by decide +kernel
theorem d_Foreteller_call_16 : decode b_Foreteller_call 16 = .ok (.isub, 1) := by decide +kernel
theorem d_Foreteller_call_17 : decode b_Foreteller_call 17 = .ok (.putfield 109, 3) := by decide +kernel
theorem d_Foreteller_call_20 : decode b_Foreteller_call 20 = .ok (.aload_n 0, 1) := by decide +kernel
theorem d_Foreteller_call_21 : decode b_Foreteller_call 21 = .ok (.getfield 37, 3) := by decide +kernel
theorem d_Foreteller_call_24 : decode b_Foreteller_call 24 = .ok (.iload_n 2, 1) := by decide +kernel
theorem d_Foreteller_call_25 : decode b_Foreteller_call 25 = .ok (.iconst 2, 1) := by decide +kernel
theorem d_Foreteller_call_26 : decode b_Foreteller_call 26 = .ok (.imul, 1) := by decide +kernel
theorem d_Foreteller_call_27 : decode b_Foreteller_call 27 = .ok (.aload_n 0, 1) := by decide +kernel
theorem d_Foreteller_call_28 : decode b_Foreteller_call 28 = .ok (.getfield 40, 3) := by decide +kernel
theorem d_Foreteller_call_31 : decode b_Foreteller_call 31 = .ok (.aload_n 0, 1) := by decide +kernel
theorem d_Foreteller_call_32 : decode b_Foreteller_call 32 = .ok (.getfield 109, 3) := by decide +kernel
theorem d_Foreteller_call_35 : decode b_Foreteller_call 35 = .ok (.iload_n 3, 1) := by decide +kernel
theorem d_Foreteller_call_36 : decode b_Foreteller_call 36 = .ok (.invokestatic 164, 3) := by decide +kernel
theorem d_Foreteller_call_39 : decode b_Foreteller_call 39 = .ok (.pop, 1) := by decide +kernel
theorem d_Foreteller_call_40 : decode b_Foreteller_call 40 = .ok (.aload_n 0, 1) := by decide +kernel
theorem d_Foreteller_call_41 : decode b_Foreteller_call 41 = .ok (.getfield 25, 3) := by decide +kernel
theorem d_Foreteller_call_44 : decode b_Foreteller_call 44 = .ok (.iload_n 2, 1) := by decide +kernel
theorem d_Foreteller_call_45 : decode b_Foreteller_call 45 = .ok (.baload, 1) := by decide +kernel
theorem d_Foreteller_call_46 : decode b_Foreteller_call 46 = .ok (.ifCond .eq 33, 3) := by decide +kernel
theorem d_Foreteller_call_49 : decode b_Foreteller_call 49 = .ok (.aload_n 0, 1) := by decide +kernel
theorem d_Foreteller_call_50 : decode b_Foreteller_call 50 = .ok (.getfield 46, 3) := by decide +kernel
theorem d_Foreteller_call_53 : decode b_Foreteller_call 53 = .ok (.getfield 156, 3) := by decide +kernel
theorem d_Foreteller_call_56 : decode b_Foreteller_call 56 = .ok (.iload_n 2, 1) := by decide +kernel
theorem d_Foreteller_call_57 : decode b_Foreteller_call 57 = .ok (.iaload, 1) := by decide +kernel
theorem d_Foreteller_call_58 : decode b_Foreteller_call 58 = .ok (.iconst 1, 1) := by decide +kernel
theorem d_Foreteller_call_59 : decode b_Foreteller_call 59 = .ok (.if_icmp .ne 13, 3) := by decide +kernel
theorem d_Foreteller_call_62 : decode b_Foreteller_call 62 = .ok (.aload_n 0, 1) := by decide +kernel
theorem d_Foreteller_call_63 : decode b_Foreteller_call 63 = .ok (.aload_n 0, 1) := by decide +kernel
theorem d_Foreteller_call_64 : decode b_Foreteller_call 64 = .ok (.getfield 22, 3) := by decide +kernel
theorem d_Foreteller_call_67 : decode b_Foreteller_call 67 = .ok (.iload_n 2, 1) := by decide +kernel
theorem d_Foreteller_call_68 : decode b_Foreteller_call 68 = .ok (.iaload, 1) := by decide +kernel
theorem d_Foreteller_call_69 : decode b_Foreteller_call 69 = .ok (.invokevirtual 168, 3) := by decide +kernel
theorem d_Foreteller_leave_55 : decode b_Foreteller_leave 55 = .ok (.aload_n 0, 1) := by decide +kernel
theorem d_Foreteller_leave_56 : decode b_Foreteller_leave 56 = .ok (.getfield 25, 3) := by decide +kernel
theorem d_Foreteller_leave_59 : decode b_Foreteller_leave 59 = .ok (.iload_n 1, 1) := by decide +kernel
theorem d_Foreteller_leave_60 : decode b_Foreteller_leave 60 = .ok (.iconst 1, 1) := by decide +kernel
theorem d_Foreteller_leave_61 : decode b_Foreteller_leave 61 = .ok (.bastore, 1) := by decide +kernel
theorem d_Foreteller_leave_62 : decode b_Foreteller_leave 62 = .ok (.aload_n 0, 1) := by decide +kernel
theorem d_Foreteller_leave_63 : decode b_Foreteller_leave 63 = .ok (.getfield 22, 3) := by decide +kernel
theorem d_Foreteller_leave_66 : decode b_Foreteller_leave 66 = .ok (.iload_n 1, 1) := by decide +kernel
theorem d_Foreteller_leave_67 : decode b_Foreteller_leave 67 = .ok (.iload_n 2, 1) := by decide +kernel
theorem d_Foreteller_leave_68 : decode b_Foreteller_leave 68 = .ok (.iastore, 1) := by decide +kernel
theorem d_Foreteller_leave_69 : decode b_Foreteller_leave 69 = .ok (.aload_n 0, 1) := by decide +kernel
theorem d_Foreteller_leave_70 : decode b_Foreteller_leave 70 = .ok (.bipush 9, 2) := by decide +kernel
theorem d_Foreteller_leave_72 : decode b_Foreteller_leave 72 = .ok (.invokevirtual 160, 3) := by decide +kernel
theorem d_Foreteller_leave_75 : decode b_Foreteller_leave 75 = .ok (.return_, 1) := by decide +kernel
theorem d_Foreteller_leave_36 : decode b_Foreteller_leave 36 = .ok (.aload_n 0, 1) := by decide +kernel
theorem d_Foreteller_leave_37 : decode b_Foreteller_leave 37 = .ok (.getfield 25, 3) := by decide +kernel
theorem d_Foreteller_leave_40 : decode b_Foreteller_leave 40 = .ok (.iload_n 1, 1) := by decide +kernel
theorem d_Foreteller_leave_41 : decode b_Foreteller_leave 41 = .ok (.baload, 1) := by decide +kernel
theorem d_Foreteller_leave_42 : decode b_Foreteller_leave 42 = .ok (.ifCond .eq 13, 3) := by decide +kernel
theorem d_Foreteller_leave_45 : decode b_Foreteller_leave 45 = .ok (.iload_n 2, 1) := by decide +kernel
theorem d_Foreteller_leave_46 : decode b_Foreteller_leave 46 = .ok (.aload_n 0, 1) := by decide +kernel
theorem d_Foreteller_leave_47 : decode b_Foreteller_leave 47 = .ok (.getfield 22, 3) := by decide +kernel
theorem d_Foreteller_leave_50 : decode b_Foreteller_leave 50 = .ok (.iload_n 1, 1) := by decide +kernel
theorem d_Foreteller_leave_51 : decode b_Foreteller_leave 51 = .ok (.iaload, 1) := by decide +kernel
theorem d_Foreteller_leave_52 : decode b_Foreteller_leave 52 = .ok (.if_icmp .eq 23, 3) := by decide +kernel
theorem d_Foreteller_leave_0 : decode b_Foreteller_leave 0 = .ok (.aload_n 0, 1) := by decide +kernel
theorem d_Foreteller_leave_1 : decode b_Foreteller_leave 1 = .ok (.getfield 22, 3) := by decide +kernel
theorem d_Foreteller_leave_4 : decode b_Foreteller_leave 4 = .ok (.iload_n 1, 1) := by decide +kernel
theorem d_Foreteller_leave_5 : decode b_Foreteller_leave 5 = .ok (.iaload, 1) := by decide +kernel
theorem d_Foreteller_leave_6 : decode b_Foreteller_leave 6 = .ok (.istore_n 2, 1) := by decide +kernel
theorem d_Foreteller_leave_7 : decode b_Foreteller_leave 7 = .ok (.aload_n 0, 1) := by decide +kernel
theorem d_Foreteller_leave_8 : decode b_Foreteller_leave 8 = .ok (.getfield 46, 3) := by decide +kernel
theorem d_Foreteller_leave_11 : decode b_Foreteller_leave 11 = .ok (.getfield 156, 3) := by decide +kernel
theorem d_Foreteller_leave_14 : decode b_Foreteller_leave 14 = .ok (.iload_n 1, 1) := by decide +kernel
theorem d_Foreteller_leave_15 : decode b_Foreteller_leave 15 = .ok (.iaload, 1) := by decide +kernel
theorem d_Foreteller_leave_16 : decode b_Foreteller_leave 16 = .ok (.iconst 1, 1) := by decide +kernel
theorem d_Foreteller_leave_17 : decode b_Foreteller_leave 17 = .ok (.if_icmp .ne 19, 3) := by decide +kernel
theorem d_Foreteller_leave_20 : decode b_Foreteller_leave 20 = .ok (.iload_n 2, 1) := by decide +kernel
theorem d_Foreteller_leave_21 : decode b_Foreteller_leave 21 = .ok (.aload_n 0, 1) := by decide +kernel
theorem d_Foreteller_leave_22 : decode b_Foreteller_leave 22 = .ok (.getfield 40, 3) := by decide +kernel
theorem d_Foreteller_leave_25 : decode b_Foreteller_leave 25 = .ok (.aload_n 0, 1) := by decide +kernel
theorem d_Foreteller_leave_26 : decode b_Foreteller_leave 26 = .ok (.getfield 109, 3) := by decide +kernel
theorem d_Foreteller_leave_29 : decode b_Foreteller_leave 29 = .ok (.iconst 1, 1) := by decide +kernel
theorem d_Foreteller_leave_30 : decode b_Foreteller_leave 30 = .ok (.isub, 1) := by decide +kernel
theorem d_Foreteller_leave_31 : decode b_Foreteller_leave 31 = .ok (.iaload, 1) := by decide +kernel
theorem d_Foreteller_leave_32 : decode b_Foreteller_leave 32 = .ok (.invokestatic 157, 3) := by decide +kernel
theorem d_Foreteller_leave_35 : decode b_Foreteller_leave 35 = .ok (.istore_n 2, 1) := by decide +kernel
theorem d_Foreteller_jump_67 : decode b_Foreteller_jump 67 = .ok (.aload_n 0, 1) := by decide +kernel
theorem d_Foreteller_jump_68 : decode b_Foreteller_jump 68 = .ok (.iload_n 2, 1) := by decide +kernel
theorem d_Foreteller_jump_69 : decode b_Foreteller_jump 69 = .ok (.aload_n 0, 1) := by decide +kernel
theorem d_Foreteller_jump_70 : decode b_Foreteller_jump 70 = .ok (.getfield 46, 3) := by decide +kernel
theorem d_Foreteller_jump_73 : decode b_Foreteller_jump 73 = .ok (.getfield 153, 3) := by decide +kernel
theorem d_Foreteller_jump_76 : decode b_Foreteller_jump 76 = .ok (.iload_n 1, 1) := by decide +kernel
theorem d_Foreteller_jump_77 : decode b_Foreteller_jump 77 = .ok (.iaload, 1) := by decide +kernel
theorem d_Foreteller_jump_78 : decode b_Foreteller_jump 78 = .ok (.iadd, 1) := by decide +kernel
theorem d_Foreteller_jump_79 : decode b_Foreteller_jump 79 = .ok (.putfield 109, 3) := by decide +kernel
theorem d_Foreteller_jump_82 : decode b_Foreteller_jump 82 = .ok (.aload_n 0, 1) := by decide +kernel
theorem d_Foreteller_jump_83 : decode b_Foreteller_jump 83 = .ok (.aload_n 0, 1) := by decide +kernel
theorem d_Foreteller_jump_84 : decode b_Foreteller_jump 84 = .ok (.getfield 46, 3) := by decide +kernel
theorem d_Foreteller_jump_87 : decode b_Foreteller_jump 87 = .ok (.getfield 144, 3) := by decide +kernel
theorem d_Foreteller_jump_90 : decode b_Foreteller_jump 90 = .ok (.iload_n 1, 1) := by decide +kernel
theorem d_Foreteller_jump_91 : decode b_Foreteller_jump 91 = .ok (.iaload, 1) := by decide +kernel
theorem d_Foreteller_jump_92 : decode b_Foreteller_jump 92 = .ok (.invokevirtual 118, 3) := by decide +kernel
theorem d_Foreteller_jump_95 : decode b_Foreteller_jump 95 = .ok (.return_, 1) := by decide +kernel
theorem d_Foreteller_jump_0 : decode b_Foreteller_jump 0 = .ok (.aload_n 0, 1) := by decide +kernel
theorem d_Foreteller_jump_1 : decode b_Foreteller_jump 1 = .ok (.getfield 46, 3) := by decide +kernel
theorem d_Foreteller_jump_4 : decode b_Foreteller_jump 4 = .ok (.getfield 144, 3) := by decide +kernel
theorem d_Foreteller_jump_7 : decode b_Foreteller_jump 7 = .ok (.iload_n 1, 1) := by decide +kernel
theorem d_Foreteller_jump_8 : decode b_Foreteller_jump 8 = .ok (.iaload, 1) := by decide +kernel
theorem d_Foreteller_jump_9 : decode b_Foreteller_jump 9 = .ok (.iconst (-1), 1) := by decide +kernel
theorem d_Foreteller_jump_10 : decode b_Foreteller_jump 10 = .ok (.if_icmp .ne 17, 3) := by decide +kernel
theorem d_Foreteller_jump_27 : decode b_Foreteller_jump 27 = .ok (.aload_n 0, 1) := by decide +kernel
theorem d_Foreteller_jump_28 : decode b_Foreteller_jump 28 = .ok (.getfield 46, 3) := by decide +kernel
theorem d_Foreteller_jump_31 : decode b_Foreteller_jump 31 = .ok (.getfield 150, 3) := by decide +kernel
theorem d_Foreteller_jump_34 : decode b_Foreteller_jump 34 = .ok (.iload_n 1, 1) := by decide +kernel
theorem d_Foreteller_jump_35 : decode b_Foreteller_jump 35 = .ok (.iaload, 1) := by decide +kernel
theorem d_Foreteller_jump_36 : decode b_Foreteller_jump 36 = .ok (.istore_n 2, 1) := by decide +kernel
theorem d_Foreteller_jump_37 : decode b_Foreteller_jump 37 = .ok (.aload_n 0, 1) := by decide +kernel
theorem d_Foreteller_jump_38 : decode b_Foreteller_jump 38 = .ok (.getfield 46, 3) := by decide +kernel
theorem d_Foreteller_jump_41 : decode b_Foreteller_jump 41 = .ok (.getfield 153, 3) := by decide +kernel
theorem d_Foreteller_jump_44 : decode b_Foreteller_jump 44 = .ok (.iload_n 1, 1) := by decide +kernel
theorem d_Foreteller_jump_45 : decode b_Foreteller_jump 45 = .ok (.iaload, 1) := by decide +kernel
theorem d_Foreteller_jump_46 : decode b_Foreteller_jump 46 = .ok (.iconst 1, 1) := by decide +kernel
theorem d_Foreteller_jump_47 : decode b_Foreteller_jump 47 = .ok (.if_icmp .ne 20, 3) := by decide +kernel
theorem d_Foreteller_jump_50 : decode b_Foreteller_jump 50 = .ok (.aload_n 0, 1) := by decide +kernel
theorem d_Foreteller_jump_51 : decode b_Foreteller_jump 51 = .ok (.getfield 40, 3) := by decide +kernel
theorem d_Foreteller_jump_54 : decode b_Foreteller_jump 54 = .ok (.iload_n 2, 1) := by decide +kernel
theorem d_Foreteller_jump_55 : decode b_Foreteller_jump 55 = .ok (.aload_n 0, 1) := by decide +kernel
theorem d_Foreteller_jump_56 : decode b_Foreteller_jump 56 = .ok (.getfield 40, 3) := by decide +kernel
theorem d_Foreteller_jump_59 : decode b_Foreteller_jump 59 = .ok (.aload_n 0, 1) := by decide +kernel
theorem d_Foreteller_jump_60 : decode b_Foreteller_jump 60 = .ok (.getfield 109, 3) := by decide +kernel
theorem d_Foreteller_jump_63 : decode b_Foreteller_jump 63 = .ok (.iconst 1, 1) := by decide +kernel
theorem d_Foreteller_jump_64 : decode b_Foreteller_jump 64 = .ok (.isub, 1) := by decide +kernel
theorem d_Foreteller_jump_65 : decode b_Foreteller_jump 65 = .ok (.iaload, 1) := by decide +kernel
theorem d_Foreteller_jump_66 : decode b_Foreteller_jump 66 = .ok (.iastore, 1) := by decide +kernel
theorem d_Foreteller_jump_13 : decode b_Foreteller_jump 13 = .ok (.aload_n 0, 1) := by decide +kernel
theorem d_Foreteller_jump_14 : decode b_Foreteller_jump 14 = .ok (.aload_n 0, 1) := by decide +kernel
theorem d_Foreteller_jump_15 : decode b_Foreteller_jump 15 = .ok (.getfield 46, 3) := by decide +kernel
theorem d_Foreteller_jump_18 : decode b_Foreteller_jump 18 = .ok (.getfield 72, 3) := by decide +kernel
theorem d_Foreteller_jump_21 : decode b_Foreteller_jump 21 = .ok (.iload_n 1, 1) := by decide +kernel
theorem d_Foreteller_jump_22 : decode b_Foreteller_jump 22 = .ok (.iaload, 1) := by decide +kernel
theorem d_Foreteller_jump_23 : decode b_Foreteller_jump 23 = .ok (.invokevirtual 147, 3) := by decide +kernel
theorem d_Foreteller_jump_26 : decode b_Foreteller_jump 26 = .ok (.return_, 1) := by decide +kernel
theorem d_Foreteller_fork_58 : decode b_Foreteller_fork 58 = .ok (.aload_n 0, 1) := by decide +kernel
theorem d_Foreteller_fork_59 : decode b_Foreteller_fork 59 = .ok (.iload_n 1, 1) := by decide +kernel
theorem d_Foreteller_fork_60 : decode b_Foreteller_fork 60 = .ok (.invokevirtual 127, 3) := by decide +kernel
theorem d_Foreteller_fork_63 : decode b_Foreteller_fork 63 = .ok (.return_, 1) := by decide +kernel
theorem d_Foreteller_fork_41 : decode b_Foreteller_fork 41 = .ok (.iload_n 2, 1) := by decide +kernel
theorem d_Foreteller_fork_42 : decode b_Foreteller_fork 42 = .ok (.ifCond .eq 11, 3) := by decide +kernel
theorem d_Foreteller_fork_53 : decode b_Foreteller_fork 53 = .ok (.iload 5, 2) := by decide +kernel
theorem d_Foreteller_fork_55 : decode b_Foreteller_fork 55 = .ok (.ifCond .eq 8, 3) := by decide +kernel
theorem d_Foreteller_fork_45 : decode b_Foreteller_fork 45 = .ok (.iload 4, 2) := by decide +kernel
theorem d_Foreteller_fork_47 : decode b_Foreteller_fork 47 = .ok (.ifCond .eq 16, 3) := by decide +kernel
theorem d_Foreteller_fork_50 : decode b_Foreteller_fork 50 = .ok (.goto 8, 3) := by decide +kernel
theorem d_Foreteller_fork_34 : decode b_Foreteller_fork 34 = .ok (.aload_n 0, 1) := by decide +kernel
theorem d_Foreteller_fork_35 : decode b_Foreteller_fork 35 = .ok (.iload_n 1, 1) := by decide +kernel
theorem d_Foreteller_fork_36 : decode b_Foreteller_fork 36 = .ok (.iconst 1, 1) := by decide +kernel
theorem d_Foreteller_fork_37 : decode b_Foreteller_fork 37 = .ok (.iadd, 1) := by decide +kernel
theorem d_Foreteller_fork_38 : decode b_Foreteller_fork 38 = .ok (.invokevirtual 118, 3) := by decide +kernel
theorem d_Foreteller_fork_0 : decode b_Foreteller_fork 0 = .ok (.aload_n 0, 1) := by decide +kernel
theorem d_Foreteller_fork_1 : decode b_Foreteller_fork 1 = .ok (.invokevirtual 137, 3) := by decide +kernel
theorem d_Foreteller_fork_4 : decode b_Foreteller_fork 4 = .ok (.istore_n 3, 1) := by decide +kernel
theorem d_Foreteller_fork_5 : decode b_Foreteller_fork 5 = .ok (.iload_n 3, 1) := by decide +kernel
theorem d_Foreteller_fork_6 : decode b_Foreteller_fork 6 = .ok (.invokestatic 93, 3) := by decide +kernel
theorem d_Foreteller_fork_9 : decode b_Foreteller_fork 9 = .ok (.istore 4, 2) := by decide +kernel
theorem d_Foreteller_fork_11 : decode b_Foreteller_fork 11 = .ok (.iload_n 3, 1) := by decide +kernel
theorem d_Foreteller_fork_12 : decode b_Foreteller_fork 12 = .ok (.invokestatic 141, 3) := by decide +kernel
theorem d_Foreteller_fork_15 : decode b_Foreteller_fork 15 = .ok (.istore 5, 2) := by decide +kernel
theorem d_Foreteller_fork_17 : decode b_Foreteller_fork 17 = .ok (.iload_n 2, 1) := by decide +kernel
theorem d_Foreteller_fork_18 : decode b_Foreteller_fork 18 = .ok (.ifCond .eq 11, 3) := by decide +kernel
theorem d_Foreteller_fork_29 : decode b_Foreteller_fork 29 = .ok (.iload 4, 2) := by decide +kernel
theorem d_Foreteller_fork_31 : decode b_Foreteller_fork 31 = .ok (.ifCond .eq 10, 3) := by decide +kernel
theorem d_Foreteller_fork_21 : decode b_Foreteller_fork 21 = .ok (.iload 5, 2) := by decide +kernel
theorem d_Foreteller_fork_23 : decode b_Foreteller_fork 23 = .ok (.ifCond .eq 18, 3) := by decide +kernel
theorem d_Foreteller_fork_26 : decode b_Foreteller_fork 26 = .ok (.goto 8, 3) := by decide +kernel
theorem d_Foreteller_follow_97 : decode b_Foreteller_follow 97 = .ok (.invokevirtual 123, 3) := by decide +kernel
theorem d_Foreteller_follow_100 : decode b_Foreteller_follow 100 = .ok (.goto 60, 3) := by decide +kernel
theorem d_Foreteller_follow_160 : decode b_Foreteller_follow 160 = .ok (.return_, 1) := by decide +kernel
theorem d_Foreteller_follow_0 : decode b_Foreteller_follow 0 = .ok (.aload_n 0, 1) := by decide +kernel
theorem d_Foreteller_follow_1 : decode b_Foreteller_follow 1 = .ok (.getfield 46, 3) := by decide +kernel
theorem d_Foreteller_follow_4 : decode b_Foreteller_follow 4 = .ok (.getfield 79, 3) := by decide +kernel
theorem d_Foreteller_follow_7 : decode b_Foreteller_follow 7 = .ok (.iload_n 1, 1) := by decide +kernel
theorem d_Foreteller_follow_8 : decode b_Foreteller_follow 8 = .ok (.iaload, 1) := by decide +kernel
theorem d_Foreteller_follow_9 : decode b_Foreteller_follow 9 = .ok (.tableswitch 119 0 9 #[55, 58, 58, 68, 94, 94, 94, 68, 94, 102], 55) := by decide +kernel
theorem d_Foreteller_follow_64 : decode b_Foreteller_follow 64 = .ok (.goto 96, 3) := by decide +kernel
theorem d_Foreteller_follow_67 : decode b_Foreteller_follow 67 = .ok (.aload_n 0, 1) := by decide +kernel
theorem d_Foreteller_follow_68 : decode b_Foreteller_follow 68 = .ok (.iload_n 1, 1) := by decide +kernel
theorem d_Foreteller_follow_69 : decode b_Foreteller_follow 69 = .ok (.iconst 1, 1) := by decide +kernel
theorem d_Foreteller_follow_70 : decode b_Foreteller_follow 70 = .ok (.iadd, 1) := by decide +kernel
theorem d_Foreteller_follow_71 : decode b_Foreteller_follow 71 = .ok (.invokevirtual 118, 3) := by decide +kernel
theorem d_Foreteller_follow_74 : decode b_Foreteller_follow 74 = .ok (.goto 86, 3) := by decide +kernel
theorem d_Foreteller_follow_77 : decode b_Foreteller_follow 77 = .ok (.aload_n 0, 1) := by decide +kernel
theorem d_Foreteller_follow_78 : decode b_Foreteller_follow 78 = .ok (.iload_n 1, 1) := by decide +kernel
theorem d_Foreteller_follow_79 : decode b_Foreteller_follow 79 = .ok (.aload_n 0, 1) := by decide +kernel
theorem d_Foreteller_follow_80 : decode b_Foreteller_follow 80 = .ok (.getfield 46, 3) := by decide +kernel
theorem d_Foreteller_follow_83 : decode b_Foreteller_follow 83 = .ok (.getfield 79, 3) := by decide +kernel
theorem d_Foreteller_follow_86 : decode b_Foreteller_follow 86 = .ok (.iload_n 1, 1) := by decide +kernel
theorem d_Foreteller_follow_87 : decode b_Foreteller_follow 87 = .ok (.iaload, 1) := by decide +kernel
theorem d_Foreteller_follow_88 : decode b_Foreteller_follow 88 = .ok (.iconst 3, 1) := by decide +kernel
theorem d_Foreteller_follow_89 : decode b_Foreteller_follow 89 = .ok (.if_icmp .ne 7, 3) := by decide +kernel
theorem d_Foreteller_follow_96 : decode b_Foreteller_follow 96 = .ok (.iconst 0, 1) := by decide +kernel
theorem d_Foreteller_follow_92 : decode b_Foreteller_follow 92 = .ok (.iconst 1, 1) := by decide +kernel
theorem d_Foreteller_follow_93 : decode b_Foreteller_follow 93 = .ok (.goto 4, 3) := by decide +kernel
theorem d_Foreteller_follow_103 : decode b_Foreteller_follow 103 = .ok (.aload_n 0, 1) := by decide +kernel
theorem d_Foreteller_follow_104 : decode b_Foreteller_follow 104 = .ok (.iload_n 1, 1) := by decide +kernel
theorem d_Foreteller_follow_105 : decode b_Foreteller_follow 105 = .ok (.invokevirtual 127, 3) := by decide +kernel
theorem d_Foreteller_follow_108 : decode b_Foreteller_follow 108 = .ok (.goto 52, 3) := by decide +kernel
theorem d_Foreteller_follow_111 : decode b_Foreteller_follow 111 = .ok (.aload_n 0, 1) := by decide +kernel
theorem d_Foreteller_follow_112 : decode b_Foreteller_follow 112 = .ok (.iload_n 1, 1) := by decide +kernel
theorem d_Foreteller_follow_113 : decode b_Foreteller_follow 113 = .ok (.aload_n 0, 1) := by decide +kernel
theorem d_Foreteller_follow_114 : decode b_Foreteller_follow 114 = .ok (.getfield 46, 3) := by decide +kernel
theorem d_Foreteller_follow_117 : decode b_Foreteller_follow 117 = .ok (.getfield 86, 3) := by decide +kernel
theorem d_Foreteller_follow_120 : decode b_Foreteller_follow 120 = .ok (.iload_n 1, 1) := by decide +kernel
theorem d_Foreteller_follow_121 : decode b_Foreteller_follow 121 = .ok (.iaload, 1) := by decide +kernel
theorem d_Foreteller_follow_122 : decode b_Foreteller_follow 122 = .ok (.invokevirtual 130, 3) := by decide +kernel
theorem d_Foreteller_follow_125 : decode b_Foreteller_follow 125 = .ok (.goto 35, 3) := by decide +kernel
theorem d_Foreteller_follow_128 : decode b_Foreteller_follow 128 = .ok (.aload_n 0, 1) := by decide +kernel
theorem d_Foreteller_follow_129 : decode b_Foreteller_follow 129 = .ok (.aload_n 0, 1) := by decide +kernel
theorem d_Foreteller_follow_130 : decode b_Foreteller_follow 130 = .ok (.getfield 46, 3) := by decide +kernel
theorem d_Foreteller_follow_133 : decode b_Foreteller_follow 133 = .ok (.getfield 79, 3) := by decide +kernel
theorem d_Foreteller_follow_136 : decode b_Foreteller_follow 136 = .ok (.iload_n 1, 1) := by decide +kernel
theorem d_Foreteller_follow_137 : decode b_Foreteller_follow 137 = .ok (.iaload, 1) := by decide +kernel
theorem d_Foreteller_follow_138 : decode b_Foreteller_follow 138 = .ok (.aload_n 0, 1) := by decide +kernel
theorem d_Foreteller_follow_139 : decode b_Foreteller_follow 139 = .ok (.getfield 46, 3) := by decide +kernel
theorem d_Foreteller_follow_142 : decode b_Foreteller_follow 142 = .ok (.getfield 86, 3) := by decide +kernel
theorem d_Foreteller_follow_145 : decode b_Foreteller_follow 145 = .ok (.iload_n 1, 1) := by decide +kernel
theorem d_Foreteller_follow_146 : decode b_Foreteller_follow 146 = .ok (.iaload, 1) := by decide +kernel
theorem d_Foreteller_follow_147 : decode b_Foreteller_follow 147 = .ok (.invokevirtual 134, 3) := by decide +kernel
theorem d_Foreteller_follow_150 : decode b_Foreteller_follow 150 = .ok (.ifCond .eq 10, 3) := by decide +kernel
theorem d_Foreteller_follow_153 : decode b_Foreteller_follow 153 = .ok (.aload_n 0, 1) := by decide +kernel
theorem d_Foreteller_follow_154 : decode b_Foreteller_follow 154 = .ok (.iload_n 1, 1) := by decide +kernel
theorem d_Foreteller_follow_155 : decode b_Foreteller_follow 155 = .ok (.iconst 1, 1) := by decide +kernel
theorem d_Foreteller_follow_156 : decode b_Foreteller_follow 156 = .ok (.iadd, 1) := by decide +kernel
theorem d_Foreteller_follow_157 : decode b_Foreteller_follow 157 = .ok (.invokevirtual 118, 3) := by decide +kernel
theorem d_Foreteller_foretell_88 : decode b_Foreteller_foretell 88 = .ok (.iinc 3 1, 3) := by decide +kernel
theorem d_Foreteller_foretell_91 : decode b_Foreteller_foretell 91 = .ok (.goto (-42), 3) := by decide +kernel
